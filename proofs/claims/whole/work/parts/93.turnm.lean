/-! ===== turning: the reference ===== -/
theorem Fr_same {scr : Nat → Nat → Nat → Bool} (B : St) (d j k : Nat) : Fr scr (sx B d j k (B.1 d j k)) B := by
  intro d' j' k' _
  rw [sx_1]
  refine ⟨?_, rfl⟩
  split
  · rename_i h; rw [h.1, h.2.1, h.2.2]
  · rfl
theorem Fr_swap {scr : Nat → Nat → Nat → Bool} {B s : St} {d j k : Nat} {v : Int32} (h : Fr scr (sx B d j k v) s) (v' : Int32) : Fr scr (sx B d j k v') (sx s d j k v') := by
  intro d' j' k' hk
  have := h d' j' k' hk
  rw [sx_1] at this
  rw [sx_1, sx_1]
  by_cases c : d' = d ∧ j' = j ∧ k' = k
  · rw [if_pos c, if_pos c]
    exact ⟨rfl, this.2⟩
  · rw [if_neg c] at this
    rw [if_neg c, if_neg c]
    exact this
theorem Fr_put {scr : Nat → Nat → Nat → Bool} {B s : St} {d j k : Nat} {v : Int32} (h : Fr scr (sx B d j k v) s) : Fr scr B (sx s d j k (B.1 d j k)) := by
  intro d' j' k' hk
  have := h d' j' k' hk
  rw [sx_1] at this
  rw [sx_1]
  by_cases c : d' = d ∧ j' = j ∧ k' = k
  · rw [if_pos c, c.1, c.2.1, c.2.2]
    rw [c.1, c.2.1, c.2.2] at this
    exact ⟨rfl, this.2⟩
  · rw [if_neg c] at this
    rw [if_neg c]
    exact this
theorem tf_ne {c1 c2 : Nat → Bool} {b : Nat} (hb : b ≤ 100) : nI b ≠ (-9 : Int32) ∧ (1000 : Int32) + nI b ≠ -9 := by
  constructor
  · intro e
    have := nI_pos (n := b) (by omega)
    rw [e] at this
    exact this (by decide)
  · intro e
    have e1 : (1000 : Int32) + nI b = nI (1000 + b) := nI_add 1000 b
    rw [e1] at e
    have := nI_pos (n := 1000 + b) (by omega)
    rw [e] at this
    exact this (by decide)
set_option maxHeartbeats 1000000 in
theorem m_turn_ok {σ τ : St} {U P Q T R : Nat} (h : WK σ τ U P Q T R) {g : Nat → Int32} {pl : Int32} (hg : ∀ p, p < P → τ.1 0 27 p = g p) {m : Nat} (hm : m ≤ 40) {k w nw : Nat} (hk : k < Q) (hel : k ∈ ell τ g pl Q) (hw : w < 4) (hnw : τ.1 0 17 w = nI nw) (hn20 : nw ≤ 20) : OK (Option.bind (m_isCut τ (nI k) pl (nI m)) fun r19 => (Option.bind (ix 4 (nI w)) fun i21 => (Option.bind (itr0 (S := Int32 × Int32 × St) (E := Int32 × St) (fun s22 => (if (60 : Int32) < s22.2.1 then some (.inr (s22.1, s22.2.2)) else (if s22.1 = (-9 : Int32) then (Option.bind (itr0 (S := Int32 × Int32 × St) (E := Int32 × St) (fun s32 => (if s32.2.1 < (2 : Int32) then (if s32.1 = (-9 : Int32) then (Option.bind (α := Int32) ((if s32.2.1 = 0 then some ((r19.2.1 0 17 i21) + s22.2.1) else some ((r19.2.1 0 17 i21) - s22.2.1))) fun t40 => (Option.bind (m_in t40 (0 : Int32) (60 : Int32)) fun r43 => (Option.bind (α := Int32 × St) ((if r43 = 0 then some (s32.1, s32.2.2) else (Option.bind (ix 4 (nI w)) fun i48 => (lt1 (sx s32.2.2 0 17 i48 t40) fun σ49 => (Option.bind (m_isCut σ49 (nI k) pl (nI m)) fun r50 => (Option.bind (α := Int32) ((if r50.1 = r19.1 then some (-9 : Int32) else some (s22.2.1 + ((1000 : Int32) * s32.2.1)))) fun t52 => some (t52, r50.2))))))) fun t45 => some (.inl (t45.1, s32.2.1 + (1 : Int32), t45.2))))) else some (.inr (s32.1, s32.2.2))) else some (.inr (s32.1, s32.2.2)))) FU (s22.1, (0 : Int32), s22.2.2)) fun e37 => some (.inl (e37.1, s22.2.1 + (1 : Int32), e37.2))) else some (.inr (s22.1, s22.2.2))))) FU ((-9 : Int32), (1 : Int32), r19.2)) fun e27 => (Option.bind (ix 4 (nI w)) fun i30 => (lt1 (sx e27.2 0 17 i30 (r19.2.1 0 17 i21)) fun σ31 => some (e27.1, σ31))))))
    (fun r => FrM τ r.2 ∧ r.1 = tf (tc1 (ell τ g pl Q) (fun k => mk τ T R k (τ.1 0 0 0)) (fun k => prt τ T R k (τ.1 0 0 0) w) (τ.1 0 10) m k nw (decide ((ell τ g pl Q).countP (fun j => ltK (fun k => mk τ T R k (τ.1 0 0 0)) (τ.1 0 10) j k) < m))) (tc2 (ell τ g pl Q) (fun k => mk τ T R k (τ.1 0 0 0)) (fun k => prt τ T R k (τ.1 0 0 0) w) (τ.1 0 10) m k nw (decide ((ell τ g pl Q).countP (fun j => ltK (fun k => mk τ T R k (τ.1 0 0 0)) (τ.1 0 10) j k) < m))) 60 1) := by
  obtain ⟨⟨r0, B⟩, i1, i2, i3⟩ := m_isCut_ok h (pl := pl) hg hm hk
  simp only at i2 i3
  have hct : ∀ f : Nat → Int32, ctB (ell τ g pl Q) f (τ.1 0 10) m k = decide ((ell τ g pl Q).countP (fun j => ltK f (τ.1 0 10) j k) < m) := fun f => by
    unfold ctB
    rw [decide_eq_true hel, Bool.true_and]
  rw [hct] at i3
  rw [i1, obs, ix_nI hw (by decide), obs]
  have hBM := i2.toM
  have hBw : B.1 0 17 w = nI nw := by rw [(i2 0 17 w rfl).1, hnw]
  -- one try
  have try1 : ∀ (s : St) (v v' : Int32), FrK (sx B 0 17 w v) s → OK (m_isCut (sx s 0 17 w v') (nI k) pl (nI m)) (fun r => FrK (sx B 0 17 w v') r.2 ∧ r.1 = if tq (ell τ g pl Q) (fun k => mk τ T R k (τ.1 0 0 0)) (fun k => prt τ T R k (τ.1 0 0 0) w) (τ.1 0 10) m k (v' - nI nw) then 1 else 0) := by
    intro s v v' hs
    have hf : FrK (sx B 0 17 w v') (sx s 0 17 w v') := Fr_swap hs v'
    have hwB : WK σ B U P Q T R := h.fr hBM
    have hwv : WK σ (sx B 0 17 w v') U P Q T R := hwB
    have hws := hwv.fr hf.toM
    have h27 : ∀ p, p < P → (sx s 0 17 w v').1 0 27 p = g p := fun p hp => by
      have e1 : (sx s 0 17 w v').1 0 27 p = (sx B 0 17 w v').1 0 27 p := (hf 0 27 p rfl).1
      have e2 : (sx B 0 17 w v').1 0 27 p = B.1 0 27 p := rfl
      rw [e1, e2, (i2 0 27 p rfl).1]
      exact hg p hp
    refine OK.mono (m_isCut_ok hws (pl := pl) h27 hm hk) ?_
    rintro ⟨r, s2⟩ ⟨a1, a2⟩
    simp only at a1 a2 ⊢
    refine ⟨hf.trans a1, ?_⟩
    have e1 : ell (sx s 0 17 w v') g pl Q = ell τ g pl Q := by
      rw [ell_fr hf.toM]
      show ell B g pl Q = ell τ g pl Q
      rw [ell_fr hBM]
    have e2 : (fun k => mk (sx s 0 17 w v') T R k ((sx s 0 17 w v').1 0 0 0)) = (fun k => mk τ T R k (τ.1 0 0 0) + (v' - nI nw) * prt τ T R k (τ.1 0 0 0) w) := by
      rw [mkf_fr hf.toM]
      funext k'
      have e3 : (sx B 0 17 w v').1 0 0 0 = B.1 0 0 0 := rfl
      rw [e3, mk_w hw, hBw, mk_fr hBM, prt_fr hBM, (i2 0 0 0 rfl).1]
    have e3 : (sx s 0 17 w v').1 0 10 = τ.1 0 10 := by
      funext k'
      have e4 : (sx s 0 17 w v').1 0 10 k' = (sx B 0 17 w v').1 0 10 k' := (hf 0 10 k' rfl).1
      have e5 : (sx B 0 17 w v').1 0 10 k' = B.1 0 10 k' := rfl
      rw [e4, e5, (i2 0 10 k' rfl).1]
    rw [e1, e2, e3, hct] at a2
    exact a2
  have hB0 : FrK (sx B 0 17 w (B.1 0 17 w)) B := Fr_same B 0 17 w
  generalize (fun k => mk τ T R k (τ.1 0 0 0)) = f at *
  generalize (fun k => prt τ T R k (τ.1 0 0 0) w) = gr at *
  generalize ell τ g pl Q = el at *
  generalize decide (el.countP (fun j => ltK f (τ.1 0 10) j k) < m) = is at *
  generalize hc1 : tc1 el f gr (τ.1 0 10) m k nw is = c1
  generalize hc2 : tc2 el f gr (τ.1 0 10) m k nw is = c2
  simp only [hBw, i3]
  refine OK.bi (OK.mono (R := fun e => e.1 = tf c1 c2 60 1 ∧ ∃ v, FrK (sx B 0 17 w v) e.2) ?_ ?_)
  · refine OK.itr 60 (fun i s => s.2.1 = nI (i + 1) ∧ (∃ v, FrK (sx B 0 17 w v) s.2.2) ∧ ((s.1 = -9 ∧ tf c1 c2 60 1 = tf c1 c2 (60 - i) (i + 1)) ∨ (s.1 ≠ -9 ∧ s.1 = tf c1 c2 60 1))) ⟨rfl, ⟨_, hB0⟩, Or.inl ⟨rfl, rfl⟩⟩ (fun i s hi hs' => ?_) (fun s hs' => ?_) (FU_lt (by decide))
    · obtain ⟨fd, b', s1⟩ := s
      obtain ⟨e1, ⟨v, hv⟩, hd⟩ := hs'
      simp only at e1 hv hd ⊢
      subst e1
      rw [if_neg (show ¬ (60 : Int32) < nI (i + 1) from nI_nlt (a := 60) (by omega) (by decide))]
      rcases hd with ⟨rfl, htf⟩ | ⟨hd1, hd2⟩
      · rw [if_pos rfl]
        obtain ⟨n, hn⟩ : ∃ n, 60 - i = n + 1 := ⟨60 - i - 1, by omega⟩
        rw [hn] at htf
        have htf' : tf c1 c2 60 1 = if c1 (i + 1) then nI (i + 1) else if c2 (i + 1) then 1000 + nI (i + 1) else tf c1 c2 n (i + 1 + 1) := htf
        have hn' : 60 - (i + 1) = n := by omega
        obtain ⟨q1, q2⟩ := tf_ne (c1 := c1) (c2 := c2) (b := i + 1) (by omega)
        refine OK.bi (OK.mono (R := fun e => (∃ v, FrK (sx B 0 17 w v) e.2) ∧ e.1 = if c1 (i + 1) then nI (i + 1) else if c2 (i + 1) then 1000 + nI (i + 1) else -9) ?_ ?_)
        · refine OK.itr 2 (fun j s => (j = 0 ∧ s.1 = -9 ∧ s.2.1 = 0 ∧ ∃ v, FrK (sx B 0 17 w v) s.2.2) ∨ (j = 1 ∧ s.1 = (if c1 (i + 1) then nI (i + 1) else -9) ∧ s.2.1 = 1 ∧ ∃ v, FrK (sx B 0 17 w v) s.2.2) ∨ (j = 2 ∧ c1 (i + 1) = false ∧ s.1 = (if c2 (i + 1) then 1000 + nI (i + 1) else -9) ∧ s.2.1 = 2 ∧ ∃ v, FrK (sx B 0 17 w v) s.2.2)) (Or.inl ⟨rfl, rfl, rfl, v, hv⟩) (fun j s hj hs' => ?_) (fun s hs' => ?_) (FU_lt (by decide))
          · obtain ⟨fd, l', s2⟩ := s
            rcases hs' with ⟨rfl, d1, d2, v2, d3⟩ | ⟨rfl, d1, d2, v2, d3⟩ | ⟨rfl, -⟩
            · simp only at d1 d2 d3 ⊢
              subst d1; subst d2
              rw [if_pos (show (0 : Int32) < 2 by decide), if_pos rfl, if_pos rfl, obs, nI_add, m_in_eq, obs]
              by_cases c : nw + (i + 1) ≤ 60
              · have hin : (0 : Int32) ≤ nI (nw + (i + 1)) ∧ nI (nw + (i + 1)) ≤ 60 := ⟨nI_pos' (by omega), nI_le (b := 60) c (by decide)⟩
                rw [bI_t hin, if_neg (show ¬ (1 : Int32) = 0 by decide), obs, lt1_eq]
                obtain ⟨⟨r, s3⟩, k1, k2, k3⟩ := try1 s2 v2 (nI (nw + (i + 1))) d3
                simp only at k2 k3
                rw [k1, obs]
                have ev : nI (nw + (i + 1)) - nI nw = nI (i + 1) := by rw [pk_sub (by omega)]; congr 1; omega
                rw [ev] at k3
                simp only [k3]
                by_cases d : tq el f gr (τ.1 0 10) m k (nI (i + 1)) = is
                · have hf1 : c1 (i + 1) = false := by rw [← hc1]; unfold tc1; rw [d]; simp
                  rw [if_pos (b01.mpr d), obs, obs]
                  exact OK.so (Or.inr (Or.inl ⟨by trivial, by first | rfl | (rw [hf1]; rfl), by trivial, _, k2⟩))
                · have hf1 : c1 (i + 1) = true := by rw [← hc1]; unfold tc1; rw [decide_eq_true c]; simpa using d
                  rw [if_neg (fun e => d (b01.mp e)), obs, obs]
                  refine OK.so (Or.inr (Or.inl ⟨by trivial, ?_, by trivial, _, k2⟩))
                  rw [hf1, if_pos rfl]
                  show nI (i + 1) + 1000 * 0 = nI (i + 1)
                  grind
              · have hin : ¬ ((0 : Int32) ≤ nI (nw + (i + 1)) ∧ nI (nw + (i + 1)) ≤ 60) := fun hh => nI_ge (a := 60) (b := nw + (i + 1)) (by omega) (by omega) hh.2
                have hf1 : c1 (i + 1) = false := by rw [← hc1]; unfold tc1; rw [decide_eq_false c]; rfl
                rw [bI_f hin, if_pos rfl, obs]
                exact OK.so (Or.inr (Or.inl ⟨by trivial, by first | rfl | (rw [hf1]; rfl), by trivial, _, d3⟩))
            · simp only at d1 d2 d3 ⊢
              subst d1; subst d2
              rw [if_pos (show (1 : Int32) < 2 by decide)]
              cases hf1 : c1 (i + 1) with
              | true =>
                rw [if_pos rfl, if_neg q1]
                exact OK.so ⟨⟨_, d3⟩, by first | rfl | (rw [hf1]; rfl)⟩
              | false =>
                rw [if_neg (show ¬ (false = true) by decide), if_pos rfl, if_neg (show ¬ (1 : Int32) = 0 by decide), obs, m_in_eq, obs]
                by_cases c : i + 1 ≤ nw
                · rw [pk_sub c]
                  have hin : (0 : Int32) ≤ nI (nw - (i + 1)) ∧ nI (nw - (i + 1)) ≤ 60 := ⟨nI_pos' (by omega), nI_le (b := 60) (by omega) (by decide)⟩
                  rw [bI_t hin, if_neg (show ¬ (1 : Int32) = 0 by decide), obs, lt1_eq]
                  obtain ⟨⟨r, s3⟩, k1, k2, k3⟩ := try1 s2 v2 (nI (nw - (i + 1))) d3
                  simp only at k2 k3
                  rw [k1, obs]
                  have ev : nI (nw - (i + 1)) - nI nw = -nI (i + 1) := by rw [← pk_sub c]; grind
                  rw [ev] at k3
                  simp only [k3]
                  by_cases d : tq el f gr (τ.1 0 10) m k (-nI (i + 1)) = is
                  · have hf2 : c2 (i + 1) = false := by rw [← hc2]; unfold tc2; rw [d]; simp
                    rw [if_pos (b01.mpr d), obs, obs]
                    exact OK.so (Or.inr (Or.inr ⟨by trivial, by first | trivial | exact hf1, by first | rfl | (rw [hf2]; rfl), by trivial, _, k2⟩))
                  · have hf2 : c2 (i + 1) = true := by rw [← hc2]; unfold tc2; rw [decide_eq_true c]; simpa using d
                    rw [if_neg (fun e => d (b01.mp e)), obs, obs]
                    refine OK.so (Or.inr (Or.inr ⟨by trivial, by first | trivial | exact hf1, ?_, by trivial, _, k2⟩))
                    rw [hf2, if_pos rfl]
                    show nI (i + 1) + 1000 * 1 = 1000 + nI (i + 1)
                    grind
                · have hneg := pk_sneg (a := nw) (b := i + 1) (by omega) (by omega)
                  have hin : ¬ ((0 : Int32) ≤ nI nw - nI (i + 1) ∧ nI nw - nI (i + 1) ≤ 60) := fun hh => Int32.not_lt.mpr hh.1 hneg
                  have hf2 : c2 (i + 1) = false := by rw [← hc2]; unfold tc2; rw [decide_eq_false c]; rfl
                  rw [bI_f hin, if_pos rfl, obs]
                  exact OK.so (Or.inr (Or.inr ⟨by trivial, by first | trivial | exact hf1, by first | rfl | (rw [hf2]; rfl), by trivial, _, d3⟩))
            · omega
          · obtain ⟨fd, l', s2⟩ := s
            rcases hs' with ⟨c, -⟩ | ⟨c, -⟩ | ⟨-, d0, d1, d2, v2, d3⟩
            · omega
            · omega
            · simp only at d1 d2 d3 ⊢
              subst d1; subst d2
              rw [if_neg (show ¬ (2 : Int32) < 2 by decide)]
              exact OK.so ⟨⟨_, d3⟩, by first | rfl | (rw [d0]; rfl)⟩
        · rintro ⟨fd, s2⟩ ⟨hv2, hfd⟩
          simp only at hv2 hfd ⊢
          rw [nI_1]
          refine OK.so ⟨rfl, hv2, ?_⟩
          show (fd = -9 ∧ _) ∨ (fd ≠ -9 ∧ _)
          cases hf1 : c1 (i + 1) with
          | true =>
            rw [hf1, if_pos rfl] at hfd htf'
            exact Or.inr ⟨by rw [hfd]; exact q1, by rw [hfd, htf']⟩
          | false =>
            rw [hf1, if_neg (by decide)] at hfd htf'
            cases hf2 : c2 (i + 1) with
            | true =>
              rw [hf2, if_pos rfl] at hfd htf'
              exact Or.inr ⟨by rw [hfd]; exact q2, by rw [hfd, htf']⟩
            | false =>
              rw [hf2, if_neg (by decide)] at hfd htf'
              exact Or.inl ⟨hfd, by rw [htf', hn']⟩
      · rw [if_neg hd1]
        exact OK.so ⟨hd2, v, hv⟩
    · obtain ⟨fd, b', s1⟩ := s
      obtain ⟨e1, hv, hd⟩ := hs'
      simp only at e1 hv hd ⊢
      subst e1
      rw [if_pos (show (60 : Int32) < nI (60 + 1) by decide)]
      refine OK.so ⟨?_, hv⟩
      rcases hd with ⟨d1, d2⟩ | ⟨-, d2⟩
      · rw [d1, d2]; rfl
      · exact d2
  · rintro ⟨fd, s2⟩ ⟨hfd, v, hv⟩
    simp only at hfd hv ⊢
    rw [obs, lt1_eq]
    refine OK.so ⟨?_, hfd⟩
    have := Fr_put hv
    rw [hBw] at this
    exact hBM.trans (FrK.toM this)
