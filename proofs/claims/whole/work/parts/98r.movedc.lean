/-! ===== moved: marks as they would be ===== -/
theorem lN_xor' (a b : Nat) : lN a ^^^ lN b = lN (a ^^^ b) := Int64.toBitVec_inj.mp (by simp [lN, BitVec.ofNat_xor])
theorem shl64 {i : Nat} (h : i < 40) : (1 : Int64) <<< (Int32.toInt64 (nI i) &&& 63) = lN (2 ^ i) := by
  have : ∀ i : Fin 40, (1 : Int64) <<< (Int32.toInt64 (nI i.1) &&& 63) = lN (2 ^ i.1) := by decide
  exact this ⟨i, h⟩
/-- how much one's mark would be more -/
def gain (τ : St) (T R t k : Nat) (w v : Int32) : Int32 := if lastB (tk τ k w) T = some t then (if w = 0 then τ.1 0 17 0 * (v - rtv τ R t (τ.1 0 0 0)) else τ.1 0 17 2 * (rcd v - rcd (rtv τ R t (τ.1 0 0 0)))) else 0
section MovedC
variable {σ τ : St} {U P Q T R L E : Nat}
theorem knT_now (hd : Rg 0 3000 (τ.1 0 0 0)) (ht : ITe σ τ Q T R) (k : Nat) (w : Int32) : knT τ T k w (τ.1 0 0 0) = lastB (tk τ k w) T := by
  unfold knT
  refine lastB_cong (fun i hi => ?_)
  have h7 := (ht.2.2.2 i hi).2.2.2.2.2.2.1
  rw [decide_eq_true (show ¬ τ.1 0 0 0 < τ.1 0 22 i by rw [i_lt]; have := h7.2; omega), Bool.and_true]
theorem rtv_put (hr : IRi σ τ T R) {t : Nat} (htt : t < 2 ^ 31) (v : Int32) {t' : Nat} (ht' : t' < 2 ^ 31) : rtv (nrM τ R t v) (R + 1) t' (τ.1 0 0 0) = if t' = t then v else rtv τ R t' (τ.1 0 0 0) := by
  have m23 : ∀ j, j ≠ R → (nrM τ R t v).1 0 23 j = τ.1 0 23 j := fun j hj => by simp [nrM, sx_1, hj]
  have m24 : ∀ j, j ≠ R → (nrM τ R t v).1 0 24 j = τ.1 0 24 j := fun j hj => by simp [nrM, sx_1, hj]
  have m25 : ∀ j, j ≠ R → (nrM τ R t v).1 0 25 j = τ.1 0 25 j := fun j hj => by simp [nrM, sx_1, hj]
  have m23' : (nrM τ R t v).1 0 23 R = nI t := by simp [nrM, sx_1]
  have m24' : (nrM τ R t v).1 0 24 R = v := by simp [nrM, sx_1]
  have m25' : (nrM τ R t v).1 0 25 R = τ.1 0 0 0 := by simp [nrM, sx_1]
  have e' : knR (nrM τ R t v) (R + 1) t' (τ.1 0 0 0) = if (rk (nrM τ R t v) t' R && decide (¬ τ.1 0 0 0 < (nrM τ R t v).1 0 25 R)) then some R else knR (nrM τ R t v) R t' (τ.1 0 0 0) := rfl
  have e2 : knR (nrM τ R t v) R t' (τ.1 0 0 0) = knR τ R t' (τ.1 0 0 0) := by
    unfold knR
    refine lastB_cong (fun i hi => ?_)
    unfold rk
    rw [m23 i (by omega), m25 i (by omega)]
  unfold rtv
  rw [e', e2, m25', decide_eq_true (show ¬ τ.1 0 0 0 < τ.1 0 0 0 by rw [i_lt]; omega), Bool.and_true]
  unfold rk
  rw [m23']
  by_cases c : t' = t
  · rw [decide_eq_true (show nI t = nI t' by rw [c]), if_pos rfl, if_pos c, oes, m24']
  · rw [decide_eq_false (fun e => c (nI_inj htt ht' e).symm), if_neg (by decide), if_neg c]
    cases hc : knR τ R t' (τ.1 0 0 0) with
    | none => rfl
    | some r =>
      have := (lastB_some hc).1
      show (nrM τ R t v).1 0 24 r = τ.1 0 24 r
      exact m24 r (by omega)
theorem kn_put (hd : Rg 0 3000 (τ.1 0 0 0)) (ht : ITe σ τ Q T R) (hr : IRi σ τ T R) {t : Nat} (htt : t < T) (v : Int32) (k : Nat) (w : Int32) : kn (nrM τ R t v) T (R + 1) k w (τ.1 0 0 0) = if lastB (tk τ k w) T = some t then v else kn τ T R k w (τ.1 0 0 0) := by
  have hT := ht.1
  have e1 : knT (nrM τ R t v) T k w (τ.1 0 0 0) = knT τ T k w (τ.1 0 0 0) := rfl
  unfold kn
  rw [e1, knT_now hd ht]
  cases hc : lastB (tk τ k w) T with
  | none => rfl
  | some t' =>
    have ht' := (lastB_some hc).1
    rw [oes, oes, rtv_put hr (show t < 2 ^ 31 by omega) v (show t' < 2 ^ 31 by omega)]
    by_cases c : t' = t
    · rw [if_pos c, if_pos (by rw [c])]
    · rw [if_neg c, if_neg (fun e => c (Option.some.inj e))]
theorem kn_last (hd : Rg 0 3000 (τ.1 0 0 0)) (ht : ITe σ τ Q T R) {t k : Nat} {w : Int32} (hc : lastB (tk τ k w) T = some t) : kn τ T R k w (τ.1 0 0 0) = rtv τ R t (τ.1 0 0 0) := by
  unfold kn
  rw [knT_now hd ht, hc]
  rfl
theorem alg_a (a b c d v x : Int32) (w : Int32) : 0 + w * v + a + b + c = 0 + w * x + a + b + c + w * (v - x) := by grind
theorem alg_b (a b c v x : Int32) (w : Int32) : 0 + a + b + w * v + c = 0 + a + b + w * x + c + w * (v - x) := by grind
theorem em_eq (x : St) (T R' k : Nat) (d : Int32) : mk x T R' k d = 0 + x.1 0 17 0 * kn x T R' k 0 d + x.1 0 17 1 * sk1 x k + x.1 0 17 2 * rcd (kn x T R' k 1 d) + x.1 0 17 3 * ys x k := by
  unfold mk
  simp only [msum, prt]
theorem w17_put (τ : St) (R t : Nat) (v : Int32) (i : Nat) : (nrM τ R t v).1 0 17 i = τ.1 0 17 i := by simp [nrM, sx_1]
theorem sk1_put (τ : St) (R t : Nat) (v : Int32) (k : Nat) : sk1 (nrM τ R t v) k = sk1 τ k := by
  have c12 : (nrM τ R t v).1 0 12 k = τ.1 0 12 k := by simp [nrM, sx_1]
  have e : ∀ p, skl (nrM τ R t v) k p = skl τ k p := fun p => rfl
  unfold sk1
  rw [c12, e]
theorem ys_put (τ : St) (R t : Nat) (v : Int32) (k : Nat) : ys (nrM τ R t v) k = ys τ k := by
  have e : yr (nrM τ R t v) k = yr τ k := by
    unfold yr
    simp [nrM, sx_1]
  unfold ys
  rw [e]
theorem mk_put (hd : Rg 0 3000 (τ.1 0 0 0)) (ht : ITe σ τ Q T R) (hr : IRi σ τ T R) {t : Nat} (htt : t < T) (v : Int32) {k0 : Nat} (hk0 : k0 < Q) (hQ : Q ≤ 40) (hwho : τ.1 0 19 t = nI k0) {k : Nat} (hk : k < Q) : mk (nrM τ R t v) T (R + 1) k (τ.1 0 0 0) = if k = k0 then mk τ T R k (τ.1 0 0 0) + gain τ T R t k0 (τ.1 0 20 t) v else mk τ T R k (τ.1 0 0 0) := by
  have hT := ht.1
  have hw := (ht.2.2.2 t htt).2.2.2.1
  have own : ∀ k' w, k' < Q → lastB (tk τ k' w) T = some t → k' = k0 ∧ w = τ.1 0 20 t := by
    intro k' w hk' hc
    have h2 := (lastB_some hc).2.1
    obtain ⟨a, b⟩ := of_decide_eq_true h2
    rw [hwho] at a
    exact ⟨(nI_inj (by omega) (by omega) a).symm, b.symm⟩
  rw [em_eq, em_eq, w17_put, w17_put, w17_put, w17_put, sk1_put, ys_put, kn_put hd ht hr htt v k 0, kn_put hd ht hr htt v k 1]
  by_cases ck : k = k0
  · subst ck
    rw [if_pos rfl]
    unfold gain
    rcases hw with e | e
    · rw [e]
      have n1 : ¬ lastB (tk τ k 1) T = some t := fun c => by
        have := (own k 1 hk c).2
        rw [e] at this
        exact absurd this (by decide)
      rw [if_neg n1]
      by_cases c : lastB (tk τ k 0) T = some t
      · rw [if_pos c, if_pos c, if_pos rfl, kn_last hd ht c]
        grind
      · rw [if_neg c, if_neg c]
        grind
    · rw [e]
      have n0 : ¬ lastB (tk τ k 0) T = some t := fun c => by
        have := (own k 0 hk c).2
        rw [e] at this
        exact absurd this (by decide)
      rw [if_neg n0]
      by_cases c : lastB (tk τ k 1) T = some t
      · rw [if_pos c, if_pos c, if_neg (show ¬ (1 : Int32) = 0 by decide), kn_last hd ht c]
        grind
      · rw [if_neg c, if_neg c]
        grind
  · rw [if_neg ck]
    have n0 : ¬ lastB (tk τ k 0) T = some t := fun c => ck (own k 0 hk c).1
    have n1 : ¬ lastB (tk τ k 1) T = some t := fun c => ck (own k 1 hk c).1
    rw [if_neg n0, if_neg n1]
theorem p_gain_eq (h : InvB σ τ U P Q T R L E) {σ' : St} (hf : FrC σ σ') {t k0 : Nat} (htt : t < T) (hk0 : k0 < Q) (hwho : σ'.2 3 t 0 = some k0) (v : Int32) : p_Ranks_gainOf σ' t v = some (gain τ T R t k0 (τ.1 0 20 t) v) := by
  obtain ⟨hs, hu, hp, hq, ht, hr, hl, he⟩ := h.frC hf
  obtain ⟨b1, b2, b3, b4, b5, b6, b7, b8, b9, b10⟩ := ht.2.2.2 t htt
  unfold p_Ranks_gainOf gain
  rw [lt1_eq, hwho, oes, b3, p_lastTold_eq hq hk0 b4, obs]
  by_cases c : lastB (tk τ k0 (τ.1 0 20 t)) T = some t
  · rw [if_pos c, if_pos c, hs.1, p_asOf_eq ht hr htt, obs]
    by_cases c2 : τ.1 0 20 t = 0
    · rw [if_pos c2, if_pos c2, show ix 4 (0 : Int32) = some 0 from rfl, obs, (hs.2.2.1 0 (by decide)).1]
    · rw [if_neg c2, if_neg c2, show ix 4 (2 : Int32) = some 2 from rfl, obs, (hs.2.2.1 2 (by decide)).1]
      rfl
  · rw [if_neg c, if_neg c]
/-- who goes, as bits -/
theorem p_goers_eq (h : InvB σ τ U P Q T R L E) {σ' : St} (hf : FrC σ σ') {el : List Nat} (hlen : el.length ≤ 40) (hQ' : ∀ x k : Nat, el[x]? = some k → k < Q) (h35 : σ'.1 0 3 5 = nI el.length) (hrow : ∀ x k : Nat, el[x]? = some k → σ'.2 0 18 x = some k) {c : Nat} {f : Nat → Int32} (hc : ∀ x k : Nat, el[x]? = some k → σ'.1 0 c x = f k) {n : Nat} (hn : n ≤ 40) : p_Ranks_goers σ' c (nI n) = some (lN (mkm (fun x => decide (el.countP (fun j => ltK f (τ.1 0 10) j (el.getD x 0)) < n)) el.length)) := by
  unfold p_Ranks_goers
  refine itr_bd el.length (fun i => (lN (mkm (fun x => decide (el.countP (fun j => ltK f (τ.1 0 10) j (el.getD x 0)) < n)) i), nI i)) _ (FU_lt (by omega)) rfl (fun i hi => ?_) ?_ rfl
  · obtain ⟨k, hk⟩ : ∃ k, el[i]? = some k := ⟨el[i], List.getElem?_eq_getElem hi⟩
    have hgd : el.getD i 0 = k := by rw [List.getD_eq_getElem?_getD, hk]; rfl
    have hcl : el.countP (fun j => ltK f (τ.1 0 10) j k) ≤ el.length := List.countP_le_length
    simp only [h35, if_pos (nI_lt hi (show el.length < 2 ^ 31 by omega)), p_ahead_eq h hf hlen hQ' h35 hrow hc hk, obs, nI_1]
    have e : mkm (fun x => decide (el.countP (fun j => ltK f (τ.1 0 10) j (el.getD x 0)) < n)) (i + 1) = mkm (fun x => decide (el.countP (fun j => ltK f (τ.1 0 10) j (el.getD x 0)) < n)) i ||| (if decide (el.countP (fun j => ltK f (τ.1 0 10) j (el.getD i 0)) < n) then 2 ^ i else 0) := rfl
    rw [e, hgd]
    by_cases cc : el.countP (fun j => ltK f (τ.1 0 10) j k) < n
    · rw [if_pos (nI_lt cc (by omega)), obs, decide_eq_true cc, if_pos rfl, shl64 (by omega), lN_or]
    · rw [if_neg (nI_nlt (by omega) (by omega)), obs, decide_eq_false cc, if_neg (by decide), Nat.or_zero]
  · simp only [h35, if_neg (nI_nlt (Nat.le_refl el.length) (show el.length < 2 ^ 31 by omega))]
theorem countP_cong {f f' c : Nat → Int32} {el : List Nat} {k : Nat} (h : ∀ j, j ∈ el → f j = f' j) (hk : f k = f' k) : el.countP (fun j => ltK f c j k) = el.countP (fun j => ltK f' c j k) := by
  refine List.countP_congr (fun j hj => ?_)
  unfold ltK
  rw [h j hj, hk]
set_option maxHeartbeats 400000 in
theorem p_movedBy_ok (h : InvB σ τ U P Q T R L E) {el : List Nat} {f : Nat → Int32} {σ1 : St} (hR : RG σ el f σ1) (hlen : el.length ≤ 40) (hQ' : ∀ x k : Nat, el[x]? = some k → k < Q) (hnd : ∀ x y k : Nat, el[x]? = some k → el[y]? = some k → x = y) {n t k0 : Nat} (hn : n ≤ 40) (htt : t < T) (hk0 : k0 < Q) (hwho : σ.2 3 t 0 = some k0) (v : Int32) : OK (p_Ranks_movedBy σ1 (nI n) t v) (fun r => FrC σ r.2 ∧ r.1 = nI (cnt (fun x => decide (el.countP (fun j => ltK f (τ.1 0 10) j (el.getD x 0)) < n) != decide (el.countP (fun j => ltK (fun k => if k = k0 then f k + gain τ T R t k0 (τ.1 0 20 t) v else f k) (τ.1 0 10) j (el.getD x 0)) < n)) el.length)) := by
  unfold p_Ranks_movedBy
  refine OK.bi (OK.mono (R := fun σ2 => RG σ el f σ2 ∧ ∀ x k, el[x]? = some k → σ2.1 0 20 x = f k) ?_ ?_)
  · refine OK.itr el.length (fun i s => s.1 = nI i ∧ RG σ el f s.2 ∧ ∀ x k, x < i → el[x]? = some k → s.2.1 0 20 x = f k) ⟨rfl, hR, fun x k hx => by omega⟩ (fun i s hi hs' => ?_) (fun s hs' => ?_) (FU_lt (by omega))
    · obtain ⟨i', σ2⟩ := s
      obtain ⟨e1, ⟨hf, h35, hrow⟩, hg⟩ := hs'
      simp only at e1 hf h35 hrow hg ⊢
      subst e1
      obtain ⟨j, hj⟩ : ∃ j, el[i]? = some j := ⟨el[i], List.getElem?_eq_getElem hi⟩
      rw [h35, if_pos (nI_lt hi (show el.length < 2 ^ 31 by omega)), ix_nI (show i < 40 by omega) (by decide), obs, obs, lt1_eq, nI_1, (hrow i j hj).2]
      refine OK.so ⟨rfl, ⟨hf.sx rfl, h35, hrow⟩, fun x k hx hxk => ?_⟩
      show (sx σ2 0 20 i (f j)).1 0 20 x = _
      rw [sx_1]
      by_cases e : x = i
      · subst e
        rw [hj] at hxk
        cases hxk
        rw [if_pos ⟨rfl, rfl, rfl⟩]
      · rw [if_neg (fun c => e c.2.2)]
        exact hg x k (by omega) hxk
    · obtain ⟨i', σ2⟩ := s
      obtain ⟨e1, hR2, hg⟩ := hs'
      simp only at e1 hR2 hg ⊢
      subst e1
      rw [hR2.2.1, if_neg (nI_nlt (Nat.le_refl _) (show el.length < 2 ^ 31 by omega))]
      exact OK.so ⟨hR2, fun x k hx => hg x k (gq_lt hx) hx⟩
  · rintro σ2 ⟨hR2, h20⟩
    have hw2 : σ2.2 3 t 0 = some k0 := by rw [(hR2.1 3 t 0 rfl).2]; exact hwho
    obtain ⟨r, z1, z2⟩ := p_rplace_ok hR2 hlen k0
    rw [lt1_eq, hw2, oes, z1, obs]
    -- the row as it would be
    have mid : ∃ σ3, (if r < 0 then some σ2 else (Option.bind (ix 40 r) fun i24 => (Option.bind (p_Ranks_gainOf σ2 t v) fun r25 => (Option.bind (ix 40 r) fun i27 => (lt1 (sx σ2 0 20 i27 ((σ2.1 0 20 i24) + r25)) fun σ28 => some σ28))))) = some σ3 ∧ RG σ el f σ3 ∧ ∀ x k, el[x]? = some k → σ3.1 0 20 x = if k = k0 then f k + gain τ T R t k0 (τ.1 0 20 t) v else f k := by
      rcases z2 with ⟨m1, x0, rfl, hx0⟩ | ⟨m1, rfl⟩
      · have hxl := gq_lt hx0
        refine ⟨sx σ2 0 20 x0 (f k0 + gain τ T R t k0 (τ.1 0 20 t) v), ?_, ⟨hR2.1.sx rfl, hR2.2.1, hR2.2.2⟩, fun x k hx => ?_⟩
        · rw [if_neg (nI_pos (show x0 < 2 ^ 31 by omega)), ix_nI (show x0 < 40 by omega) (by decide), obs, p_gain_eq h hR2.1 htt hk0 hw2, obs, obs, lt1_eq, h20 x0 k0 hx0]
        · rw [sx_1]
          by_cases e : x = x0
          · subst e
            rw [hx0] at hx
            cases hx
            rw [if_pos ⟨rfl, rfl, rfl⟩, if_pos rfl]
          · rw [if_neg (fun c => e c.2.2), h20 x k hx, if_neg (fun c => e (hnd x x0 k0 (by rw [← c]; exact hx) hx0))]
      · refine ⟨σ2, by rw [if_pos (show (-1 : Int32) < 0 by decide)], hR2, fun x k hx => ?_⟩
        rw [h20 x k hx, if_neg (fun c => m1 (by rw [← c]; exact List.mem_of_getElem? hx))]
    obtain ⟨σ3, m0, hR3, h203⟩ := mid
    rw [m0, obs, p_goers_eq h hR3.1 hlen hQ' hR3.2.1 (fun x k hx => (hR3.2.2 x k hx).1) (fun x k hx => (hR3.2.2 x k hx).2) hn, obs, p_goers_eq h hR3.1 hlen hQ' hR3.2.1 (fun x k hx => (hR3.2.2 x k hx).1) h203 hn, obs, lN_xor']
    have hp40 : 2 ^ el.length ≤ 2 ^ 40 := Nat.pow_le_pow_right (by decide) hlen
    have l1 := mkm_lt (fun x => decide (el.countP (fun j => ltK f (τ.1 0 10) j (el.getD x 0)) < n)) el.length
    have l2 := mkm_lt (fun x => decide (el.countP (fun j => ltK (fun k => if k = k0 then f k + gain τ T R t k0 (τ.1 0 20 t) v else f k) (τ.1 0 10) j (el.getD x 0)) < n)) el.length
    rw [lbc_eq (Nat.xor_lt_two_pow (by omega) (by omega)), obs]
    refine OK.so ⟨hR3.1, ?_⟩
    show nI _ = nI _
    congr 1
    rw [cnt_ext (m := el.length) hlen (fun i h1 h2 => by rw [Nat.testBit_xor, mkm_tb, mkm_tb, decide_eq_false (show ¬ i < el.length by omega)]; rfl)]
    refine cnt_cong (fun i hi => ?_)
    rw [Nat.testBit_xor, mkm_tb, mkm_tb, decide_eq_true hi, Bool.true_and, Bool.true_and]
end MovedC
