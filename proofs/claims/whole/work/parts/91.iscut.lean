/-! ===== whether one is cut ===== -/
/-- the cut's word on one -/
def ctB (el : List Nat) (f c : Nat → Int32) (m k : Nat) : Bool := decide (k ∈ el) && decide (el.countP (fun j => ltK f c j k) < m)
theorem m_isCut_ok {σ τ : St} {U P Q T R : Nat} (h : WK σ τ U P Q T R) {g : Nat → Int32} {pl : Int32} (hg : ∀ p, p < P → τ.1 0 27 p = g p) {m : Nat} (hm : m ≤ 40) {k : Nat} (hk : k < Q) : OK (m_isCut τ (nI k) pl (nI m)) (fun r => FrK τ r.2 ∧ r.1 = if ctB (ell τ g pl Q) (fun k => mk τ T R k (τ.1 0 0 0)) (τ.1 0 10) m k then 1 else 0) := by
  have hQ := h.2.1.1
  obtain ⟨⟨r, τ2⟩, d1, d2, l, d3, d4, d5, d6⟩ := m_cut_ok h (pl := pl) hg (nI m)
  have hlen : (ell τ g pl Q).length ≤ 40 := Nat.le_trans (rf_len _ _) hQ
  have hll : l.length ≤ 40 := by rw [d3.length_eq]; exact hlen
  simp only at d2 d5 d6
  rw [lmin (by omega) (by omega)] at d5
  subst d5
  unfold m_isCut
  rw [d1, obs]
  have hb : ctB (ell τ g pl Q) (fun k => mk τ T R k (τ.1 0 0 0)) (τ.1 0 10) m k = anyB (fun y => decide (l[y]? = some k)) (min m l.length) := by
    rw [Bool.eq_iff_iff, anyB_iff]
    unfold ctB
    rw [Bool.and_eq_true, decide_eq_true_iff, decide_eq_true_iff]
    constructor
    · rintro ⟨h1, h2⟩
      obtain ⟨x, x1, x2⟩ := rk_lt d3 d4 h1
      have := gq_lt x1
      exact ⟨x, by omega, decide_eq_true x1⟩
    · rintro ⟨y, h1, h2⟩
      have h2' : l[y]? = some k := of_decide_eq_true h2
      refine ⟨d3.mem_iff.mp (List.mem_of_getElem? h2'), ?_⟩
      rw [cnt_of_perm d3, rank_eq d4 h2']
      omega
  have hl : itr0 (S := Int32 × Int32) (E := Int32) (fun s3 => (if s3.2 < nI (min m l.length) then (Option.bind (α := Int32) ((if s3.1 = 0 then (Option.bind (ix 40 s3.2) fun i14 => (if τ2.1 0 28 i14 = nI k then some (1 : Int32) else some (0 : Int32))) else some (1 : Int32))) fun t11 => some (.inl (t11, s3.2 + (1 : Int32)))) else some (.inr s3.1))) FU ((0 : Int32), (0 : Int32)) = some (if anyB (fun y => decide (l[y]? = some k)) (min m l.length) then 1 else 0) := by
    refine itr_eq (min m l.length) (fun i => ((if anyB (fun y => decide (l[y]? = some k)) i then (1 : Int32) else 0), nI i)) _ rfl (fun i hi => ?_) ?_ (FU_lt (by omega))
    · obtain ⟨j, hj⟩ : ∃ j, l[i]? = some j := ⟨l[i], List.getElem?_eq_getElem (by omega)⟩
      have hjQ : j < Q := by
        have := d3.mem_iff.mp (List.mem_of_getElem? hj)
        rw [List.mem_filter, List.mem_range] at this
        exact this.1
      simp only [if_pos (nI_lt hi (show min m l.length < 2 ^ 31 by omega)), ix_nI (show i < 40 by omega) (show 40 < 2 ^ 31 by decide), obs, d6 i j hj, nI_1]
      have e : anyB (fun y => decide (l[y]? = some k)) (i + 1) = (anyB (fun y => decide (l[y]? = some k)) i || decide (j = k)) := by
        show (anyB (fun y => decide (l[y]? = some k)) i || decide (l[i]? = some k)) = _
        rw [hj]
        congr 1
        rw [decide_eq_decide]
        exact ⟨fun e => Option.some.inj e, fun e => by rw [e]⟩
      rw [e]
      cases anyB (fun y => decide (l[y]? = some k)) i with
      | true => rfl
      | false =>
        by_cases c : j = k
        · subst c; simp
        · have c' : ¬ nI j = nI k := fun e => c (nI_inj (by omega) (by omega) e)
          simp [c, c']
    · simp only [if_neg (nI_nlt (Nat.le_refl _) (show min m l.length < 2 ^ 31 by omega))]
  show OK ((itr0 (S := Int32 × Int32) (E := Int32) (fun s3 => (if s3.2 < nI (min m l.length) then (Option.bind (α := Int32) ((if s3.1 = 0 then (Option.bind (ix 40 s3.2) fun i14 => (if τ2.1 0 28 i14 = nI k then some (1 : Int32) else some (0 : Int32))) else some (1 : Int32))) fun t11 => some (.inl (t11, s3.2 + (1 : Int32)))) else some (.inr s3.1))) FU ((0 : Int32), (0 : Int32))).bind fun e8 => if e8 = 0 ∨ e8 = 1 then some (e8, τ2) else none) _
  rw [hl, obs, hb]
  cases anyB (fun y => decide (l[y]? = some k)) (min m l.length) with
  | true => exact OK.so ⟨d2, rfl⟩
  | false => exact OK.so ⟨d2, rfl⟩
/-- one weight is another -/
theorem msum_lo {τ : St} {T R k w : Nat} {d v : Int32} : ∀ n, n ≤ w → msum (sx τ 0 17 w v) T R k d n = msum τ T R k d n
  | 0, _ => rfl
  | n + 1, h => by
    show msum (sx τ 0 17 w v) T R k d n + _ * _ = msum τ T R k d n + _
    rw [msum_lo n (by omega), sx_1, if_neg (fun c => by have := c.2.2; omega)]
    match n with
    | 0 => rfl
    | 1 => rfl
    | 2 => rfl
    | n + 3 => rfl
theorem prt_w {τ : St} {T R k w : Nat} {d v : Int32} (n : Nat) : prt (sx τ 0 17 w v) T R k d n = prt τ T R k d n := by
  match n with
  | 0 => rfl
  | 1 => rfl
  | 2 => rfl
  | n + 3 => rfl
theorem msum_upd {τ : St} {T R k w : Nat} {d v : Int32} : ∀ n, w < n → msum (sx τ 0 17 w v) T R k d n = msum τ T R k d n + (v - τ.1 0 17 w) * prt τ T R k d w
  | 0, h => by omega
  | n + 1, h => by
    show msum (sx τ 0 17 w v) T R k d n + (sx τ 0 17 w v).1 0 17 n * prt (sx τ 0 17 w v) T R k d n = msum τ T R k d n + τ.1 0 17 n * prt τ T R k d n + _
    rw [prt_w, sx_1]
    by_cases e : n = w
    · subst e
      rw [msum_lo n (Nat.le_refl _), if_pos ⟨rfl, rfl, rfl⟩]
      grind
    · rw [msum_upd n (by omega), if_neg (fun c => e c.2.2)]
      grind
theorem mk_w {τ : St} {T R k w : Nat} {d v : Int32} (hw : w < 4) : mk (sx τ 0 17 w v) T R k d = mk τ T R k d + (v - τ.1 0 17 w) * prt τ T R k d w := msum_upd 4 hw
