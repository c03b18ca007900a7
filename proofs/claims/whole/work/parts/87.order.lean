/-! ===== the order of a cut ===== -/
theorem Fr.mono {s1 s2 : Nat → Nat → Nat → Bool} {a b : St} (h : Fr s1 a b) (hh : ∀ d j k, s2 d j k = false → s1 d j k = false) : Fr s2 a b := fun d j k hk => h d j k (hh d j k hk)
section Weak
variable {σ τ τ' : St} {U P Q T R L E : Nat}
theorem IPo.frM (hf : FrM τ τ') (hp : IPo σ τ U P Q) : IPo σ τ' U P Q := by
  have i0 : ∀ {j : Nat} (k : Nat), scrM 0 j k = false → τ'.1 0 j k = τ.1 0 j k := fun k h => (hf 0 _ k h).1
  refine ⟨hp.1, ?_, hp.2.2.1, fun p hpp => ?_⟩
  · rw [i0 (j := 0) 4 rfl]; exact hp.2.1
  · have := hp.2.2.2 p hpp
    unfold IPo1 at this ⊢
    simp only [i0 (j := 0) 0 rfl, i0 (j := 3) p rfl, i0 (j := 4) p rfl, i0 (j := 5) p rfl, i0 (j := 6) p rfl, i0 (j := 7) p rfl, i0 (j := 8) p rfl, fun k => i0 (j := 12) k rfl]
    exact this
theorem IPe.frM (hf : FrM τ τ') (hq : IPe σ τ P Q T) : IPe σ τ' P Q T := by
  have i0 : ∀ {j : Nat} (k : Nat), scrM 0 j k = false → τ'.1 0 j k = τ.1 0 j k := fun k h => (hf 0 _ k h).1
  have htk : ∀ k w, tk τ' k w = tk τ k w := fun k w => by funext i; unfold tk; rw [i0 (j := 19) i rfl, i0 (j := 20) i rfl]
  refine ⟨hq.1, ?_, hq.2.2.1, fun k hk => ?_⟩
  · rw [i0 (j := 0) 11 rfl]; exact hq.2.1
  · have := hq.2.2.2 k hk
    unfold IPe1 at this ⊢
    simp only [i0 (j := 0) 0 rfl, htk, i0 (j := 9) k rfl, i0 (j := 10) k rfl, i0 (j := 11) k rfl, i0 (j := 12) k rfl, i0 (j := 13) k rfl, i0 (j := 14) k rfl, i0 (j := 15) k rfl, i0 (j := 16) k rfl, fun p => i0 (j := 8) p rfl]
    exact this
theorem prt_fr (hf : FrM τ τ') (T R k : Nat) (d : Int32) (w : Nat) : prt τ' T R k d w = prt τ T R k d w := by
  have c : ∀ {j : Nat}, (∀ k, scrM 0 j k = false) → τ'.1 0 j = τ.1 0 j := fun h => funext fun k => (hf 0 _ k (h k)).1
  have e00 := (hf 0 0 0 rfl).1
  have htk : ∀ k w, tk τ' k w = tk τ k w := fun k w => by funext i; unfold tk; rw [(hf 0 19 i rfl).1, (hf 0 20 i rfl).1]
  have hrk : ∀ t, rk τ' t = rk τ t := fun t => by funext i; unfold rk; rw [(hf 0 23 i rfl).1]
  have hkn : ∀ w, kn τ' T R k w d = kn τ T R k w d := fun w => by
    unfold kn knT rtv knR
    simp only [htk, hrk, c (j := 22) (fun _ => rfl), c (j := 25) (fun _ => rfl), c (j := 21) (fun _ => rfl), c (j := 24) (fun _ => rfl)]
  match w with
  | 0 => exact hkn 0
  | 1 =>
    show sk1 τ' k = sk1 τ k
    unfold sk1 skl
    rw [c (j := 12) (fun _ => rfl), c (j := 7) (fun _ => rfl), c (j := 9) (fun _ => rfl)]
  | 2 =>
    show rcd (kn τ' T R k 1 d) = rcd (kn τ T R k 1 d)
    rw [hkn 1]
  | w + 3 =>
    show ys τ' k = ys τ k
    unfold ys yr
    rw [e00, c (j := 10) (fun _ => rfl)]
theorem msum_fr (hf : FrM τ τ') (T R k : Nat) (d : Int32) : ∀ n, msum τ' T R k d n = msum τ T R k d n
  | 0 => rfl
  | n + 1 => by
    show msum τ' T R k d n + _ = msum τ T R k d n + _
    rw [msum_fr hf T R k d n, prt_fr hf, (hf 0 17 n rfl).1]
theorem mk_fr (hf : FrM τ τ') (T R k : Nat) (d : Int32) : mk τ' T R k d = mk τ T R k d := msum_fr hf T R k d 4
end Weak
/-- who goes before whom -/
def ltK (f c : Nat → Int32) (j k : Nat) : Bool := decide (f j < f k ∨ (f j = f k ∧ (c k < c j ∨ (c k = c j ∧ k < j))))
theorem ltK_iff (f c : Nat → Int32) (j k : Nat) : ltK f c j k = true ↔ (f j).toInt < (f k).toInt ∨ ((f j).toInt = (f k).toInt ∧ ((c k).toInt < (c j).toInt ∨ ((c k).toInt = (c j).toInt ∧ k < j))) := by
  unfold ltK
  rw [decide_eq_true_iff, i_lt, i_lt, i_eq, i_eq]
theorem ltK_irr (f c : Nat → Int32) (k : Nat) : ltK f c k k = false := by
  cases h : ltK f c k k with
  | false => rfl
  | true => rw [ltK_iff] at h; omega
theorem ltK_asym {f c : Nat → Int32} {j k : Nat} (h : ltK f c j k = true) : ltK f c k j = false := by
  cases h' : ltK f c k j with
  | false => rfl
  | true => rw [ltK_iff] at h h'; omega
theorem ltK_trans {f c : Nat → Int32} {i j k : Nat} (h1 : ltK f c i j = true) (h2 : ltK f c j k = true) : ltK f c i k = true := by
  rw [ltK_iff] at h1 h2 ⊢; omega
theorem ltK_tot {f c : Nat → Int32} {j k : Nat} (hne : j ≠ k) (h : ltK f c j k = false) : ltK f c k j = true := by
  have h' : ¬ ltK f c j k = true := by rw [h]; decide
  rw [ltK_iff] at h' ⊢; omega
/-- in a row by this order one stands where as many go before -/
theorem rank_eq {f c : Nat → Int32} {l : List Nat} (hl : l.Pairwise (fun a b => ltK f c a b = true)) {x k : Nat} (hx : l[x]? = some k) : l.countP (fun j => ltK f c j k) = x := by
  have hlt := gq_lt hx
  have hk : l[x] = k := by rw [List.getElem?_eq_getElem hlt] at hx; exact Option.some.inj hx
  have e : l = l.take x ++ l[x] :: l.drop (x + 1) := by rw [List.getElem_cons_drop, List.take_append_drop]
  rw [e] at hl
  rw [e]
  rw [hk] at hl ⊢
  rw [List.pairwise_append, List.pairwise_cons] at hl
  rw [List.countP_append, List.countP_cons, ltK_irr]
  have h1 : (l.take x).countP (fun j => ltK f c j k) = (l.take x).length := List.countP_eq_length.mpr (fun a ha => hl.2.2 a ha k List.mem_cons_self)
  have h2 : (l.drop (x + 1)).countP (fun j => ltK f c j k) = 0 := List.countP_eq_zero.mpr (fun a ha => by rw [ltK_asym (hl.2.1.1 a ha)]; decide)
  rw [h1, h2, List.length_take]
  simp
  omega
/-- a row by this order with one more put in at its place -/
theorem ins_pw {f c : Nat → Int32} {l : List Nat} (hl : l.Pairwise (fun a b => ltK f c a b = true)) {a k : Nat} (h1 : ∀ x j, x < a → l[x]? = some j → ltK f c j k = true) (h2 : ∀ x j, a ≤ x → l[x]? = some j → ltK f c k j = true) : (l.take a ++ k :: l.drop a).Pairwise (fun a b => ltK f c a b = true) := by
  have hb : ∀ j, j ∈ l.take a → ltK f c j k = true := by
    intro j hj
    obtain ⟨x, hx⟩ := List.mem_iff_getElem?.mp hj
    rw [List.getElem?_take] at hx
    split at hx
    · rename_i hlt; exact h1 x j hlt hx
    · cases hx
  have ha : ∀ j, j ∈ l.drop a → ltK f c k j = true := by
    intro j hj
    obtain ⟨x, hx⟩ := List.mem_iff_getElem?.mp hj
    rw [List.getElem?_drop] at hx
    exact h2 (a + x) j (by omega) hx
  rw [List.pairwise_append, List.pairwise_cons]
  refine ⟨hl.sublist (List.take_sublist a l), ⟨fun j hj => ha j hj, hl.sublist (List.drop_sublist a l)⟩, fun i hi j hj => ?_⟩
  rcases List.mem_cons.mp hj with rfl | hj
  · exact hb i hi
  · exact ltK_trans (hb i hi) (ha j hj)
theorem ins_get {l : List Nat} {a k x j : Nat} (ha : a ≤ l.length) (h : (l.take a ++ k :: l.drop a)[x]? = some j) : (x < a ∧ l[x]? = some j) ∨ (x = a ∧ j = k) ∨ (a < x ∧ l[x - 1]? = some j) := by
  have hlen : (l.take a).length = a := by rw [List.length_take]; omega
  by_cases hx : x < a
  · rw [List.getElem?_append_left (by omega), List.getElem?_take, if_pos hx] at h
    exact Or.inl ⟨hx, h⟩
  · rw [List.getElem?_append_right (by omega), hlen] at h
    by_cases e : x = a
    · subst e
      rw [Nat.sub_self] at h
      simp at h
      exact Or.inr (Or.inl ⟨rfl, h.symm⟩)
    · obtain ⟨y, hy⟩ : ∃ y, x - a = y + 1 := ⟨x - a - 1, by omega⟩
      rw [hy, List.getElem?_cons_succ, List.getElem?_drop] at h
      refine Or.inr (Or.inr ⟨by omega, ?_⟩)
      rw [show x - 1 = a + y by omega]
      exact h
theorem ins_perm (l : List Nat) (a k : Nat) : (l.take a ++ k :: l.drop a).Perm (k :: l) := by
  have := List.perm_middle (a := k) (l₁ := l.take a) (l₂ := l.drop a)
  rw [List.take_append_drop] at this
  exact this
def scrK (d j k : Nat) : Bool := d == 0 && ((j == 0 && k == 38) || j == 28 || j == 29)
theorem scrK_M (d j k : Nat) (h : scrM d j k = false) : scrK d j k = false := by
  cases hk : scrK d j k with
  | false => rfl
  | true =>
    unfold scrK at hk
    simp only [Bool.and_eq_true, Bool.or_eq_true, beq_iff_eq] at hk
    obtain ⟨rfl, (⟨rfl, rfl⟩ | rfl) | rfl⟩ := hk
    · cases h
    · have : scrM 0 28 k = true := rfl
      rw [this] at h; cases h
    · have : scrM 0 29 k = true := rfl
      rw [this] at h; cases h
abbrev FrK (τ τ' : St) : Prop := Fr scrK τ τ'
theorem FrK.toM {τ τ' : St} (h : FrK τ τ') : FrM τ τ' := Fr.mono h scrK_M
/-- a guarded one isn't cut -/
def elB (τ : St) (g : Nat → Int32) (pl : Int32) (k : Nat) : Bool := mmB τ g pl k && decide (τ.1 0 15 k < τ.1 0 0 0)
abbrev ell (τ : St) (g : Nat → Int32) (pl : Int32) (Q : Nat) : List Nat := (List.range Q).filter (elB τ g pl)
/-- what the reference's cut needs of a state -/
def WK (σ τ : St) (U P Q T R : Nat) : Prop := IPo σ τ U P Q ∧ IPe σ τ P Q T ∧ Rg 0 3000 (τ.1 0 0 0) ∧ τ.1 0 0 25 = nI T ∧ τ.1 0 0 30 = nI R ∧ T ≤ 120 ∧ R ≤ 60 + 1
theorem WK.fr {σ τ τ' : St} {U P Q T R : Nat} (h : WK σ τ U P Q T R) (hf : FrM τ τ') : WK σ τ' U P Q T R := ⟨h.1.frM hf, h.2.1.frM hf, by rw [(hf 0 0 0 rfl).1]; exact h.2.2.1, by rw [(hf 0 0 25 rfl).1]; exact h.2.2.2.1, by rw [(hf 0 0 30 rfl).1]; exact h.2.2.2.2.1, h.2.2.2.2.2⟩
theorem InvB.wk {σ τ : St} {U P Q T R L E : Nat} (h : InvB σ τ U P Q T R L E) : WK σ τ U P Q T R := ⟨h.2.2.1, h.2.2.2.1, h.1.2.1, h.2.2.2.2.1.2.1, h.2.2.2.2.2.1.2.1, h.2.2.2.2.1.1, by have := h.2.2.2.2.2.1.1; omega⟩
theorem guard_eq {σ τ : St} {P Q T : Nat} (hq : IPe σ τ P Q T) {k : Nat} (hk : k < Q) : m_isGuarded τ (nI k) = some (if decide (τ.1 0 15 k < τ.1 0 0 0) then 0 else 1) := by
  have hQ := hq.1
  unfold m_isGuarded
  rw [ix_nI (show k < 40 by omega) (by decide), obs]
  simp only [decide_eq_true_iff]
  split <;> rfl
theorem isOf_wk {σ τ : St} {U P Q T R : Nat} (h : WK σ τ U P Q T R) {g : Nat → Int32} {pl : Int32} (hg : ∀ p, p < P → τ.1 0 27 p = g p) {k : Nat} (hk : k < Q) : m_isOf τ (nI k) pl = some (if mmB τ g pl k then 1 else 0) := by
  have hP := h.1.1
  have hQ := h.2.1.1
  unfold m_isOf mmB
  rw [(isHere_eq h.2.1 hk).2, ix_nI (show k < 40 by omega) (by decide)]
  simp only [obs, bI_eq0]
  rcases holds_eq h.2.1 hk with ⟨c1, c2⟩ | ⟨p, c1, c2, c3, c4, c5, c6⟩
  · rw [c2]
    by_cases hh : τ.1 0 14 k < 0
    · rw [if_neg (fun c => c hh)]; rfl
    · rw [if_pos hh]; rfl
  · rw [c3, nI_clamp (by omega)]
    simp only [c6, not_true, if_false, if_neg (nI_pos (show p < 2 ^ 31 by omega)), ix_nI (show p < 40 by omega) (show 40 < 2 ^ 31 by decide), obs, hg p c1, nI_pos (show p < 2 ^ 31 by omega), not_false_iff, true_and, decide_eq_true_iff]
    split <;> rfl
