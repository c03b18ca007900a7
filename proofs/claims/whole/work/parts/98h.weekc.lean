/-! ===== weeks: the class ===== -/
/-- a parting is laid out -/
def WS (σ : St) (c : WQ) (σ' : St) : Prop := FrC σ σ' ∧ σ'.1 0 7 9 = nI c.2.1 ∧ σ'.1 0 7 10 = nI c.2.2.1 ∧ σ'.1 0 7 11 = nI c.2.2.2.1 ∧ σ'.1 0 7 12 = nI c.2.2.2.2.1 ∧ ∀ k, k ≤ c.2.1 → σ'.1 0 38 k = nI (c.2.2.2.2.2 k)
def wW (c : WQ) (k : Nat) (V : Nat → Nat) (b : Nat) : Nat := b * c.2.2.1 * (nb (c.2.2.2.2.2 k + b * c.2.2.1) + k) + V b
def wB (c : WQ) (k b : Nat) : Nat := bnd (c.2.2.2.2.2 k + b * c.2.2.1)
def LB (c : WQ) (k : Nat) (V : Nat → Nat) (a : Nat) (σ' : St) : Prop := ∀ β, β < 3 → (σ'.1 0 40 β = -1 ∧ ∀ b, a ≤ b → b ≤ c.2.2.2.1 → wB c k b ≠ β) ∨ (∃ b, a ≤ b ∧ b ≤ c.2.2.2.1 ∧ σ'.1 0 40 β = nI b ∧ σ'.1 0 39 β = nI (wW c k V b) ∧ wB c k b = β ∧ (∀ x, a ≤ x → x ≤ c.2.2.2.1 → wB c k x = β → wW c k V b ≤ wW c k V x) ∧ ∀ x, b < x → x ≤ c.2.2.2.1 → wB c k x = β → wW c k V b < wW c k V x)
section WeekC
variable {σ : St}
theorem wW_le {c : WQ} (h : wOk c) {k : Nat} (hk : k ≤ 5) {V : Nat → Nat} (hV : ∀ b, b ≤ c.2.2.2.1 → V b ≤ 2400) {b : Nat} (hb : b ≤ c.2.2.2.1) : wW c k V b ≤ 4800 := by
  unfold wW
  have h1 := wst_le h hb
  have h2 := nb_le (c.2.2.2.2.2 k + b * c.2.2.1)
  have h3 : b * c.2.2.1 * (nb (c.2.2.2.2.2 k + b * c.2.2.1) + k) ≤ 200 * 12 := Nat.mul_le_mul h1 (by omega)
  have := hV b hb
  omega
theorem wF_W (c : WQ) (k : Nat) (V : Nat → Nat) {a b : Nat} (h : a ≤ b) : wF c k V a b + a * c.2.2.1 * (nbb (wB c k b) + k) = wW c k V b := by
  unfold wF wW wB
  rw [nb_bnd, Nat.sub_mul, Nat.sub_mul]
  have h1 : a * c.2.2.1 * (nb (c.2.2.2.2.2 k + b * c.2.2.1) + k) ≤ b * c.2.2.1 * (nb (c.2.2.2.2.2 k + b * c.2.2.1) + k) := Nat.mul_le_mul_right _ (Nat.mul_le_mul_right _ h)
  omega
/-- one more place is kept -/
theorem p_keep_ok {c : WQ} (h : wOk c) {k : Nat} (hk : k ≤ c.2.1) {V : Nat → Nat} (hV : ∀ b, b ≤ c.2.2.2.1 → V b ≤ 2400) {a : Nat} (ha : a ≤ c.2.2.2.1) {σ1 : St} (hW : WS σ c σ1) (h36 : σ1.1 0 36 a = nI (V a)) (hL : LB c k V (a + 1) σ1) : OK (p_Endings_keepLeast σ1 (nI k) (nI a)) (fun σ' => WS σ c σ' ∧ LB c k V a σ' ∧ (∀ x, σ'.1 0 36 x = σ1.1 0 36 x) ∧ ∀ x, σ'.1 0 37 x = σ1.1 0 37 x) := by
  obtain ⟨w1, w2, w3, w4, w5, w6⟩ := hW
  obtain ⟨o1, o2, o3, o4, o5, o6⟩ := id h
  have hS := wS_le h
  have hst := wst_le h ha
  have ht := o6 k
  have hbl := bnd_le (c.2.2.2.2.2 k + a * c.2.2.1)
  have hWl := wW_le h (show k ≤ 5 by omega) hV ha
  unfold p_Endings_keepLeast
  rw [ix_nI (show k < 6 by omega) (by decide), obs, w6 k hk, w3, pk_mul, nI_add, p_band_nI (by omega), obs, p_each_nI hbl, obs, ix_nI (show a < 201 by omega) (by decide), obs, ix_nI (show bnd (c.2.2.2.2.2 k + a * c.2.2.1) < 3 by omega) (by decide), obs, obs, obs, h36, pk_mul, nI_add]
  have eW : a * c.2.2.1 * (nbb (bnd (c.2.2.2.2.2 k + a * c.2.2.1)) + k) + V a = wW c k V a := by unfold wW; rw [nb_bnd]
  rw [eW]
  have upd : (∀ b, a + 1 ≤ b → b ≤ c.2.2.2.1 → wB c k b = wB c k a → wW c k V a < wW c k V b) → OK (some (sx (sx σ1 0 39 (wB c k a) (nI (wW c k V a))) 0 40 (wB c k a) (nI a))) (fun σ' => WS σ c σ' ∧ LB c k V a σ' ∧ (∀ x, σ'.1 0 36 x = σ1.1 0 36 x) ∧ ∀ x, σ'.1 0 37 x = σ1.1 0 37 x) := by
    intro hlt
    refine OK.so ⟨⟨(w1.sx rfl).sx rfl, w2, w3, w4, w5, w6⟩, fun β hβ => ?_, fun x => rfl, fun x => rfl⟩
    by_cases e : β = wB c k a
    · right
      refine ⟨a, Nat.le_refl _, ha, by simp [sx_1, e], by simp [sx_1, e], e.symm, fun x hx1 hx2 hxb => ?_, fun x hx1 hx2 hxb => hlt x (by omega) hx2 (by rw [hxb, e])⟩
      by_cases e2 : x = a
      · rw [e2]; exact Nat.le_refl _
      · exact Nat.le_of_lt (hlt x (by omega) hx2 (by rw [hxb, e]))
    · have s40 : (sx (sx σ1 0 39 (wB c k a) (nI (wW c k V a))) 0 40 (wB c k a) (nI a)).1 0 40 β = σ1.1 0 40 β := by simp [sx_1, e]
      have s39 : (sx (sx σ1 0 39 (wB c k a) (nI (wW c k V a))) 0 40 (wB c k a) (nI a)).1 0 39 β = σ1.1 0 39 β := by simp [sx_1, e]
      rw [s40, s39]
      rcases hL β hβ with ⟨d1, d2⟩ | ⟨b, d1, d2, d3, d4, d5, d6, d7⟩
      · refine Or.inl ⟨d1, fun b hb1 hb2 => ?_⟩
        by_cases e2 : b = a
        · rw [e2]; exact fun x => e x.symm
        · exact d2 b (by omega) hb2
      · refine Or.inr ⟨b, by omega, d2, d3, d4, d5, fun x hx1 hx2 hxb => ?_, d7⟩
        by_cases e2 : x = a
        · exact absurd (by rw [← hxb, e2]) e
        · exact d6 x (by omega) hx2 hxb
  have hβ : wB c k a < 3 := by unfold wB; omega
  show OK (if σ1.1 0 40 (wB c k a) < 0 then some (sx (sx σ1 0 39 (wB c k a) (nI (wW c k V a))) 0 40 (wB c k a) (nI a)) else if nI (wW c k V a) < σ1.1 0 39 (wB c k a) then some (sx (sx σ1 0 39 (wB c k a) (nI (wW c k V a))) 0 40 (wB c k a) (nI a)) else some σ1) _
  rcases hL (wB c k a) hβ with ⟨d1, d2⟩ | ⟨b, d1, d2, d3, d4, d5, d6, d7⟩
  · rw [d1, if_pos (show (-1 : Int32) < 0 by decide)]
    exact upd (fun b hb1 hb2 hbb => absurd hbb (d2 b hb1 hb2))
  · have hWb := wW_le h (show k ≤ 5 by omega) hV d2
    rw [d3, if_neg (nI_pos (by omega)), d4]
    by_cases cc : wW c k V a < wW c k V b
    · rw [if_pos (nI_lt cc (by omega))]
      exact upd (fun x hx1 hx2 hxb => Nat.lt_of_lt_of_le cc (d6 x hx1 hx2 hxb))
    · rw [if_neg (nI_nlt (by omega) (by omega))]
      refine OK.so ⟨⟨w1, w2, w3, w4, w5, w6⟩, fun β hβ' => ?_, fun x => rfl, fun x => rfl⟩
      by_cases e : β = wB c k a
      · subst e
        refine Or.inr ⟨b, by omega, d2, d3, d4, d5, fun x hx1 hx2 hxb => ?_, d7⟩
        by_cases e2 : x = a
        · rw [e2]; omega
        · exact d6 x (by omega) hx2 hxb
      · rcases hL β hβ' with ⟨f1, f2⟩ | ⟨b', f1, f2, f3, f4, f5, f6, f7⟩
        · refine Or.inl ⟨f1, fun x hx1 hx2 => ?_⟩
          by_cases e2 : x = a
          · rw [e2]; exact fun y => e y.symm
          · exact f2 x (by omega) hx2
        · refine Or.inr ⟨b', by omega, f2, f3, f4, f5, fun x hx1 hx2 hxb => ?_, f7⟩
          by_cases e2 : x = a
          · exact absurd (by rw [← hxb, e2]) e
          · exact f6 x (by omega) hx2 hxb
/-- the least of all bands is taken -/
theorem p_take_ok {c : WQ} (h : wOk c) {k : Nat} (hk : k ≤ c.2.1) {V : Nat → Nat} (hV : ∀ b, b ≤ c.2.2.2.1 → V b ≤ 2400) {a : Nat} (ha : a ≤ c.2.2.2.1) {σ1 : St} (hW : WS σ c σ1) (hL : LB c k V a σ1) : OK (p_Endings_takeLeast σ1 (nI k) (nI a)) (fun σ' => ∃ v b, IsMin (wF c k V a) a c.2.2.2.1 v b ∧ σ' = sx (sx σ1 0 36 a (nI v)) 0 37 (k * 201 + a) (nI b)) := by
  obtain ⟨w1, w2, w3, w4, w5, w6⟩ := hW
  obtain ⟨o1, o2, o3, o4, o5, o6⟩ := id h
  have hS := wS_le h
  unfold p_Endings_takeLeast
  refine OK.bi (OK.mono (R := fun e => ∃ v b, IsMin (wF c k V a) a c.2.2.2.1 v b ∧ e = (nI v, nI b)) ?_ ?_)
  · refine OK.itr 3 (fun i s => s.2.2 = nI (3 - i) - 1 ∧ ((s.1 = -1 ∧ ∀ b, a ≤ b → b ≤ c.2.2.2.1 → wB c k b < 3 - i) ∨ (∃ b, a ≤ b ∧ b ≤ c.2.2.2.1 ∧ s.1 = nI (wF c k V a b) ∧ s.2.1 = nI b ∧ 3 - i ≤ wB c k b ∧ (∀ x, a ≤ x → x ≤ c.2.2.2.1 → 3 - i ≤ wB c k x → wF c k V a b ≤ wF c k V a x) ∧ ∀ x, b < x → x ≤ c.2.2.2.1 → 3 - i ≤ wB c k x → wF c k V a b < wF c k V a x))) ⟨rfl, Or.inl ⟨rfl, fun b _ _ => by have := bnd_le (c.2.2.2.2.2 k + b * c.2.2.1); unfold wB; omega⟩⟩ (fun i s hi hs' => ?_) (fun s hs' => ?_) (FU_lt (by decide))
    · obtain ⟨be, af, bd⟩ := s
      obtain ⟨e1, hd⟩ := hs'
      simp only at e1 hd ⊢
      obtain ⟨β, hβ⟩ : ∃ β, 3 - i = β + 1 := ⟨3 - i - 1, by omega⟩
      have hβ' : 3 - (i + 1) = β := by omega
      rw [hβ, nI_pred] at e1
      subst e1
      have em : nI β + (-1) = nI β - 1 := by grind
      rw [if_neg (nI_pos (by omega)), ix_nI (show β < 3 by omega) (by decide), obs, p_each_nI (show β ≤ 2 by omega), obs, obs, obs, w3, pk_mul, pk_mul, em, hβ']
      rw [hβ] at hd
      rcases hL β (by omega) with ⟨d1, d2⟩ | ⟨b, d1, d2, d3, d4, d5, d6, d7⟩
      · rw [d1, if_pos (show (-1 : Int32) < 0 by decide), obs]
        refine OK.so ⟨rfl, ?_⟩
        show (be = -1 ∧ _) ∨ _
        rcases hd with ⟨f1, f2⟩ | ⟨b, f1, f2, f3, f4, f5, f6, f7⟩
        · refine Or.inl ⟨f1, fun x hx1 hx2 => ?_⟩
          have := f2 x hx1 hx2
          have := d2 x hx1 hx2
          omega
        · refine Or.inr ⟨b, f1, f2, f3, f4, by omega, fun x hx1 hx2 hxb => ?_, fun x hx1 hx2 hxb => ?_⟩
          · have := d2 x hx1 hx2
            exact f6 x hx1 hx2 (by omega)
          · have := d2 x (by omega) hx2
            exact f7 x hx1 hx2 (by omega)
      · have hWl := wW_le h (show k ≤ 5 by omega) hV d2
        have hFW := wF_W c k V d1
        rw [d5] at hFW
        have eF : nI (wW c k V b) - nI (a * c.2.2.1 * (nbb β + k)) = nI (wF c k V a b) := by
          rw [pk_sub (by omega)]
          congr 1
          omega
        rw [d3, if_neg (nI_pos (by omega)), d4, eF]
        -- what the band's least is among its own
        have own : ∀ x, a ≤ x → x ≤ c.2.2.2.1 → wB c k x = β → wF c k V a b ≤ wF c k V a x := by
          intro x hx1 hx2 hxb
          have h1 := d6 x hx1 hx2 hxb
          have h2 := wF_W c k V hx1
          rw [hxb] at h2
          omega
        have own2 : ∀ x, b < x → x ≤ c.2.2.2.1 → wB c k x = β → wF c k V a b < wF c k V a x := by
          intro x hx1 hx2 hxb
          have h1 := d7 x hx1 hx2 hxb
          have h2 := wF_W c k V (show a ≤ x by omega)
          rw [hxb] at h2
          omega
        rcases hd with ⟨f1, f2⟩ | ⟨b2, f1, f2, f3, f4, f5, f6, f7⟩
        · rw [f1, if_pos (show (-1 : Int32) < 0 by decide), obs]
          refine OK.so ⟨rfl, Or.inr ⟨b, d1, d2, rfl, rfl, by omega, fun x hx1 hx2 hxb => ?_, fun x hx1 hx2 hxb => ?_⟩⟩
          · exact own x hx1 hx2 (by have := f2 x hx1 hx2; omega)
          · exact own2 x hx1 hx2 (by have := f2 x (by omega) hx2; omega)
        · have hF2 : wF c k V a b2 ≤ 4800 := by
            have := wF_W c k V f1
            have := wW_le h (show k ≤ 5 by omega) hV f2
            omega
          rw [f3, if_neg (nI_pos (by omega))]
          by_cases cc : wF c k V a b < wF c k V a b2
          · rw [if_pos (nI_lt cc (by omega)), obs]
            refine OK.so ⟨rfl, Or.inr ⟨b, d1, d2, rfl, rfl, by omega, fun x hx1 hx2 hxb => ?_, fun x hx1 hx2 hxb => ?_⟩⟩
            · by_cases e : wB c k x = β
              · exact own x hx1 hx2 e
              · have := f6 x hx1 hx2 (by omega); omega
            · by_cases e : wB c k x = β
              · exact own2 x hx1 hx2 e
              · have := f6 x (by omega) hx2 (by omega); omega
          · rw [if_neg (nI_nlt (by omega) (by omega)), obs]
            refine OK.so ⟨rfl, Or.inr ⟨b2, f1, f2, rfl, f4, by omega, fun x hx1 hx2 hxb => ?_, fun x hx1 hx2 hxb => ?_⟩⟩
            · by_cases e : wB c k x = β
              · have := own x hx1 hx2 e; omega
              · exact f6 x hx1 hx2 (by omega)
            · by_cases e : wB c k x = β
              · exfalso
                have : wB c k b2 ≤ wB c k x := bnd_mono (Nat.add_le_add_left (Nat.mul_le_mul_right _ (by omega)) _)
                omega
              · exact f7 x hx1 hx2 (by omega)
    · obtain ⟨be, af, bd⟩ := s
      obtain ⟨e1, hd⟩ := hs'
      simp only at e1 hd ⊢
      rw [e1, if_pos (show nI (3 - 3) - 1 < 0 by decide)]
      rcases hd with ⟨f1, f2⟩ | ⟨b, f1, f2, f3, f4, f5, f6, f7⟩
      · have := f2 a (Nat.le_refl _) ha; omega
      · exact OK.so ⟨wF c k V a b, b, ⟨f1, f2, rfl, fun x hx1 hx2 => f6 x hx1 hx2 (by omega), fun x hx1 hx2 => f7 x hx1 hx2 (by omega)⟩, by rw [f3, f4]⟩
  · rintro e ⟨v, b, hm, rfl⟩
    have e2 : nI k * (201 : Int32) = nI (k * 201) := pk_mul k 201
    rw [ix_nI (show a < 201 by omega) (by decide), obs, lt1_eq, e2, nI_add, ix_nI (show k * 201 + a < 1206 by omega) (by decide), obs, lt1_eq]
    exact OK.so ⟨v, b, hm, rfl⟩
end WeekC
