/-! ===== rows of the memory ===== -/
/-- class own, by its pool's entry 'index', reads field kf of the object (d, j); what kind of field that is -/
def FG (Λ : Ly) (own : String) (index d j kf : Nat) (q : Nat × Nat) : Prop :=
  ∃ (ci : Nat) (fs : List (Nat × Nat)) (Cn : String) (T : u_T) (M : Nat), Λ.2 d j = .inl (ci, fs) ∧ fs[kf]? = some q ∧ vwCl[ci]? = some (Cn, T, M) ∧ kf < M ∧ (∀ w ∈ u_ws Cn T M, w ∈ wt) ∧ Cond.fieldLink own index (T kf).1 (T kf).2.1 (T kf).2.2.1 ∈ wt
/-- and may write it -/
def FP (Λ : Ly) (own : String) (index d j kf : Nat) (q : Nat × Nat) (ty : FieldType) : Prop :=
  ∃ (ci : Nat) (fs : List (Nat × Nat)) (Cn : String) (T : u_T) (M : Nat) (ty0 : Nat → FieldType), Λ.2 d j = .inl (ci, fs) ∧ fs[kf]? = some q ∧ vwCl[ci]? = some (Cn, T, M) ∧ kf < M ∧ (∀ w ∈ u_ws Cn T M, w ∈ wt) ∧ Cond.fieldLink own index (T kf).1 (T kf).2.1 (T kf).2.2.1 ∈ wt ∧
    (∀ k, k < M → parseFieldDescriptor (T k).2.2.1 = some (ty0 k)) ∧ (∀ a, a < M → ∀ b, b < M → a ≠ b → (T a).2.1 ≠ (T b).2.1) ∧ (T kf).2.2.2 = false ∧ parseFieldDescriptor (T kf).2.2.1 = some ty
/-- the fixed cell j is an array of type t with n places -/
def AG (Λ : Ly) (j t n : Nat) : Prop := j < Λ.1 ∧ Λ.2 0 j = .inr (t, n)
/-- a place of an array of n -/
def ix (n : Nat) (i : Int32) : Option Nat := if i < 0 then none else if i.toNatClampNeg < n then some i.toNatClampNeg else none
theorem ix_some {n : Nat} {i : Int32} {k : Nat} (h : ix n i = some k) : vp_in i n ∧ i.toNatClampNeg = k := by
  unfold ix at h
  split at h
  · cases h
  · split at h
    · exact ⟨fun q => q.elim (fun a => by contradiction) (fun a => by omega), Option.some.inj h⟩
    · cases h
/-- a name for a value -/
def lt1 {α : Type} {β : Type} (x : α) (k : α → β) : β := k x
section Mem
variable {ρ : Type} {Λ : Ly} {Θ : TT} {Qf : ρ → State → Prop} {cc : ByteArray} {own : String} {ret : Option FieldType} {rm : Room} {nL pc : Nat} {lv : List (Option Value)} {st : List Value} {σ : St} {K : Option ρ}
theorem dm0 {N : Nat → Nat} {j : Nat} (h : j < Λ.1) : dm Λ N 0 j := Or.inl ⟨rfl, h⟩
theorem dmk {N : Nat → Nat} {d j : Nat} (h1 : 1 ≤ d) (h2 : d ≤ 4) (h : j < N d) : dm Λ N d j := Or.inr ⟨h1, h2, h⟩
theorem one_P {D : va_G} {cl : List vw_C} {q : Nat × va_E} {H : Heap} (h : va_at D cl q H) : va_P D cl [q] H := fun k x hx => by
  have hz : k < 1 := (List.getElem?_eq_some_iff.mp hx).1
  rw [show k = 0 by omega] at hx
  cases hx
  exact h
theorem r_get (C : CX Θ cc own ret rm nL) {index d j kf : Nat} {q : Nat × Nat} (hdg : decode cc pc = .ok (.getfield index, 3)) (hf : FG Λ own index d j kf q) (hm : dm Λ (cN Θ) d j)
    (k : WA Λ Θ Qf (pc + 3) lv (fvl (cF Θ) (cAd Θ) σ d j kf q :: st) σ K) : WA Λ Θ Qf pc lv (.ref (adr (cW Θ) (cAd Θ) d j) :: st) σ K := by
  intro r hr H ls locs hl hR hS
  obtain ⟨ci, fs, Cn, T, M, h1, h2, h3, h4, h5, h6⟩ := hf
  have hat := hR.1 d j hm
  rw [h1] at hat
  refine va_get C.hx C.hb C.hts h5 C.hown C.hK (one_P hat) 0 (fs := fvs (cF Θ) (cAd Θ) σ d j 0 fs) rfl h3 kf h4 (C.hts _ h6) (fun _ h => h) (v := fvl (cF Θ) (cAd Θ) σ d j kf q) ?_ hdg (k r hr H ls locs hl hR hS)
  rw [fvs_get, h2, Nat.zero_add]
  rfl
theorem r_getI0 (C : CX Θ cc own ret rm nL) {index j kf z : Nat} (hdg : decode cc pc = .ok (.getfield index, 3)) (hf : FG Λ own index 0 j kf (0, z)) (hj : j < Λ.1)
    (k : WA Λ Θ Qf (pc + 3) lv (.int (σ.1 0 j kf) :: st) σ K) : WA Λ Θ Qf pc lv (.ref (cF Θ j) :: st) σ K := r_get C hdg hf (dm0 hj) k
theorem r_getF0 (C : CX Θ cc own ret rm nL) {index j kf i : Nat} (hdg : decode cc pc = .ok (.getfield index, 3)) (hf : FG Λ own index 0 j kf (1, i)) (hj : j < Λ.1)
    (k : WA Λ Θ Qf (pc + 3) lv (.ref (cF Θ i) :: st) σ K) : WA Λ Θ Qf pc lv (.ref (cF Θ j) :: st) σ K := r_get C hdg hf (dm0 hj) k
theorem r_getI (C : CX Θ cc own ret rm nL) {index d j kf z : Nat} (hdg : decode cc pc = .ok (.getfield index, 3)) (hf : FG Λ own index (d + 1) j kf (0, z)) (hd : d + 1 ≤ 4) (hj : j < cN Θ (d + 1))
    (k : WA Λ Θ Qf (pc + 3) lv (.int (σ.1 (d + 1) j kf) :: st) σ K) : WA Λ Θ Qf pc lv (.ref (cAd Θ (d + 1) j) :: st) σ K := r_get C hdg hf (dmk (Nat.succ_le_succ (Nat.zero_le d)) hd hj) k
/-- a reference of kind t + 1 out of an object: it gets a name, and is of use -/
theorem r_getQ (C : CX Θ cc own ret rm nL) {index d j kf t z : Nat} (hdg : decode cc pc = .ok (.getfield index, 3)) (hf : FG Λ own index (d + 1) j kf (t + 2, z)) (hd : d + 1 ≤ 4) (hj : j < cN Θ (d + 1)) {K2 : Option Nat → Option ρ}
    (k : ∀ x : Option Nat, (∀ q, x = some q → q < cN Θ (t + 1)) → WA Λ Θ Qf (pc + 3) lv (va_rf (x.map (cAd Θ (t + 1))) :: st) σ (K2 x)) : WA Λ Θ Qf pc lv (.ref (cAd Θ (d + 1) j) :: st) σ (lt1 (σ.2 (d + 1) j kf) K2) := by
  intro r hr H ls locs hl hR hS
  have hm : dm Λ (cN Θ) (d + 1) j := dmk (Nat.succ_le_succ (Nat.zero_le d)) hd hj
  obtain ⟨ci, fs, Cn, T, M, h1, h2, -⟩ := id hf
  have hv := hR.2.2.2 (d + 1) j hm
  rw [h1] at hv
  exact r_get C hdg hf hm (k (σ.2 (d + 1) j kf) (fun q hq => hv kf t z h2 q hq)) r hr H ls locs hl hR hS
theorem fvs_eq {fa : Nat → Nat} {ad : Nat → Nat → Nat} {σ σ' : St} {d j kf : Nat} : ∀ (qs : List (Nat × Nat)) (k0 : Nat) {v : Value}, (∀ k q, qs[k]? = some q → fvl fa ad σ' d j (k0 + k) q = if k = kf then v else fvl fa ad σ d j (k0 + k) q) → fvs fa ad σ' d j k0 qs = (fvs fa ad σ d j k0 qs).set kf v := by
  intro qs k0 v h
  apply List.ext_getElem?
  intro k
  rw [fvs_get, List.getElem?_set, fvs_get, fvs_len]
  cases hq : qs[k]? with
  | none =>
    have hk : qs.length ≤ k := List.getElem?_eq_none_iff.mp hq
    simp
    intro e
    omega
  | some q =>
    have hk : k < qs.length := (List.getElem?_eq_some_iff.mp hq).1
    simp only [Option.map_some, h k q hq]
    by_cases e : kf = k
    · subst e; simp [hk]
    · rw [if_neg (fun x => e x.symm), if_neg e]
/-- an int, or a boolean, into an object -/
theorem r_put (C : CX Θ cc own ret rm nL) {index d j kf z : Nat} {ty : FieldType} {x : Int32} (hdg : decode cc pc = .ok (.putfield index, 3)) (hf : FP Λ own index d j kf (0, z) ty) (hm : dm Λ (cN Θ) d j) (hn : narrow ty (.int x) = .int x) (hfit : fits ty (.int x) = true)
    (k : WA Λ Θ Qf (pc + 3) lv st (sx σ d j kf x) K) : WA Λ Θ Qf pc lv (.int x :: .ref (adr (cW Θ) (cAd Θ) d j) :: st) σ K := by
  intro r hr H ls locs hl hR hS
  obtain ⟨ci, fs, Cn, T, M, ty0, h1, h2, h3, h4, h5, h6, h7, h8, h9, h10⟩ := hf
  obtain ⟨i, i1, i2, i3⟩ := wl_at (ω := cW Θ) (ad := cAd Θ) hm σ
  rw [h1] at i3
  refine va_put C.hx C.hb C.hts h5 ty0 h7 h8 C.hown C.hK hR.P hR.D hS i (fs := fvs (cF Θ) (cAd Θ) σ d j 0 fs) i3 h3 kf h4 (C.hts _ h6) (fun _ h => h) h9 h10 hn hfit (by rw [fvs_len]; exact (List.getElem?_eq_some_iff.mp h2).1) hdg (fun H1 locs1 hP1 hD1 hS1 => ?_)
  refine k r hr H1 ls locs1 hl (hR.back i1 i2 hP1 ?_ (fun d' j' h => sx_o h) (hR.2.2.2 d j hm)) hS1
  rw [h1]
  simp only [cel]
  rw [fvs_eq (σ := σ) (kf := kf) (v := .int x) fs 0 (fun k q hq => ?_)]
  rw [Nat.zero_add]
  by_cases e : k = kf
  · subst e
    rw [h2] at hq
    cases hq
    simp [fvl, sx_1]
  · rw [if_neg e]
    unfold fvl
    rw [sx_1, sx_2, if_neg (fun h => e h.2.2)]
theorem r_putI0 (C : CX Θ cc own ret rm nL) {index j kf z : Nat} {x : Int32} (hdg : decode cc pc = .ok (.putfield index, 3)) (hf : FP Λ own index 0 j kf (0, z) .int) (hj : j < Λ.1)
    (k : WA Λ Θ Qf (pc + 3) lv st (sx σ 0 j kf x) K) : WA Λ Θ Qf pc lv (.int x :: .ref (cF Θ j) :: st) σ K := r_put C hdg hf (dm0 hj) rfl rfl k
theorem r_putZ0 (C : CX Θ cc own ret rm nL) {index j kf z : Nat} {x : Int32} (hdg : decode cc pc = .ok (.putfield index, 3)) (hf : FP Λ own index 0 j kf (0, z) .boolean) (hj : j < Λ.1) (hn : narrow .boolean (.int x) = .int x) (hfit : fits .boolean (.int x) = true)
    (k : WA Λ Θ Qf (pc + 3) lv st (sx σ 0 j kf x) K) : WA Λ Θ Qf pc lv (.int x :: .ref (cF Θ j) :: st) σ K := r_put C hdg hf (dm0 hj) hn hfit k
theorem r_putI (C : CX Θ cc own ret rm nL) {index d j kf z : Nat} {x : Int32} (hdg : decode cc pc = .ok (.putfield index, 3)) (hf : FP Λ own index (d + 1) j kf (0, z) .int) (hd : d + 1 ≤ 4) (hj : j < cN Θ (d + 1))
    (k : WA Λ Θ Qf (pc + 3) lv st (sx σ (d + 1) j kf x) K) : WA Λ Θ Qf pc lv (.int x :: .ref (cAd Θ (d + 1) j) :: st) σ K := r_put C hdg hf (dmk (Nat.succ_le_succ (Nat.zero_le d)) hd hj) rfl rfl k
/-- a reference into an object -/
theorem r_putQ (C : CX Θ cc own ret rm nL) {index d j kf t z : Nat} {Cn' : String} {x : Option Nat} (hdg : decode cc pc = .ok (.putfield index, 3)) (hf : FP Λ own index (d + 1) j kf (t + 2, z) (.object Cn')) (hd : d + 1 ≤ 4) (hj : j < cN Θ (d + 1)) (hx : ∀ q, x = some q → q < cN Θ (t + 1))
    (k : WA Λ Θ Qf (pc + 3) lv st (sy σ (d + 1) j kf x) K) : WA Λ Θ Qf pc lv (va_rf (x.map (cAd Θ (t + 1))) :: .ref (cAd Θ (d + 1) j) :: st) σ K := by
  intro r hr H ls locs hl hR hS
  have hm : dm Λ (cN Θ) (d + 1) j := dmk (Nat.succ_le_succ (Nat.zero_le d)) hd hj
  obtain ⟨ci, fs, Cn, T, M, ty0, h1, h2, h3, h4, h5, h6, h7, h8, h9, h10⟩ := hf
  obtain ⟨i, i1, i2, i3⟩ := wl_at (ω := cW Θ) (ad := cAd Θ) hm σ
  rw [h1] at i3
  refine va_put C.hx C.hb C.hts h5 ty0 h7 h8 C.hown C.hK hR.P hR.D hS i (fs := fvs (cF Θ) (cAd Θ) σ (d + 1) j 0 fs) i3 h3 kf h4 (C.hts _ h6) (fun _ h => h) h9 h10 (v := va_rf (x.map (cAd Θ (t + 1)))) (by cases x <;> rfl) (by cases x <;> rfl) (by rw [fvs_len]; exact (List.getElem?_eq_some_iff.mp h2).1) hdg (fun H1 locs1 hP1 hD1 hS1 => ?_)
  refine k r hr H1 ls locs1 hl (hR.back i1 i2 hP1 ?_ (fun d' j' h => sy_o h) ?_) hS1
  · rw [h1]
    simp only [cel]
    rw [fvs_eq (σ := σ) (kf := kf) (v := va_rf (x.map (cAd Θ (t + 1)))) fs 0 (fun k q hq => ?_)]
    rw [Nat.zero_add]
    by_cases e : k = kf
    · subst e
      rw [h2] at hq
      cases hq
      simp [fvl, sy_2]
    · rw [if_neg e]
      unfold fvl
      rw [sy_2, sy_1, if_neg (fun h => e h.2.2)]
  · have hv := hR.2.2.2 (d + 1) j hm
    rw [h1] at hv ⊢
    intro k' t' z' hk' q hq
    rw [sy_2] at hq
    by_cases e : k' = kf
    · subst e
      rw [if_pos ⟨rfl, rfl, rfl⟩] at hq
      rw [h2] at hk'
      cases hk'
      exact hx q hq
    · rw [if_neg (fun h => e h.2.2)] at hq
      exact hv k' t' z' hk' q hq
-- arrays
theorem r_iald (C : CX Θ cc own ret rm nL) {j n : Nat} {i : Int32} {α : Type} {K2 : Nat → Option ρ} (hdg : decode cc pc = .ok (.iaload, 1)) (hg : AG Λ j 0 n)
    (k : ∀ i' : Nat, WA Λ Θ Qf (pc + 1) lv (.int (σ.1 0 j i') :: st) σ (K2 i')) : WA Λ Θ Qf pc lv (.int i :: .ref (cF Θ j) :: st) σ ((ix n i).bind K2) := by
  intro r hr H ls locs hl hR hS
  cases hi : ix n i with
  | none => rw [hi] at hr; cases hr
  | some i' =>
    rw [hi] at hr
    obtain ⟨h1, h2⟩ := ix_some hi
    have hat := hR.1 0 j (dm0 hg.1)
    rw [hg.2] at hat
    subst h2
    exact va_iald C.hx C.hb C.hK (one_P hat) 0 0 (f := σ.1 0 j) rfl rfl h1 hdg (k _ r hr H ls locs hl hR hS)
theorem r_zald (C : CX Θ cc own ret rm nL) {j n : Nat} {i : Int32} {K2 : Nat → Option ρ} (hdg : decode cc pc = .ok (.baload, 1)) (hg : AG Λ j 1 n)
    (k : ∀ i' : Nat, WA Λ Θ Qf (pc + 1) lv (.int (σ.1 0 j i') :: st) σ (K2 i')) : WA Λ Θ Qf pc lv (.int i :: .ref (cF Θ j) :: st) σ ((ix n i).bind K2) := by
  intro r hr H ls locs hl hR hS
  cases hi : ix n i with
  | none => rw [hi] at hr; cases hr
  | some i' =>
    rw [hi] at hr
    obtain ⟨h1, h2⟩ := ix_some hi
    have hat := hR.1 0 j (dm0 hg.1)
    rw [hg.2] at hat
    subst h2
    exact va_zald C.hx C.hb C.hK (one_P hat) 0 1 (f := σ.1 0 j) rfl rfl h1 hdg (k _ r hr H ls locs hl hR hS)
theorem r_iast (C : CX Θ cc own ret rm nL) {j n : Nat} {i x : Int32} {K2 : Nat → Option ρ} (hdg : decode cc pc = .ok (.iastore, 1)) (hg : AG Λ j 0 n)
    (k : ∀ i' : Nat, WA Λ Θ Qf (pc + 1) lv st (sx σ 0 j i' x) (K2 i')) : WA Λ Θ Qf pc lv (.int x :: .int i :: .ref (cF Θ j) :: st) σ ((ix n i).bind K2) := by
  intro r hr H ls locs hl hR hS
  cases hi : ix n i with
  | none => rw [hi] at hr; cases hr
  | some i' =>
    rw [hi] at hr
    obtain ⟨h1, h2⟩ := ix_some hi
    obtain ⟨p, i1, i2, i3⟩ := wl_at (ω := cW Θ) (ad := cAd Θ) (dm0 (N := cN Θ) hg.1) σ
    rw [hg.2] at i3
    subst h2
    refine va_iast C.hx C.hb C.hK hR.P hR.D hS p 0 (f := σ.1 0 j) i3 rfl h1 hdg (fun H1 locs1 hP1 hD1 hS1 => ?_)
    refine k _ r hr H1 ls locs1 hl (hR.back i1 i2 hP1 ?_ (fun d' j' h => sx_o h) (hR.2.2.2 0 j (dm0 hg.1))) hS1
    rw [hg.2]
    simp only [cel, arc]
    congr 4
    funext q
    rw [sx_1]
    by_cases e : q = i.toNatClampNeg
    · subst e; simp [upd]
    · simp [upd, e]
theorem r_zast (C : CX Θ cc own ret rm nL) {j n : Nat} {i x : Int32} {K2 : Nat → Option ρ} (hdg : decode cc pc = .ok (.bastore, 1)) (hg : AG Λ j 1 n) (hx : vp_nar .boolean x = x)
    (k : ∀ i' : Nat, WA Λ Θ Qf (pc + 1) lv st (sx σ 0 j i' x) (K2 i')) : WA Λ Θ Qf pc lv (.int x :: .int i :: .ref (cF Θ j) :: st) σ ((ix n i).bind K2) := by
  intro r hr H ls locs hl hR hS
  cases hi : ix n i with
  | none => rw [hi] at hr; cases hr
  | some i' =>
    rw [hi] at hr
    obtain ⟨h1, h2⟩ := ix_some hi
    obtain ⟨p, i1, i2, i3⟩ := wl_at (ω := cW Θ) (ad := cAd Θ) (dm0 (N := cN Θ) hg.1) σ
    rw [hg.2] at i3
    subst h2
    refine va_zast C.hx C.hb C.hK hR.P hR.D hS p 1 (f := σ.1 0 j) i3 rfl h1 hdg (fun H1 locs1 hP1 hD1 hS1 => ?_)
    rw [hx] at hP1
    refine k _ r hr H1 ls locs1 hl (hR.back i1 i2 hP1 ?_ (fun d' j' h => sx_o h) (hR.2.2.2 0 j (dm0 hg.1))) hS1
    rw [hg.2]
    simp only [cel, arc]
    congr 4
    funext q
    rw [sx_1]
    by_cases e : q = i.toNatClampNeg
    · subst e; simp [upd]
    · simp [upd, e]
/-- of an array of references of kind t + 1 -/
theorem r_aald (C : CX Θ cc own ret rm nL) {j n t : Nat} {i : Int32} {Cn : String} {K2 : Option Nat → Option ρ} (hdg : decode cc pc = .ok (.aaload, 1)) (hg : AG Λ j (t + 2) n) (ht : (tys (cW Θ))[t + 2]? = some ((cW Θ).2.2.2.1 (t + 2), .object Cn))
    (k : ∀ x : Option Nat, (∀ q, x = some q → q < cN Θ (t + 1)) → WA Λ Θ Qf (pc + 1) lv (va_rf (x.map (cAd Θ (t + 1))) :: st) σ (K2 x)) : WA Λ Θ Qf pc lv (.int i :: .ref (cF Θ j) :: st) σ ((ix n i).bind fun i' => lt1 (σ.2 0 j i') K2) := by
  intro r hr H ls locs hl hR hS
  cases hi : ix n i with
  | none => rw [hi] at hr; cases hr
  | some i' =>
    rw [hi] at hr
    obtain ⟨h1, h2⟩ := ix_some hi
    have hat := hR.1 0 j (dm0 hg.1)
    have hv := hR.2.2.2 0 j (dm0 hg.1)
    rw [hg.2] at hat hv
    subst h2
    have hlt : i.toNatClampNeg < n := Nat.not_le.mp fun q => h1 (Or.inr q)
    exact va_aldq C.hx C.hb C.hK (one_P hat) 0 (t + 2) (f := fun i => (σ.2 0 j i).map (cAd Θ (t + 1))) rfl ht h1 hdg (k (σ.2 0 j i.toNatClampNeg) (fun q hq => hv _ hlt q hq) r hr H ls locs hl hR hS)
theorem r_aast (C : CX Θ cc own ret rm nL) {j n t ci : Nat} {i : Int32} {fs : List (Nat × Nat)} {R0 : vw_C} {x : Option Nat} {K2 : Nat → Option ρ} (hdg : decode cc pc = .ok (.aastore, 1)) (hg : AG Λ j (t + 2) n) (ht : (tys (cW Θ))[t + 2]? = some ((cW Θ).2.2.2.1 (t + 2), .object R0.1)) (hc : vwCl[ci]? = some R0) (hsh : ∀ q, Λ.2 (t + 1) q = .inl (ci, fs)) (ht4 : t + 1 ≤ 4)
    (hx : ∀ q, x = some q → q < cN Θ (t + 1)) (k : ∀ i' : Nat, WA Λ Θ Qf (pc + 1) lv st (sy σ 0 j i' x) (K2 i')) : WA Λ Θ Qf pc lv (va_rf (x.map (cAd Θ (t + 1))) :: .int i :: .ref (cF Θ j) :: st) σ ((ix n i).bind K2) := by
  intro r hr H ls locs hl hR hS
  cases hi : ix n i with
  | none => rw [hi] at hr; cases hr
  | some i' =>
    rw [hi] at hr
    obtain ⟨h1, h2⟩ := ix_some hi
    obtain ⟨p, i1, i2, i3⟩ := wl_at (ω := cW Θ) (ad := cAd Θ) (dm0 (N := cN Θ) hg.1) σ
    rw [hg.2] at i3
    subst h2
    have hvl : vld (cN Θ) (sy σ 0 j i.toNatClampNeg x) 0 j (Λ.2 0 j) := by
      have hv := hR.2.2.2 0 j (dm0 hg.1)
      rw [hg.2] at hv ⊢
      intro a ha q hq
      rw [sy_2] at hq
      by_cases e : a = i.toNatClampNeg
      · subst e
        rw [if_pos ⟨rfl, rfl, rfl⟩] at hq
        exact hx q hq
      · rw [if_neg (fun h => e h.2.2)] at hq
        exact hv a ha q hq
    have hce : cel (cW Θ) (cAd Θ) (sy σ 0 j i.toNatClampNeg x) 0 j (Λ.2 0 j) = .inl ((cW Θ).2.2.2.1 (t + 2), n, .inr (.inr (.inr (.inr (va_up (fun i => (σ.2 0 j i).map (cAd Θ (t + 1))) i.toNatClampNeg (x.map (cAd Θ (t + 1)))))))) := by
      rw [hg.2]
      simp only [cel, arc]
      congr 7
      funext q
      rw [sy_2]
      by_cases e : q = i.toNatClampNeg
      · subst e; simp [va_up]
      · simp [va_up, e]
    cases x with
    | none =>
      refine va_astqN C.hx C.hb C.hK hR.P hR.D hS p (t + 2) (f := fun i => (σ.2 0 j i).map (cAd Θ (t + 1))) i3 ht h1 hdg (fun H1 locs1 hP1 hD1 hS1 => ?_)
      exact k _ r hr H1 ls locs1 hl (hR.back i1 i2 hP1 hce (fun d' j' h => sy_o h) hvl) hS1
    | some q =>
      obtain ⟨p2, k1, k2, k3⟩ := wl_at (ω := cW Θ) (ad := cAd Θ) (dmk (Λ := Λ) (N := cN Θ) (Nat.succ_le_succ (Nat.zero_le t)) ht4 (hx q rfl)) σ
      rw [hsh] at k3
      refine va_astq C.hx C.hb C.hK hR.P hR.D hS p (t + 2) p2 ci (v := cAd Θ (t + 1) q) (r := R0) (f := fun i => (σ.2 0 j i).map (cAd Θ (t + 1))) i3 ht k3 hc h1 hdg (fun H1 locs1 hP1 hD1 hS1 => ?_)
      exact k _ r hr H1 ls locs1 hl (hR.back i1 i2 hP1 hce (fun d' j' h => sy_o h) hvl) hS1
theorem r_alen (C : CX Θ cc own ret rm nL) {j n : Nat} (v : Int32) (hdg : decode cc pc = .ok (.arraylength, 1)) (hg : AG Λ j 0 n) (hv : Int32.ofNat n = v)
    (k : WA Λ Θ Qf (pc + 1) lv (.int v :: st) σ K) : WA Λ Θ Qf pc lv (.ref (cF Θ j) :: st) σ K := by
  intro r hr H ls locs hl hR hS
  have hat := hR.1 0 j (dm0 hg.1)
  rw [hg.2] at hat
  exact va_alen C.hx C.hb C.hK (one_P hat) 0 0 (x := (n, arc (cAd Θ) σ 0 j 0)) rfl (ty := .int) rfl hv hdg (k r hr H ls locs hl hR hS)
/-- references of one kind: the same address says the same number -/
theorem ad_inj {N : Nat → Nat} {ω : Wd} {ad : Nat → Nat → Nat} {H : Heap} (hR : Rep Λ ω ad N σ H) {d : Nat} (hd : d + 1 ≤ 4) {x y : Option Nat} (hx : ∀ q, x = some q → q < N (d + 1)) (hy : ∀ q, y = some q → q < N (d + 1)) : x.map (ad (d + 1)) = y.map (ad (d + 1)) ↔ x = y := by
  constructor
  · intro h
    cases x with
    | none => cases y with
      | none => rfl
      | some b => cases h
    | some a => cases y with
      | none => cases h
      | some b =>
        have e : ad (d + 1) a = ad (d + 1) b := Option.some.inj h
        have := (hR.2.1 (d + 1) a (d + 1) b (dmk (Nat.succ_le_succ (Nat.zero_le d)) hd (hx a rfl)) (dmk (Nat.succ_le_succ (Nat.zero_le d)) hd (hy b rfl)) e).2
        rw [this]
  · intro h; rw [h]
theorem r_acmp_eq (C : CX Θ cc own ret rm nL) {off : Int} (tgt d : Nat) (x y : Option Nat) {K1 K2 : Option ρ} (hdg : decode cc pc = .ok (.if_acmp .eq off, 3)) (ht : (pc : Int) + off = (tgt : Int)) (hd : d + 1 ≤ 4) (hx : ∀ q, x = some q → q < cN Θ (d + 1)) (hy : ∀ q, y = some q → q < cN Θ (d + 1))
    (kt : WA Λ Θ Qf tgt lv st σ K1) (kf : WA Λ Θ Qf (pc + 3) lv st σ K2) : WA Λ Θ Qf pc lv (va_rf (y.map (cAd Θ (d + 1))) :: va_rf (x.map (cAd Θ (d + 1))) :: st) σ (if x = y then K1 else K2) :=
  fun r hr H ls locs hl hR hS => lv_acmp_eq C.hx C.hb hdg ht (fun h => kt r (by rw [if_pos ((ad_inj hR hd hx hy).mp h)] at hr; exact hr) H ls locs hl hR hS) (fun h => kf r (by rw [if_neg (fun e => h ((ad_inj hR hd hx hy).mpr e))] at hr; exact hr) H ls locs hl hR hS)
theorem r_acmp_ne (C : CX Θ cc own ret rm nL) {off : Int} (tgt d : Nat) (x y : Option Nat) {K1 K2 : Option ρ} (hdg : decode cc pc = .ok (.if_acmp .ne off, 3)) (ht : (pc : Int) + off = (tgt : Int)) (hd : d + 1 ≤ 4) (hx : ∀ q, x = some q → q < cN Θ (d + 1)) (hy : ∀ q, y = some q → q < cN Θ (d + 1))
    (kt : WA Λ Θ Qf tgt lv st σ K2) (kf : WA Λ Θ Qf (pc + 3) lv st σ K1) : WA Λ Θ Qf pc lv (va_rf (y.map (cAd Θ (d + 1))) :: va_rf (x.map (cAd Θ (d + 1))) :: st) σ (if x = y then K1 else K2) :=
  fun r hr H ls locs hl hR hS => lv_acmp_ne C.hx C.hb hdg ht (fun h => kt r (by rw [if_neg (fun e => h ((ad_inj hR hd hx hy).mpr e))] at hr; exact hr) H ls locs hl hR hS) (fun h => kf r (by rw [if_pos ((ad_inj hR hd hx hy).mp h)] at hr; exact hr) H ls locs hl hR hS)
-- static arrays
theorem r_gets (C : CX Θ cc own ret rm nL) {index : Nat} (i : Nat) (hi : i < 4) (hdg : decode cc pc = .ok (.getstatic index, 3)) (hw : Cond.fieldLink own index "PostsEnd" (snm i) "[I" ∈ wt)
    (k : WA Λ Θ Qf (pc + 3) lv (.ref ((cW Θ).2.2.2.2 i) :: st) σ K) : WA Λ Θ Qf pc lv st σ K :=
  fun r hr H ls locs hl hR hS => va_gets C.hx C.hb (C.hF i hi).1 hS C.hown (C.hts _ hw) (fun _ h => h) hdg (k r hr H ls locs hl hR hS)
theorem r_sald (C : CX Θ cc own ret rm nL) {i : Nat} {a : Int32} {K2 : Nat → Option ρ} (hdg : decode cc pc = .ok (.iaload, 1)) (hi : i < 4)
    (k : ∀ a' : Nat, WA Λ Θ Qf (pc + 1) lv (.int (scon i a') :: st) σ (K2 a')) : WA Λ Θ Qf pc lv (.int a :: .ref ((cW Θ).2.2.2.2 i) :: st) σ ((ix 3 a).bind K2) := by
  intro r hr H ls locs hl hR hS
  cases he : ix 3 a with
  | none => rw [he] at hr; cases hr
  | some a' =>
    rw [he] at hr
    obtain ⟨h1, h2⟩ := ix_some he
    subst h2
    exact va_ti C.hx C.hb (C.hF i hi).2 hS h1 rfl hdg (k _ r hr H ls locs hl hR hS)
end Mem
