/-! ===== objects that are made: a constructor's rows, 'new', contracts of methods that make one ===== -/
def nup (N : Nat → Nat) (d n : Nat) : Nat → Nat := fun d' => if d' = d then n else N d'
theorem nup_self {N : Nat → Nat} {d n : Nat} (h : N d = n) : nup N d n = N := by
  funext d'
  unfold nup
  split
  · rename_i e; rw [e, h]
  · rfl
theorem nup_at (N : Nat → Nat) (d n : Nat) : nup N d n d = n := by simp [nup]
theorem nup_ne (N : Nat → Nat) {d n d' : Nat} (h : d' ≠ d) : nup N d n d' = N d' := by simp [nup, h]
/-- a new object: all 0 and null -/
def clr (σ : St) (d n : Nat) : St := (fun d' j k => if d' = d ∧ j = n then 0 else σ.1 d' j k, fun d' j k => if d' = d ∧ j = n then none else σ.2 d' j k)
theorem clr_o {σ : St} {d n d' j : Nat} (h : ¬ (d' = d ∧ j = n)) : (clr σ d n).1 d' j = σ.1 d' j ∧ (clr σ d n).2 d' j = σ.2 d' j := by
  unfold clr
  constructor
  · funext k; simp only [if_neg h]
  · funext k; simp only [if_neg h]
/-- the world of Θ1 is that of Θ with at most one object of kind d more, of which there are then n -/
def Ext (Θ Θ1 : TT) (d n k z : Nat) : Prop :=
  Θ1.1 = Θ.1 ∧ cW Θ1 = cW Θ ∧ cN Θ1 = nup (cN Θ) d n ∧ (∀ d', d' ≠ d → cAd Θ1 d' = cAd Θ d') ∧ (∀ j, j < cN Θ d → cAd Θ1 d j = cAd Θ d j) ∧ cN Θ d ≤ n ∧ cC Θ1 = ((cC Θ).1 + k, (cC Θ).2 + z) ∧ cNL Θ1 = cNL Θ
theorem Ext.lt {Θ Θ1 : TT} {d n k z : Nat} (h : Ext Θ Θ1 d n k z) {d' j : Nat} (hj : j < cN Θ d') : j < cN Θ1 d' := by
  rw [h.2.2.1]
  by_cases e : d' = d
  · subst e; rw [nup_at]; exact Nat.lt_of_lt_of_le hj h.2.2.2.2.2.1
  · rw [nup_ne _ e]; exact hj
theorem Ext.lq {Θ Θ1 : TT} {d n k z : Nat} (h : Ext Θ Θ1 d n k z) {d' : Nat} {x : Option Nat} (hj : ∀ q, x = some q → q < cN Θ d') : ∀ q, x = some q → q < cN Θ1 d' := fun q e => h.lt (hj q e)
theorem Ext.hF {Θ Θ1 : TT} {d n k z : Nat} (h : Ext Θ Θ1 d n k z) : cF Θ1 = cF Θ := by
  show (cW Θ1).2.1 = (cW Θ).2.1
  rw [h.2.1]
theorem Ext.hA {Θ Θ1 : TT} {d n k z : Nat} (h : Ext Θ Θ1 d n k z) {d' : Nat} (e : d' ≠ d) : cAd Θ1 d' = cAd Θ d' := h.2.2.2.1 d' e
theorem Ext.hN {Θ Θ1 : TT} {d n k z : Nat} (h : Ext Θ Θ1 d n k z) : cN Θ1 d = n := by rw [h.2.2.1, nup_at]
theorem Ext.refl (Θ : TT) {d n : Nat} (h : cN Θ d = n) : Ext Θ Θ d n 0 0 := ⟨rfl, rfl, (nup_self h).symm, fun _ _ => rfl, fun _ _ => rfl, Nat.le_of_eq h, rfl, rfl⟩
/-- and may write it, in a constructor -/
def FPi (Λ : Ly) (own : String) (index d j kf : Nat) (q : Nat × Nat) (ty : FieldType) : Prop :=
  ∃ (ci : Nat) (fs : List (Nat × Nat)) (Cn : String) (T : u_T) (M : Nat) (ty0 : Nat → FieldType), Λ.2 d j = .inl (ci, fs) ∧ fs[kf]? = some q ∧ vwCl[ci]? = some (Cn, T, M) ∧ kf < M ∧ (∀ w ∈ u_ws Cn T M, w ∈ wt) ∧ Cond.fieldLink own index (T kf).1 (T kf).2.1 (T kf).2.2.1 ∈ wt ∧
    (∀ k, k < M → parseFieldDescriptor (T k).2.2.1 = some (ty0 k)) ∧ (∀ a, a < M → ∀ b, b < M → a ≠ b → (T a).2.1 ≠ (T b).2.1) ∧ (T kf).2.2.2 = true ∧ (T kf).1 = own ∧ parseFieldDescriptor (T kf).2.2.1 = some ty
section Alloc
variable {ρ : Type} {Λ : Ly} {Θ : TT} {Qf : ρ → State → Prop} {cc : ByteArray} {own : String} {ret : Option FieldType} {rm : Room} {nL pc : Nat} {lv : List (Option Value)} {st : List Value} {σ : St} {K : Option ρ}
theorem WA.rl {lv' : List (Option Value)} {st' : List Value} (h1 : lv = lv') (h2 : st = st') (w : WA Λ Θ Qf pc lv' st' σ K) : WA Λ Θ Qf pc lv st σ K := by rw [h1, h2]; exact w
theorem r_putFI (C : CX Θ cc own ret rm nL) (hnm : Θ.1.2.2.2.2.2.2.2.2.1.name = "<init>") {index d j kf z : Nat} {x : Int32} (hdg : decode cc pc = .ok (.putfield index, 3)) (hf : FPi Λ own index (d + 1) j kf (0, z) .int) (hd : d + 1 ≤ 4) (hj : j < cN Θ (d + 1))
    (k : WA Λ Θ Qf (pc + 3) lv st (sx σ (d + 1) j kf x) K) : WA Λ Θ Qf pc lv (.int x :: .ref (cAd Θ (d + 1) j) :: st) σ K := by
  intro r hr H ls locs hl hR hS
  have hm : dm Λ (cN Θ) (d + 1) j := dmk (Nat.succ_le_succ (Nat.zero_le d)) hd hj
  obtain ⟨ci, fs, Cn, T, M, ty0, h1, h2, h3, h4, h5, h6, h7, h8, h9, h11, h10⟩ := hf
  obtain ⟨i, i1, i2, i3⟩ := wl_at (ω := cW Θ) (ad := cAd Θ) hm σ
  rw [h1] at i3
  refine va_putF C.hx C.hb C.hts h5 ty0 h7 h8 C.hown C.hK hR.P hR.D hS i (fs := fvs (cF Θ) (cAd Θ) σ (d + 1) j 0 fs) i3 h3 kf h4 (C.hts _ h6) (fun _ h => h) h9 hnm h11 h10 (v := .int x) rfl rfl (by rw [fvs_len]; exact (List.getElem?_eq_some_iff.mp h2).1) hdg (fun H1 locs1 hP1 hD1 hS1 => ?_)
  refine k r hr H1 ls locs1 hl (hR.back i1 i2 hP1 ?_ (fun d' j' h => sx_o h) (hR.2.2.2 (d + 1) j hm)) hS1
  rw [h1]
  simp only [cel]
  rw [fvs_eq (σ := σ) (kf := kf) (v := .int x) fs 0 (fun k q hq => ?_)]
  rw [Nat.zero_add]
  by_cases e : k = kf
  · subst e
    rw [h2] at hq
    cases hq
    simp [fvl, sx_1]
  · rw [if_neg e]
    unfold fvl
    rw [sx_1, sx_2, if_neg (fun h => e h.2.2)]
theorem r_putFQ (C : CX Θ cc own ret rm nL) (hnm : Θ.1.2.2.2.2.2.2.2.2.1.name = "<init>") {index d j kf t z : Nat} {Cn' : String} {x : Option Nat} (hdg : decode cc pc = .ok (.putfield index, 3)) (hf : FPi Λ own index (d + 1) j kf (t + 2, z) (.object Cn')) (hd : d + 1 ≤ 4) (hj : j < cN Θ (d + 1)) (hx : ∀ q, x = some q → q < cN Θ (t + 1))
    (k : WA Λ Θ Qf (pc + 3) lv st (sy σ (d + 1) j kf x) K) : WA Λ Θ Qf pc lv (va_rf (x.map (cAd Θ (t + 1))) :: .ref (cAd Θ (d + 1) j) :: st) σ K := by
  intro r hr H ls locs hl hR hS
  have hm : dm Λ (cN Θ) (d + 1) j := dmk (Nat.succ_le_succ (Nat.zero_le d)) hd hj
  obtain ⟨ci, fs, Cn, T, M, ty0, h1, h2, h3, h4, h5, h6, h7, h8, h9, h11, h10⟩ := hf
  obtain ⟨i, i1, i2, i3⟩ := wl_at (ω := cW Θ) (ad := cAd Θ) hm σ
  rw [h1] at i3
  refine va_putF C.hx C.hb C.hts h5 ty0 h7 h8 C.hown C.hK hR.P hR.D hS i (fs := fvs (cF Θ) (cAd Θ) σ (d + 1) j 0 fs) i3 h3 kf h4 (C.hts _ h6) (fun _ h => h) h9 hnm h11 h10 (v := va_rf (x.map (cAd Θ (t + 1)))) (by cases x <;> rfl) (by cases x <;> rfl) (by rw [fvs_len]; exact (List.getElem?_eq_some_iff.mp h2).1) hdg (fun H1 locs1 hP1 hD1 hS1 => ?_)
  refine k r hr H1 ls locs1 hl (hR.back i1 i2 hP1 ?_ (fun d' j' h => sy_o h) ?_) hS1
  · rw [h1]
    simp only [cel]
    rw [fvs_eq (σ := σ) (kf := kf) (v := va_rf (x.map (cAd Θ (t + 1)))) fs 0 (fun k q hq => ?_)]
    rw [Nat.zero_add]
    by_cases e : k = kf
    · subst e
      rw [h2] at hq
      cases hq
      simp [fvl, sy_2]
    · rw [if_neg e]
      unfold fvl
      rw [sy_2, sy_1, if_neg (fun h => e h.2.2)]
  · have hv := hR.2.2.2 (d + 1) j hm
    rw [h1] at hv ⊢
    intro k' t' z' hk' q hq
    rw [sy_2] at hq
    by_cases e : k' = kf
    · subst e
      rw [if_pos ⟨rfl, rfl, rfl⟩] at hq
      rw [h2] at hk'
      cases hk'
      exact hx q hq
    · rw [if_neg (fun h => e h.2.2)] at hq
      exact hv k' t' z' hk' q hq
theorem r_objInit (C : CX Θ cc own ret rm nL) {index x : Nat} (hdg : decode cc pc = .ok (.invokespecial index, 3)) (hw : Cond.methodLink own index Lib.objectInit ∈ wt ∧ Cond.instanceMethod Lib.objectInit ∈ wt ∧ Cond.code Lib.objectInit ⟨#[0xb1]⟩ 1 none ∈ wt) (h1 : 1 ≤ rm.frames) (h2 : (st.map fun v => v.category).sum + 12 ≤ rm.locals)
    (k : WA Λ Θ Qf (pc + 3) lv st σ K) : WA Λ Θ Qf pc lv (.ref x :: st) σ K :=
  fun r hr H ls locs hl hR hS => W.objInit C.hx C.hb C.hown (C.hts _ hw.1) (C.hts _ hw.2.1) (C.hts _ hw.2.2) rfl (by rw [C.hml]; exact hl.1.trans C.hn) rfl hdg (by rw [C.hR]; exact h1) (by rw [C.hR]; simpa [F0, JFrame.monitorRoom] using h2) (k r hr H ls locs hl hR hS)
/-- what the tables say of a class whose objects are made -/
def NWd (Λ : Ly) (own : String) (index d M : Nat) : Prop :=
  ∃ (ci : Nat) (fs : List (Nat × Nat)) (Cn : String) (T : u_T) (ty0 : Nat → FieldType), (∀ j, Λ.2 d j = .inl (ci, fs)) ∧ vwCl[ci]? = some (Cn, T, M) ∧ (∀ w ∈ u_ws Cn T M, w ∈ wt) ∧ Cond.classLink own index Cn ∈ wt ∧ Cond.instantiable Cn M ∈ wt ∧ Cond.initialized Cn ∈ wt ∧
    (∀ k, k < M → parseFieldDescriptor (T k).2.2.1 = some (ty0 k)) ∧ (∀ k, k < M → defaultValue (ty0 k) = (match fs.getD k (0, 0) with | (0, _) => .int 0 | _ => .null)) ∧ fs.length = M ∧ fs.all (fun q => q.1 != 1) = true
theorem arrV_cong {cA : ClassId} {n : Nat} {f g : Nat → Value} (h : ∀ j, j < n → f j = g j) : arrV cA n f = arrV cA n g := by
  unfold arrV
  congr 1
  apply Array.ext_getElem?
  intro i
  by_cases hi : i < n
  · simp [hi, h i hi]
  · simp [hi]
theorem cel_same {D : va_G} {ω : Wd} {ad ad1 : Nat → Nat → Nat} {σ σ1 : St} {N : Nat → Nat} {d j a : Nat} {sh : Shp} {H : Heap} (h1 : σ1.1 d j = σ.1 d j) (h2 : σ1.2 d j = σ.2 d j) (hv : vld N σ d j sh) (ha : ∀ d' q, q < N d' → ad1 d' q = ad d' q) (hat : va_at D vwCl (a, cel ω ad σ d j sh) H) : va_at D vwCl (a, cel ω ad1 σ1 d j sh) H := by
  cases sh with
  | inl x =>
    obtain ⟨ci, fs⟩ := x
    have e : cel ω ad1 σ1 d j (.inl (ci, fs)) = cel ω ad σ d j (.inl (ci, fs)) := by
      simp only [cel]
      congr 2
      apply List.ext_getElem?
      intro k
      rw [fvs_get, fvs_get, Nat.zero_add]
      cases hq : fs[k]? with
      | none => rfl
      | some q =>
        simp only [Option.map_some]
        obtain ⟨t, z⟩ := q
        unfold fvl
        rw [h1, h2]
        match t, hq with
        | 0, _ => rfl
        | 1, _ => rfl
        | t + 2, hq =>
          simp only
          cases hy : σ.2 d j k with
          | none => rfl
          | some y => simp only [Option.map_some, ha _ _ (hv k t z hq y hy)]
    rw [e]
    exact hat
  | inr x =>
    obtain ⟨t, n⟩ := x
    match t, hv, hat with
    | 0, _, hat =>
      have e : cel ω ad1 σ1 d j (.inr (0, n)) = cel ω ad σ d j (.inr (0, n)) := by simp only [cel, arc, h1]
      rw [e]; exact hat
    | 1, _, hat =>
      have e : cel ω ad1 σ1 d j (.inr (1, n)) = cel ω ad σ d j (.inr (1, n)) := by simp only [cel, arc, h1]
      rw [e]; exact hat
    | t + 2, hv, hat =>
      have e : vp_cell (ω.2.2.2.1 (t + 2)) (n, arc ad1 σ1 d j (t + 2)) = vp_cell (ω.2.2.2.1 (t + 2)) (n, arc ad σ d j (t + 2)) := by
        simp only [arc, vp_cell_q]
        apply arrV_cong
        intro i hi
        simp only [h2]
        cases hy : σ.2 d j i with
        | none => rfl
        | some y => simp only [Option.map_some, ha _ _ (hv i hi y hy)]
      show H[a]? = some (vp_cell _ _)
      rw [e]
      exact hat
theorem r_new (C : CX Θ cc own ret rm nL) {index d M n : Nat} (hdg : decode cc pc = .ok (.new index, 3)) (hw : NWd Λ own index (d + 1) M) (hd : d + 1 ≤ 4) (hn : cN Θ (d + 1) = n) (hr1 : (cC Θ).1 + 1 ≤ rm.cells) (hr2 : (cC Θ).2 + M ≤ rm.slots)
    (k : ∀ Θ1 : TT, CX Θ1 cc own ret rm nL → Ext Θ Θ1 (d + 1) (n + 1) 1 M → WA Λ Θ1 Qf (pc + 3) lv (.ref (cAd Θ1 (d + 1) n) :: st) (clr σ (d + 1) n) K) : WA Λ Θ Qf pc lv st σ K := by
  intro r hr H ls locs hl hR hS
  obtain ⟨ci, fs, Cn, T, ty0, h1, h2, h3, h4, h5, h6, h7, h8, h9, h10⟩ := hw
  have hfs : ∀ j, j < M → defaultValue (ty0 j) = vp_V (fvs (cF Θ) (cAd Θ) ((fun _ _ _ => 0, fun _ _ _ => none) : St) (d + 1) n 0 fs) j := by
    intro j hj
    rw [h8 j hj]
    unfold vp_V
    rw [List.getD_eq_getElem?_getD, List.getD_eq_getElem?_getD, fvs_get]
    have hlt : j < fs.length := by rw [h9]; exact hj
    have hq : fs[j]? = some fs[j] := List.getElem?_eq_getElem hlt
    rw [hq]
    simp only [Option.map_some, Option.getD_some]
    have h11 : fs[j].1 ≠ 1 := by simpa using List.all_eq_true.mp h10 _ (List.mem_of_getElem? hq)
    generalize fs[j] = q at h11
    obtain ⟨t, z⟩ := q
    match t, h11 with
    | 0, _ => rfl
    | 1, h11 => exact absurd rfl h11
    | t + 2, _ => rfl
  refine va_new C.hx C.hb C.hts h3 ty0 h7 C.hown (C.hts _ h4) (C.hts _ h5) (C.hts _ h6) C.hK hR.P hR.D hS C.hA h2 hfs (by rw [C.hR]; exact hr1) (by rw [C.hR]; exact hr2) hdg (fun q H1 hP1 hD1 hS1 => ?_)
  have hlenw : (wl Λ (cW Θ) (cAd Θ) (cN Θ) σ).length = tot Λ (cN Θ) := by unfold wl; simp
  have hnew := hP1 (tot Λ (cN Θ)) (q, .inr (ci, fvs (cF Θ) (cAd Θ) ((fun _ _ _ => 0, fun _ _ _ => none) : St) (d + 1) n 0 fs)) (by rw [List.getElem?_append_right (by omega), hlenw, Nat.sub_self]; rfl)
  have hold : ∀ i, i < tot Λ (cN Θ) → ((wl Λ (cW Θ) (cAd Θ) (cN Θ) σ) ++ [(q, .inr (ci, fvs (cF Θ) (cAd Θ) ((fun _ _ _ => 0, fun _ _ _ => none) : St) (d + 1) n 0 fs))])[i]? = (wl Λ (cW Θ) (cAd Θ) (cN Θ) σ)[i]? := fun i hi => List.getElem?_append_left (by omega)
  let ad1 : Nat → Nat → Nat := fun d' j => if d' = d + 1 ∧ j = n then q else cAd Θ d' j
  have hag : ∀ d' j, j < cN Θ d' → ad1 d' j = cAd Θ d' j := fun d' j hj => by
    show (if _ then _ else _) = _
    rw [if_neg (fun e => by rw [e.1, hn] at hj; omega)]
  have hfresh : ∀ d' j, dm Λ (cN Θ) d' j → adr (cW Θ) (cAd Θ) d' j ≠ q := by
    intro d' j hm e
    obtain ⟨i, i1, i2, i3⟩ := wl_at (ω := cW Θ) (ad := cAd Θ) hm σ
    have e1 := hD1.1 i (tot Λ (cN Θ)) _ (q, .inr (ci, fvs (cF Θ) (cAd Θ) ((fun _ _ _ => 0, fun _ _ _ => none) : St) (d + 1) n 0 fs)) (by rw [hold i i1]; exact i3) (by rw [List.getElem?_append_right (by omega), hlenw, Nat.sub_self]; rfl) e
    omega
  have hadr : ∀ d' j, dm Λ (cN Θ) d' j → adr (cW Θ) ad1 d' j = adr (cW Θ) (cAd Θ) d' j := by
    intro d' j hm
    rcases hm with ⟨rfl, h⟩ | ⟨g1, g2, g3⟩
    · rfl
    · obtain ⟨d'', rfl⟩ : ∃ d'', d' = d'' + 1 := ⟨d' - 1, by omega⟩
      exact hag _ _ g3
  have hadn : adr (cW Θ) ad1 (d + 1) n = q := by show ad1 (d + 1) n = q; show (if _ then _ else _) = _; rw [if_pos ⟨rfl, rfl⟩]
  have hdm : ∀ d' j, dm Λ (nup (cN Θ) (d + 1) (n + 1)) d' j → dm Λ (cN Θ) d' j ∨ (d' = d + 1 ∧ j = n) := by
    intro d' j hm
    rcases hm with h | ⟨g1, g2, g3⟩
    · exact Or.inl (Or.inl h)
    · by_cases e : d' = d + 1
      · subst e
        rw [nup_at] at g3
        by_cases e2 : j = n
        · exact Or.inr ⟨rfl, e2⟩
        · exact Or.inl (Or.inr ⟨g1, g2, by rw [hn]; omega⟩)
      · rw [nup_ne _ e] at g3
        exact Or.inl (Or.inr ⟨g1, g2, g3⟩)
  have hcs : ∀ d' j, dm Λ (cN Θ) d' j → ¬ (d' = d + 1 ∧ j = n) := by
    intro d' j hm e
    rcases hm with ⟨g, -⟩ | ⟨-, -, g3⟩
    · omega
    · rw [e.1, hn] at g3; omega
  have hmono : ∀ d', cN Θ d' ≤ nup (cN Θ) (d + 1) (n + 1) d' := by
    intro d'
    by_cases e : d' = d + 1
    · subst e; rw [nup_at, hn]; omega
    · rw [nup_ne _ e]; exact Nat.le_refl _
  have hR1 : Rep Λ (cW Θ) ad1 (nup (cN Θ) (d + 1) (n + 1)) (clr σ (d + 1) n) H1 := by
    refine ⟨fun d' j hm => ?_, fun d' j d2 j2 hm hm2 e => ?_, fun d' j hm => ?_, fun d' j hm => ?_⟩
    · rcases hdm d' j hm with hm | ⟨rfl, rfl⟩
      · rw [hadr d' j hm]
        have hne := hcs d' j hm
        obtain ⟨i, i1, i2, i3⟩ := wl_at (ω := cW Θ) (ad := cAd Θ) hm σ
        exact cel_same (σ := σ) (N := cN Θ) (clr_o hne).1 (clr_o hne).2 (hR.2.2.2 d' j hm) hag (hP1 i _ (by rw [hold i i1]; exact i3))
      · rw [hadn, h1]
        have e : cel (cW Θ) ad1 (clr σ (d + 1) j) (d + 1) j (.inl (ci, fs)) = .inr (ci, fvs (cF Θ) (cAd Θ) ((fun _ _ _ => 0, fun _ _ _ => none) : St) (d + 1) j 0 fs) := by
          simp only [cel]
          congr 2
          apply List.ext_getElem?
          intro k
          rw [fvs_get, fvs_get, Nat.zero_add]
          cases hq : fs[k]? with
          | none => rfl
          | some q' =>
            simp only [Option.map_some]
            obtain ⟨t, z⟩ := q'
            unfold fvl clr
            match t with
            | 0 => simp
            | 1 => rfl
            | t + 2 => simp
        rw [e]
        exact hnew
    · rcases hdm d' j hm with ha | ⟨ha1, ha2⟩
      · rcases hdm d2 j2 hm2 with hb | ⟨hb1, hb2⟩
        · rw [hadr d' j ha, hadr d2 j2 hb] at e
          exact hR.2.1 _ _ _ _ ha hb e
        · rw [hadr d' j ha, hb1, hb2, hadn] at e
          exact absurd e (hfresh d' j ha)
      · rcases hdm d2 j2 hm2 with hb | ⟨hb1, hb2⟩
        · rw [ha1, ha2, hadn, hadr d2 j2 hb] at e
          exact absurd e.symm (hfresh d2 j2 hb)
        · exact ⟨ha1.trans hb1.symm, ha2.trans hb2.symm⟩
    · rcases hdm d' j hm with hm | ⟨rfl, rfl⟩
      · rw [hadr d' j hm]; exact hR.2.2.1 d' j hm
      · rw [hadn]
        exact hD1.2 (tot Λ (cN Θ)) (q, .inr (ci, fvs (cF Θ) (cAd Θ) ((fun _ _ _ => 0, fun _ _ _ => none) : St) (d + 1) j 0 fs)) (by rw [List.getElem?_append_right (by omega), hlenw, Nat.sub_self]; rfl)
    · rcases hdm d' j hm with hm | ⟨rfl, rfl⟩
      · have hne := hcs d' j hm
        have hv := hR.2.2.2 d' j hm
        have e2 : (clr σ (d + 1) n).2 d' j = σ.2 d' j := (clr_o hne).2
        generalize Λ.2 d' j = sh at hv
        match sh, hv with
        | .inl (_, fs'), hv =>
          intro k' t z hk q' hq'
          rw [e2] at hq'
          exact Nat.lt_of_lt_of_le (hv k' t z hk q' hq') (hmono _)
        | .inr (0, _), _ => trivial
        | .inr (1, _), _ => trivial
        | .inr (t + 2, n'), hv =>
          intro i hi q' hq'
          rw [e2] at hq'
          exact Nat.lt_of_lt_of_le (hv i hi q' hq') (hmono _)
      · rw [h1]
        intro k' t z hk q' hq'
        simp [clr] at hq'
  have C1 : CX (Θ.1, cW Θ, cNL Θ, ad1, nup (cN Θ) (d + 1) (n + 1), (cC Θ).1 + 1, (cC Θ).2 + M) cc own ret rm nL :=
    ⟨C.1, C.2.1, C.2.2.1, C.2.2.2.1, C.2.2.2.2.1, C.2.2.2.2.2.1, C.2.2.2.2.2.2.1, C.2.2.2.2.2.2.2.1, C.2.2.2.2.2.2.2.2.1, C.2.2.2.2.2.2.2.2.2.1, C.2.2.2.2.2.2.2.2.2.2.1, C.2.2.2.2.2.2.2.2.2.2.2.1, C.2.2.2.2.2.2.2.2.2.2.2.2.1, hr1, hr2⟩
  have w := k _ C1 ⟨rfl, rfl, rfl, fun d' hd' => by
    show ad1 d' = _
    funext j
    show (if _ then _ else _) = _
    rw [if_neg (fun e => hd' e.1)], fun j hj => hag _ j hj, by rw [hn]; omega, rfl, rfl⟩ r hr H1 ls locs hl hR1 hS1
  have e0 : cAd ((Θ.1, cW Θ, cNL Θ, ad1, nup (cN Θ) (d + 1) (n + 1), (cC Θ).1 + 1, (cC Θ).2 + M) : TT) (d + 1) n = q := hadn
  rw [e0] at w
  exact w
end Alloc
