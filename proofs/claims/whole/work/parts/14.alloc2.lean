/-! ===== contracts of methods that may make one object ===== -/
/-- such a method's end: the memory with n' objects of kind d, the old ones where they were -/
def QmA (Λ : Ly) (Θ : TT) (d mc ms : Nat) (o : Option Value) (σ : St) (n' : Nat) (P : Prop) : State → Prop :=
  MQ Θ.1.2.2.2.2.2.2.2.1 (fun _ st oc t => oc = .returned o ∧ P ∧ cN Θ d ≤ n' ∧ (∃ ad' : Nat → Nat → Nat, (∀ d', d' ≠ d → ad' d' = cAd Θ d') ∧ (∀ j, j < cN Θ d → ad' d j = cAd Θ d j) ∧ Rep Λ (cW Θ) ad' (nup (cN Θ) d n') σ t.heap) ∧ va_F (cW Θ).2.2.1 st t) Θ.1.2.2.2.2.2.2.1 (cS Θ) mc ms (cW Θ).2.2.1
def CtA (l : Launch) (y : MethodName) (cc : ByteArray) (maxL : Nat) (ret : Option FieldType) (rm : Room) (Λ : Ly) (ω : Wd) (ad : Nat → Nat → Nat) (N : Nat → Nat) (av : List Value) (σ : St) (d mc ms : Nat) (o : Option Value) (σ' : St) (n' : Nat) (P : Prop) : Prop :=
  Met l y (.code y cc maxL ret :: wt) rm (va_Pc av (Pre Λ ω ad N σ)) (fun _ st oc t => oc = .returned o ∧ P ∧ N d ≤ n' ∧ (∃ ad' : Nat → Nat → Nat, (∀ d', d' ≠ d → ad' d' = ad d') ∧ (∀ j, j < N d → ad' d j = ad d j) ∧ Rep Λ ω ad' (nup N d n') σ' t.heap) ∧ va_F ω.2.2.1 st t) mc ms ω.2.2.1
section Alloc2
variable {ρ : Type} {Λ : Ly} {Θ : TT} {Qf : ρ → State → Prop} {cc : ByteArray} {own : String} {ret : Option FieldType} {rm : Room} {nL pc : Nat} {lv : List (Option Value)} {st : List Value} {σ : St} {K : Option ρ}
theorem r_iretA {Θ1 : TT} (C : CX Θ1 cc own (some .int) rm nL) {d n0 k z mc ms : Nat} (E : Ext Θ Θ1 d n0 k z) (hk : (cC Θ).1 + k ≤ mc) (hz : (cC Θ).2 + z ≤ ms) {x : Int32} {o : ρ → Option Value} {s' : ρ → St} {n' : ρ → Nat} {P : ρ → Prop} {r0 : ρ} (hdg : decode cc pc = .ok (.ireturn, 1)) (ho : o r0 = some (.int x)) (hs : s' r0 = σ) (hn : n' r0 = n0) (hP : P r0) :
    WA Λ Θ1 (fun r => QmA Λ Θ d mc ms (o r) (s' r) (n' r) (P r)) pc lv [.int x] σ (some r0) := by
  intro r hr H ls locs hl hR hS
  cases hr
  show WW Θ1.1 H locs (cC Θ1).1 (cC Θ1).2 (QmA Λ Θ d mc ms (o r0) (s' r0) (n' r0) (P r0)) _
  rw [ho, hs, hn]
  obtain ⟨Γ, ω, nl, ad, N, c1, c2⟩ := Θ
  obtain ⟨Γ1, ω1, nl1, ad1, N1, k1, k2⟩ := Θ1
  obtain ⟨e1, e2, e3, e4, e5, e6, e7, e8⟩ := E
  dsimp only [cW, cN, cAd, cC, cNL, cS, cM] at *
  subst e1; subst e2; subst e3
  cases e7
  refine W.widen (k := mc) (n := ms) hk hz ?_
  exact W.iret C.hx C.hb C.hr (fun t ht _ => ⟨rfl, hP, e6, ⟨ad1, e4, e5, by rw [ht]; exact hR⟩, hS.F ht⟩) (fun q hq => hS.2.2 q hq) hdg (hlocks := C.hlk)
theorem ct_ofA {l : Launch} {y : MethodName} {cc : ByteArray} {maxL : Nat} {ret : Option FieldType} {rm : Room} {Λ : Ly} {ω : Wd} {ad : Nat → Nat → Nat} {N : Nat → Nat} {av : List Value} {σ : St} {d mc ms : Nat} {o : ρ → Option Value} {s' : ρ → St} {n' : ρ → Nat} {P : ρ → Prop} {K : Option ρ} (lv0 : List (Option Value))
    (hpl : plainName y.cls = true) (hlv : pr 0 lv0 = lv_args 0 av) (hlen : (lg_sl av).length ≤ maxL)
    (body : ∀ Γ : CT, CX (Γ, ω, maxL, ad, N, 0, 0) cc y.cls ret rm maxL → Γ.2.1 = l → WA Λ (Γ, ω, maxL, ad, N, 0, 0) (fun r => QmA Λ (Γ, ω, maxL, ad, N, 0, 0) d mc ms (o r) (s' r) (n' r) (P r)) 0 lv0 [] σ K) :
    ∀ r, K = some r → CtA l y cc maxL ret rm Λ ω ad N av σ d mc ms (o r) (s' r) (n' r) (P r) := by
  intro r hr
  refine Met.ofW (cc := cc) (maxL := maxL) (ret := ret) hpl rfl ?_
  intro p e s m args below meth c s₁ B hml hv
  obtain ⟨rfl, hP1, hP2, hP3, hP4, hP5⟩ := hv
  have hts : ∀ w ∈ (Cond.code y cc maxL ret :: wt), w.before av.toArray s = true := atoms_spec (ws := Cond.code y cc maxL ret :: wt) B.pre
  have C : CX ((p, l, e, (headSpec (Cond.code y cc maxL ret :: wt) rm).room, s, m, av.toArray, below, meth, c), ω, maxL, ad, N, 0, 0) cc y.cls ret rm maxL :=
    ⟨B.exec, B.bytes, hml, findClass_of_methodNamed B.named, fun w hw => hts w (List.mem_cons_of_mem _ hw), B.returns, B.notSynchronized, hP2, hP3, hP4, rfl, rfl, hP5, Nat.zero_le _, Nat.zero_le _⟩
  have hl := lv_entry av (n := maxL) hlen
  rw [lg_entry_eq]
  generalize (lg_sl av ++ List.replicate (maxL - (lg_sl av).length) Slot.unset).toArray = ls at hl ⊢
  rw [← hlv] at hl
  exact body _ C rfl r hr s.heap ls [] hl hP1 va_S.rf
/-- a constructor's call -/
theorem r_callI (C : CX Θ cc own ret rm nL) {α : Type} {index n : Nat} {y : MethodName} {bytes : ByteArray} {maxL : Nat} {rmc : Room} {b : Nat} {As : List Value} {F : Option α} {o : α → Option Value} {s' : α → St} {P : α → Prop} {st0 : List Value} {K2 : α → Option ρ}
    (hdg : decode cc pc = .ok (.invokespecial index, 3)) (hlink : Cond.methodLink own index y ∈ wt) (hw : MW y bytes maxL none n ∧ Cond.instanceMethod y ∈ wt) (hnm : y.name = "<init>")
    (hM : ∀ r, F = some r → Ct Θ.1.2.1 y bytes maxL none rmc Λ (cW Θ) (cAd Θ) (cN Θ) (.ref b :: As) σ (o r) (s' r) (P r)) (hn : As.length = n) (hst : st0 = As.reverse ++ .ref b :: st) (hsum : (st.map fun v => v.category).sum ≤ 8)
    (hrm : rmc.cells = 0 ∧ rmc.slots = 0 ∧ rmc.frames + 1 ≤ rm.frames ∧ 8 + (maxL + 11) + rmc.locals ≤ rm.locals)
    (k : ∀ r, P r → WA Λ Θ Qf (pc + 3) lv ((o r).toList ++ st) (s' r) (K2 r)) : WA Λ Θ Qf pc lv st0 σ (F.bind K2) := by
  intro r hr H ls locs hl hR hS
  cases hF : F with
  | none => rw [hF] at hr; cases hr
  | some r0 =>
    have hM0 := hM r0 hF
    refine WA.after (Y := fun _ _ _ => True) C hF hl hS ?_ k r hr
    refine va_runI (As := As) (rest := st) (n := n) (rm := rmc) ⟨C.hx, C.hb, C.hml, C.hown, C.hts⟩ hM0 ⟨callB_of n C.hts (wt_cons hw.1.2.1) rfl hrm.1 hrm.2.1 (C.hts _ hw.1.1) (C.hts _ hlink) hw.1.2.2 (by rw [C.hR]; exact hrm.2.2), hnm, C.hts _ hw.2⟩
      ⟨Pre.blind, fun U hU hW => ⟨rfl, C.pre hR hS hU hW⟩⟩ rfl hn (hl.1.trans C.hn) hst (lv_room hsum) hdg C.hcR
/-- a call of a method that may make an object -/
theorem r_callA (C : CX Θ cc own ret rm nL) {α : Type} {index n : Nat} {y : MethodName} {bytes : ByteArray} {maxL : Nat} {rc : Option FieldType} {rmc : Room} {d j kd mc ms : Nat} {As : List Value} {F : Option α} {o : α → Option Value} {s' : α → St} {n' : α → Nat} {P : α → Prop} {st0 : List Value} {K2 : α → Option ρ}
    (hdg : decode cc pc = .ok (.invokevirtual index, 3)) (hlink : Cond.methodLink own index y ∈ wt) (hw : VW y bytes maxL rc n) (hv : RV Λ d j y.cls) (hm : dm Λ (cN Θ) d j)
    (hM : ∀ r, F = some r → CtA Θ.1.2.1 y bytes maxL rc rmc Λ (cW Θ) (cAd Θ) (cN Θ) (.ref (adr (cW Θ) (cAd Θ) d j) :: As) σ kd mc ms (o r) (s' r) (n' r) (P r)) (hn : As.length = n) (hst : st0 = As.reverse ++ .ref (adr (cW Θ) (cAd Θ) d j) :: st) (hsum : (st.map fun v => v.category).sum ≤ 8)
    (hrm : rmc.cells = mc ∧ rmc.slots = ms ∧ rmc.frames + 1 ≤ rm.frames ∧ 8 + (maxL + 11) + rmc.locals ≤ rm.locals) (hc1 : (cC Θ).1 + mc ≤ rm.cells) (hc2 : (cC Θ).2 + ms ≤ rm.slots)
    (k : ∀ r, P r → ∀ Θ1 : TT, CX Θ1 cc own ret rm nL → Ext Θ Θ1 kd (n' r) mc ms → WA Λ Θ1 Qf (pc + 3) lv ((o r).toList ++ st) (s' r) (K2 r)) : WA Λ Θ Qf pc lv st0 σ (F.bind K2) := by
  intro r hr H ls locs hl hR hS
  cases hF : F with
  | none => rw [hF] at hr; cases hr
  | some r0 =>
    have hM0 := hM r0 hF
    obtain ⟨ci, fs, T, M, v1, v2⟩ := hv
    have hat := hR.1 d j hm
    rw [v1] at hat
    rw [hF] at hr
    have run : va_Run Θ.1.1 Θ.1.2.1 Θ.1.2.2.1 Θ.1.2.2.2.1 Θ.1.2.2.2.2.1 Θ.1.2.2.2.2.2.1 Θ.1.2.2.2.2.2.2.1 Θ.1.2.2.2.2.2.2.2.1 Θ.1.2.2.2.2.2.2.2.2.1 Θ.1.2.2.2.2.2.2.2.2.2 H locs (cC Θ).1 (cC Θ).2 mc ms (F0 (cM Θ) pc ls st0) st (fun st oc t => oc = .returned (o r0) ∧ P r0 ∧ cN Θ kd ≤ n' r0 ∧ (∃ ad' : Nat → Nat → Nat, (∀ d', d' ≠ kd → ad' d' = cAd Θ d') ∧ (∀ j, j < cN Θ kd → ad' kd j = cAd Θ kd j) ∧ Rep Λ (cW Θ) ad' (nup (cN Θ) kd (n' r0)) (s' r0) t.heap) ∧ va_F (cW Θ).2.2.1 st t) (cW Θ).2.2.1 := by
      refine va_runV (As := As) (rest := st) (n := n) (C := y.cls) (rm := rmc) ⟨C.hx, C.hb, C.hml, C.hown, C.hts⟩ hM0 ⟨callB_of n C.hts (wt_cons hw.1.2.1) rfl hrm.1 hrm.2.1 (C.hts _ hw.1.1) (C.hts _ hlink) hw.1.2.2 (by rw [C.hR]; exact hrm.2.2), C.hts _ hw.2.1, C.hts _ hw.2.2⟩
        ⟨Pre.blind, va_recv C.hK (one_P hat) v2 (q0 := 0) rfl, fun U hU hW => ⟨rfl, C.pre hR hS hU hW⟩⟩ rfl hn (hl.1.trans C.hn) hst (lv_room hsum) hdg (by rw [C.hR]; exact ⟨hc1, hc2⟩)
    intro T hT X
    obtain ⟨v, st₀, t, T', L, h0, X', hL, e1, e2, ⟨hv, hp, hle, ⟨ad', a1, a2, hrep⟩, hz, hk⟩, go⟩ := run T hT X
    cases hv
    rw [h0] at hz hk
    have C1 : CX (Θ.1, cW Θ, cNL Θ, ad', nup (cN Θ) kd (n' r0), (cC Θ).1 + mc, (cC Θ).2 + ms) cc own ret rm nL :=
      ⟨C.1, C.2.1, C.2.2.1, C.2.2.2.1, C.2.2.2.2.1, C.2.2.2.2.2.1, C.2.2.2.2.2.2.1, C.2.2.2.2.2.2.2.1, C.2.2.2.2.2.2.2.2.1, C.2.2.2.2.2.2.2.2.2.1, C.2.2.2.2.2.2.2.2.2.2.1, C.2.2.2.2.2.2.2.2.2.2.2.1, C.2.2.2.2.2.2.2.2.2.2.2.2.1, hc1, hc2⟩
    obtain ⟨t2, b1, b2⟩ := k r0 hp _ C1 ⟨rfl, rfl, rfl, a1, a2, hle, rfl, rfl⟩ r hr T'.heap ls (locs ++ L) hl (by rw [e1]; exact hrep)
      ⟨Nat.le_trans hS.1 (by rw [e1]; exact hz), fun q h1 h2 => by rw [e1, hk q (Nat.lt_of_lt_of_le h1 hS.1) h2]; exact hS.2.1 q h1 h2, fun q hq => by
        rcases List.mem_append.mp hq with h | h
        · exact hS.2.2 q h
        · exact hL q h⟩ T' rfl X'
    exact ⟨t2, go t2 b1, b2⟩
end Alloc2
