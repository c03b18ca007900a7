/-! ===== loops, returns, calls, and a method's contract ===== -/
def itr0 {S E : Type} (f : S → Option (S ⊕ E)) : Nat → S → Option E
  | 0, _ => none
  | n + 1, s => (f s).bind (Sum.elim (itr0 f n) some)
/-- how often a loop may go round: far above all need -/
def FU : Nat := 1000000
/-- a method's end: what it returns, what holds of it, what the memory is -/
def Qm (Λ : Ly) (Θ : TT) (o : Option Value) (σ : St) (P : Prop) : State → Prop :=
  MQ Θ.1.2.2.2.2.2.2.2.1 (fun _ st oc t => oc = .returned o ∧ P ∧ Rep Λ (cW Θ) (cAd Θ) (cN Θ) σ t.heap ∧ va_F (cW Θ).2.2.1 st t) Θ.1.2.2.2.2.2.2.1 (cS Θ) (cC Θ).1 (cC Θ).2 (cW Θ).2.2.1
/-- a method's contract -/
def Ct (l : Launch) (y : MethodName) (cc : ByteArray) (maxL : Nat) (ret : Option FieldType) (rm : Room) (Λ : Ly) (ω : Wd) (ad : Nat → Nat → Nat) (N : Nat → Nat) (av : List Value) (σ : St) (o : Option Value) (σ' : St) (P : Prop) : Prop :=
  Met l y (.code y cc maxL ret :: wt) rm (va_Pc av (Pre Λ ω ad N σ)) (fun _ st oc t => oc = .returned o ∧ P ∧ Rep Λ ω ad N σ' t.heap ∧ va_F ω.2.2.1 st t) 0 0 ω.2.2.1
theorem Pre.blind {Λ : Ly} {ω : Wd} {ad : Nat → Nat → Nat} {N : Nat → Nat} {σ : St} {av : List Value} : FrameBlind (va_Pc av (Pre Λ ω ad N σ)) := by
  intro a U g mk h
  exact ⟨h.1, h.2.1, va_K.moved (u := U) (U := U.calling g mk a) (Vm.Alike.refl U.vm) h.2.2.1, h.2.2.2.1, SF.moved (u := U) (U := U.calling g mk a) (Vm.Alike.refl U.vm) h.2.2.2.2.1, NW.same (s := U) (U := U.calling g mk a) rfl h.2.2.2.2.2⟩
section Ret
variable {ρ : Type} {Λ : Ly} {Θ : TT} {Qf : ρ → State → Prop} {cc : ByteArray} {own : String} {ret : Option FieldType} {rm : Room} {nL pc : Nat} {lv : List (Option Value)} {st : List Value} {σ : St} {K : Option ρ}
theorem WA.itr {S E : Type} {f : S → Option (S ⊕ E)} {k : E → Option ρ} (head : Nat) (lvF : S → List (Option Value)) (stF : S → List Value) (sg : S → St) (I : S → Prop)
    (body : ∀ (s : S) (k' : S ⊕ E → Option ρ), I s → (∀ s', I s' → WA Λ Θ Qf head (lvF s') (stF s') (sg s') (k' (.inl s'))) → (∀ e, k' (.inr e) = k e) → WA Λ Θ Qf head (lvF s) (stF s) (sg s) ((f s).bind k')) :
    ∀ (n : Nat) (s : S), I s → WA Λ Θ Qf head (lvF s) (stF s) (sg s) ((itr0 f n s).bind k) := by
  intro n
  induction n with
  | zero => intro s _ r hr; cases hr
  | succ n ih =>
    intro s hs
    have h := body s (fun x => (Sum.elim (itr0 f n) some x).bind k) hs (fun s' hs' => ih s' hs') (fun e => rfl)
    intro r hr
    refine h r ?_
    rw [← hr]
    show _ = ((f s).bind _).bind k
    rw [Option.bind_assoc]
theorem WA.eqK {K' : Option ρ} (h : K = K') (w : WA Λ Θ Qf pc lv st σ K') : WA Λ Θ Qf pc lv st σ K := by rw [h]; exact w
theorem WA.cas {x v : Int32} {K1 K2 : Option ρ} (h1 : WA Λ Θ Qf pc lv (.int v :: st) σ K1) (h2 : ¬ x = v → WA Λ Θ Qf pc lv (.int x :: st) σ K2) : WA Λ Θ Qf pc lv (.int x :: st) σ (if x = v then K1 else K2) := by
  by_cases h : x = v
  · rw [if_pos h]; rw [h]; exact h1
  · rw [if_neg h]; exact h2 h
theorem tq_ne {x v : Int32} {z : Int} (h : ¬ x = v) (hv : v.toInt = z) : x.toInt ≠ z := fun e => h (Int32.toInt_inj.mp (e.trans hv.symm))
theorem r_tabIn (C : CX Θ cc own ret rm nL) {dflt lo hi : Int} {offs : Array Int} {len : Nat} {v : Int32} {off : Int} (tgt : Nat) (hdg : decode cc pc = .ok (.tableswitch dflt lo hi offs, len)) (h1 : ¬ v.toInt < lo) (h2 : ¬ hi < v.toInt) (ho : offs[(v.toInt - lo).toNat]? = some off) (ht : (pc : Int) + off = (tgt : Int)) (k : WA Λ Θ Qf tgt lv st σ K) : WA Λ Θ Qf pc lv (.int v :: st) σ K :=
  fun r hr H ls locs hl hR hS => lv_tableIn C.hx C.hb hdg h1 h2 ho ht (k r hr H ls locs hl hR hS)
theorem r_tabOut (C : CX Θ cc own ret rm nL) {dflt lo hi : Int} {offs : Array Int} {len : Nat} {x : Int32} (tgt : Nat) (hdg : decode cc pc = .ok (.tableswitch dflt lo hi offs, len)) (h : x.toInt < lo ∨ hi < x.toInt) (ht : (pc : Int) + dflt = (tgt : Int)) (k : WA Λ Θ Qf tgt lv st σ K) : WA Λ Θ Qf pc lv (.int x :: st) σ K :=
  fun r hr H ls locs hl hR hS => lv_tableOut C.hx C.hb hdg h ht (k r hr H ls locs hl hR hS)
theorem r_lookup (C : CX Θ cc own ret rm nL) {dflt : Int} {ps : Array (Int × Int)} {len : Nat} {x : Int32} {off : Int} (tgt : Nat) (hdg : decode cc pc = .ok (.lookupswitch dflt ps, len)) (hp : (ps.toList.zip (ps.toList.drop 1)).all (fun (a, next) => a.1 < next.1) = true) (ho : Op.lookupswitch.offset ps.toList dflt x.toInt = off) (ht : (pc : Int) + off = (tgt : Int)) (k : WA Λ Θ Qf tgt lv st σ K) : WA Λ Θ Qf pc lv (.int x :: st) σ K :=
  fun r hr H ls locs hl hR hS => lv_lookup C.hx C.hb hdg hp ho ht (k r hr H ls locs hl hR hS)
theorem r_iret (C : CX Θ cc own (some .int) rm nL) {x : Int32} {o : ρ → Option Value} {s' : ρ → St} {P : ρ → Prop} {r0 : ρ} (hdg : decode cc pc = .ok (.ireturn, 1)) (ho : o r0 = some (.int x)) (hs : s' r0 = σ) (hP : P r0) :
    WA Λ Θ (fun r => Qm Λ Θ (o r) (s' r) (P r)) pc lv [.int x] σ (some r0) := by
  intro r hr H ls locs hl hR hS
  cases hr
  show WW Θ.1 H locs (cC Θ).1 (cC Θ).2 (Qm Λ Θ (o r0) (s' r0) (P r0)) _
  rw [ho, hs]
  exact W.iret C.hx C.hb C.hr (fun t ht _ => ⟨rfl, hP, by rw [ht]; exact hR, hS.F ht⟩) (fun q hq => hS.2.2 q hq) hdg (hlocks := C.hlk)
theorem r_zret (C : CX Θ cc own (some .boolean) rm nL) {x : Int32} {o : ρ → Option Value} {s' : ρ → St} {P : ρ → Prop} {r0 : ρ} (hdg : decode cc pc = .ok (.ireturn, 1)) (hn : narrow .boolean (.int x) = .int x) (ho : o r0 = some (.int x)) (hs : s' r0 = σ) (hP : P r0) :
    WA Λ Θ (fun r => Qm Λ Θ (o r) (s' r) (P r)) pc lv [.int x] σ (some r0) := by
  intro r hr H ls locs hl hR hS
  cases hr
  show WW Θ.1 H locs (cC Θ).1 (cC Θ).2 (Qm Λ Θ (o r0) (s' r0) (P r0)) _
  rw [ho, hs]
  exact W.zret C.hx C.hb C.hr hn (fun t ht _ => ⟨rfl, hP, by rw [ht]; exact hR, hS.F ht⟩) (fun q hq => hS.2.2 q hq) hdg (hlocks := C.hlk)
theorem r_lret (C : CX Θ cc own (some .long) rm nL) {x : Int64} {o : ρ → Option Value} {s' : ρ → St} {P : ρ → Prop} {r0 : ρ} (hdg : decode cc pc = .ok (.lreturn, 1)) (ho : o r0 = some (.long x)) (hs : s' r0 = σ) (hP : P r0) :
    WA Λ Θ (fun r => Qm Λ Θ (o r) (s' r) (P r)) pc lv [.long x] σ (some r0) := by
  intro r hr H ls locs hl hR hS
  cases hr
  show WW Θ.1 H locs (cC Θ).1 (cC Θ).2 (Qm Λ Θ (o r0) (s' r0) (P r0)) _
  rw [ho, hs]
  exact W.lret C.hx C.hb C.hr (fun t ht _ => ⟨rfl, hP, by rw [ht]; exact hR, hS.F ht⟩) (fun q hq => hS.2.2 q hq) hdg (hlocks := C.hlk)
theorem r_vret (C : CX Θ cc own none rm nL) {o : ρ → Option Value} {s' : ρ → St} {P : ρ → Prop} {r0 : ρ} (hdg : decode cc pc = .ok (.return_, 1)) (ho : o r0 = none) (hs : s' r0 = σ) (hP : P r0) :
    WA Λ Θ (fun r => Qm Λ Θ (o r) (s' r) (P r)) pc lv [] σ (some r0) := by
  intro r hr H ls locs hl hR hS
  cases hr
  show WW Θ.1 H locs (cC Θ).1 (cC Θ).2 (Qm Λ Θ (o r0) (s' r0) (P r0)) _
  rw [ho, hs]
  exact W.vret C.hx C.hb C.hr (fun t ht _ => ⟨rfl, hP, by rw [ht]; exact hR, hS.F ht⟩) (fun q hq => hS.2.2 q hq) hdg (hlocks := C.hlk)
theorem r_aret {Cn : String} (C : CX Θ cc own (some (.object Cn)) rm nL) {x : Option Nat} {o : ρ → Option Value} {s' : ρ → St} {P : ρ → Prop} {r0 : ρ} (hdg : decode cc pc = .ok (.areturn, 1)) (ho : o r0 = some (va_rf x)) (hs : s' r0 = σ) (hP : P r0) :
    WA Λ Θ (fun r => Qm Λ Θ (o r) (s' r) (P r)) pc lv [va_rf x] σ (some r0) := by
  intro r hr H ls locs hl hR hS
  cases hr
  show WW Θ.1 H locs (cC Θ).1 (cC Θ).2 (Qm Λ Θ (o r0) (s' r0) (P r0)) _
  rw [ho, hs]
  exact W.aret C.hx C.hb C.hr (Or.inl ⟨_, rfl⟩) (va_rf_or x) (fun t ht _ => ⟨rfl, hP, by rw [ht]; exact hR, hS.F ht⟩) (fun q hq => hS.2.2 q hq) hdg (hlocks := C.hlk)
/-! Math -/
def JW (own : String) (index : Nat) (y : MethodName) (bytes : ByteArray) (maxL : Nat) : Prop := Cond.methodLink own index y ∈ wt ∧ Cond.static y ∈ wt ∧ Cond.initialized "java/lang/Math" ∈ wt ∧ Cond.code y bytes maxL (some .int) ∈ wt
theorem r_mmax (C : CX Θ cc own ret rm nL) {index : Nat} {x y : Int32} (hdg : decode cc pc = .ok (.invokestatic index, 3)) (hw : JW own index Lib.Math.max.name Lib.Math.max.code 2) (h1 : 1 ≤ rm.frames) (h2 : (st.map fun v => v.category).sum + 13 ≤ rm.locals)
    (k : WA Λ Θ Qf (pc + 3) lv (.int (if x < y then y else x) :: st) σ K) : WA Λ Θ Qf pc lv (.int y :: .int x :: st) σ K :=
  fun r hr H ls locs hl hR hS => va_mmax C.hx C.hb (C.hml.trans ((hl.1).trans C.hn).symm) C.hown (C.hts _ hw.1) (C.hts _ hw.2.1) (C.hts _ hw.2.2.1) (C.hts _ hw.2.2.2) (by rw [C.hR]; exact h1) (by rw [C.hR]; exact h2) C.hcR.1 C.hcR.2 hdg (k r hr H ls locs hl hR hS)
theorem r_mmin (C : CX Θ cc own ret rm nL) {index : Nat} {x y : Int32} (hdg : decode cc pc = .ok (.invokestatic index, 3)) (hw : JW own index Lib.Math.min.name Lib.Math.min.code 2) (h1 : 1 ≤ rm.frames) (h2 : (st.map fun v => v.category).sum + 13 ≤ rm.locals)
    (k : WA Λ Θ Qf (pc + 3) lv (.int (if y < x then y else x) :: st) σ K) : WA Λ Θ Qf pc lv (.int y :: .int x :: st) σ K :=
  fun r hr H ls locs hl hR hS => va_mmin C.hx C.hb (C.hml.trans ((hl.1).trans C.hn).symm) C.hown (C.hts _ hw.1) (C.hts _ hw.2.1) (C.hts _ hw.2.2.1) (C.hts _ hw.2.2.2) (by rw [C.hR]; exact h1) (by rw [C.hR]; exact h2) C.hcR.1 C.hcR.2 hdg (k r hr H ls locs hl hR hS)
theorem r_mabs (C : CX Θ cc own ret rm nL) {index : Nat} {x : Int32} (hdg : decode cc pc = .ok (.invokestatic index, 3)) (hw : JW own index Lib.Math.abs.name Lib.Math.abs.code 1) (h1 : 1 ≤ rm.frames) (h2 : (st.map fun v => v.category).sum + 13 ≤ rm.locals)
    (k : WA Λ Θ Qf (pc + 3) lv (.int (if 0 ≤ x then x else 0 - x) :: st) σ K) : WA Λ Θ Qf pc lv (.int x :: st) σ K :=
  fun r hr H ls locs hl hR hS => va_mabs C.hx C.hb (C.hml.trans ((hl.1).trans C.hn).symm) C.hown (C.hts _ hw.1) (C.hts _ hw.2.1) (C.hts _ hw.2.2.1) (C.hts _ hw.2.2.2) (by rw [C.hR]; exact h1) (by rw [C.hR]; exact h2) C.hcR.1 C.hcR.2 hdg (k r hr H ls locs hl hR hS)
/-! calls -/
/-- what the tables say of a method that is called -/
def MW (y : MethodName) (bytes : ByteArray) (maxL : Nat) (ret : Option FieldType) (n : Nat) : Prop := Cond.initialized y.cls ∈ wt ∧ Cond.code y bytes maxL ret ∈ wt ∧ (y.cls ≠ "java/lang/invoke/MethodHandle" ∧ y.cls ≠ "java/lang/invoke/VarHandle" ∧ (parseMethodDescriptor y.desc).map (fun d => d.parameters.length) = some n)
def VW (y : MethodName) (bytes : ByteArray) (maxL : Nat) (ret : Option FieldType) (n : Nat) : Prop := MW y bytes maxL ret n ∧ Cond.instanceMethod y ∈ wt ∧ Cond.selects y.cls y y ∈ wt
def SW (y : MethodName) (bytes : ByteArray) (maxL : Nat) (ret : Option FieldType) (n : Nat) : Prop := MW y bytes maxL ret n ∧ Cond.static y ∈ wt
/-- the object (d, j) is of the class C -/
def RV (Λ : Ly) (d j : Nat) (Cn : String) : Prop := ∃ (ci : Nat) (fs : List (Nat × Nat)) (T : u_T) (M : Nat), Λ.2 d j = .inl (ci, fs) ∧ vwCl[ci]? = some (Cn, T, M)
theorem wt_cons {y : MethodName} {bytes : ByteArray} {maxL : Nat} {ret : Option FieldType} (h : Cond.code y bytes maxL ret ∈ wt) : GoodIn wt (.code y bytes maxL ret :: wt) := fun w hw => by
  rcases List.mem_cons.mp hw with e | e
  · rw [e]; exact wt_good _ h
  · exact wt_good _ e
/-- behind a call -/
theorem WA.after {α : Type} (C : CX Θ cc own ret rm nL) {Y : State → Outcome → State → Prop} {F : Option α} {o : α → Option Value} {s' : α → St} {P : α → Prop} {st0 : List Value} {K2 : α → Option ρ} {r0 : α} (hF : F = some r0) {H : Heap} {ls : Array Slot} {locs : List Loc} (hl : LV ls (cNL Θ) lv)
    (hS : va_S (cW Θ).2.2.1 (cS Θ).heap H locs)
    (run : va_Run Θ.1.1 Θ.1.2.1 Θ.1.2.2.1 Θ.1.2.2.2.1 Θ.1.2.2.2.2.1 Θ.1.2.2.2.2.2.1 Θ.1.2.2.2.2.2.2.1 Θ.1.2.2.2.2.2.2.2.1 Θ.1.2.2.2.2.2.2.2.2.1 Θ.1.2.2.2.2.2.2.2.2.2 H locs (cC Θ).1 (cC Θ).2 0 0 (F0 (cM Θ) pc ls st0) st (fun st oc t => oc = .returned (o r0) ∧ P r0 ∧ Rep Λ (cW Θ) (cAd Θ) (cN Θ) (s' r0) t.heap ∧ va_F (cW Θ).2.2.1 st t) (cW Θ).2.2.1)
    (k : ∀ r, P r → WA Λ Θ Qf (pc + 3) lv ((o r).toList ++ st) (s' r) (K2 r)) (r : ρ) (hr : F.bind K2 = some r) : WW Θ.1 H locs (cC Θ).1 (cC Θ).2 (Qf r) (F0 (cM Θ) pc ls st0) := by
  rw [hF] at hr
  intro T hT X
  obtain ⟨v, st₀, t, T', L, h0, X', hL, e1, e2, ⟨hv, hp, hrep, hz, hk⟩, go⟩ := run T hT X
  cases hv
  rw [h0] at hz hk
  obtain ⟨t2, a1, b1⟩ := k r0 hp r hr T'.heap ls (locs ++ L) hl (by rw [e1]; exact hrep)
    ⟨Nat.le_trans hS.1 (by rw [e1]; exact hz), fun q h1 h2 => by rw [e1, hk q (Nat.lt_of_lt_of_le h1 hS.1) h2]; exact hS.2.1 q h1 h2, fun q hq => by
      rcases List.mem_append.mp hq with h | h
      · exact hS.2.2 q h
      · exact hL q h⟩ T' rfl X'
  exact ⟨t2, go t2 a1, b1⟩
theorem CX.pre (C : CX Θ cc own ret rm nL) {H : Heap} {locs : List Loc} (hR : Rep Λ (cW Θ) (cAd Θ) (cN Θ) σ H) (hS : va_S (cW Θ).2.2.1 (cS Θ).heap H locs) {U : State} (hU : U.heap = H) (hW : (cS Θ).WarmedH U.vm) : Pre Λ (cW Θ) (cAd Θ) (cN Θ) σ U :=
  ⟨by rw [hU]; exact hR, va_K.moved hW.alike C.hK, fun q hq => C.hA q (Nat.le_trans hS.1 (by rw [← hU]; exact hq)), by rw [hU]; exact SF.moved hW.alike (SF.kept C.hF hS.2.1), C.hN.warm hW⟩
theorem r_callV (C : CX Θ cc own ret rm nL) {α : Type} {index n : Nat} {y : MethodName} {bytes : ByteArray} {maxL : Nat} {rc : Option FieldType} {rmc : Room} {d j : Nat} {As : List Value} {F : Option α} {o : α → Option Value} {s' : α → St} {P : α → Prop} {st0 : List Value} {K2 : α → Option ρ}
    (hdg : decode cc pc = .ok (.invokevirtual index, 3)) (hlink : Cond.methodLink own index y ∈ wt) (hw : VW y bytes maxL rc n) (hv : RV Λ d j y.cls) (hm : dm Λ (cN Θ) d j)
    (hM : ∀ r, F = some r → Ct Θ.1.2.1 y bytes maxL rc rmc Λ (cW Θ) (cAd Θ) (cN Θ) (.ref (adr (cW Θ) (cAd Θ) d j) :: As) σ (o r) (s' r) (P r)) (hn : As.length = n) (hst : st0 = As.reverse ++ .ref (adr (cW Θ) (cAd Θ) d j) :: st) (hsum : (st.map fun v => v.category).sum ≤ 8)
    (hrm : rmc.cells = 0 ∧ rmc.slots = 0 ∧ rmc.frames + 1 ≤ rm.frames ∧ 8 + (maxL + 11) + rmc.locals ≤ rm.locals)
    (k : ∀ r, P r → WA Λ Θ Qf (pc + 3) lv ((o r).toList ++ st) (s' r) (K2 r)) : WA Λ Θ Qf pc lv st0 σ (F.bind K2) := by
  intro r hr H ls locs hl hR hS
  cases hF : F with
  | none => rw [hF] at hr; cases hr
  | some r0 =>
    have hM0 := hM r0 hF
    obtain ⟨ci, fs, T, M, v1, v2⟩ := hv
    have hat := hR.1 d j hm
    rw [v1] at hat
    refine WA.after (Y := fun _ _ _ => True) C hF hl hS ?_ k r hr
    refine va_runV (As := As) (rest := st) (n := n) (C := y.cls) (rm := rmc) ⟨C.hx, C.hb, C.hml, C.hown, C.hts⟩ hM0 ⟨callB_of n C.hts (wt_cons hw.1.2.1) rfl hrm.1 hrm.2.1 (C.hts _ hw.1.1) (C.hts _ hlink) hw.1.2.2 (by rw [C.hR]; exact hrm.2.2), C.hts _ hw.2.1, C.hts _ hw.2.2⟩
      ⟨Pre.blind, va_recv C.hK (one_P hat) v2 (q0 := 0) rfl, fun U hU hW => ⟨rfl, C.pre hR hS hU hW⟩⟩ rfl hn (hl.1.trans C.hn) hst (lv_room hsum) hdg C.hcR
theorem r_callS (C : CX Θ cc own ret rm nL) {α : Type} {index n : Nat} {y : MethodName} {bytes : ByteArray} {maxL : Nat} {rc : Option FieldType} {rmc : Room} {As : List Value} {F : Option α} {o : α → Option Value} {s' : α → St} {P : α → Prop} {st0 : List Value} {K2 : α → Option ρ}
    (hdg : decode cc pc = .ok (.invokestatic index, 3)) (hlink : Cond.methodLink own index y ∈ wt) (hw : SW y bytes maxL rc n)
    (hM : ∀ r, F = some r → Ct Θ.1.2.1 y bytes maxL rc rmc Λ (cW Θ) (cAd Θ) (cN Θ) As σ (o r) (s' r) (P r)) (hn : As.length = n) (hst : st0 = As.reverse ++ st) (hsum : (st.map fun v => v.category).sum ≤ 8)
    (hrm : rmc.cells = 0 ∧ rmc.slots = 0 ∧ rmc.frames + 1 ≤ rm.frames ∧ 8 + (maxL + 11) + rmc.locals ≤ rm.locals)
    (k : ∀ r, P r → WA Λ Θ Qf (pc + 3) lv ((o r).toList ++ st) (s' r) (K2 r)) : WA Λ Θ Qf pc lv st0 σ (F.bind K2) := by
  intro r hr H ls locs hl hR hS
  cases hF : F with
  | none => rw [hF] at hr; cases hr
  | some r0 =>
    have hM0 := hM r0 hF
    refine WA.after (Y := fun _ _ _ => True) C hF hl hS ?_ k r hr
    refine va_runS (As := As) (rest := st) (n := n) (rm := rmc) ⟨C.hx, C.hb, C.hml, C.hown, C.hts⟩ hM0 ⟨callB_of n C.hts (wt_cons hw.1.2.1) rfl hrm.1 hrm.2.1 (C.hts _ hw.1.1) (C.hts _ hlink) hw.1.2.2 (by rw [C.hR]; exact hrm.2.2), C.hts _ hw.2⟩
      ⟨Pre.blind, fun U hU hW => ⟨rfl, C.pre hR hS hU hW⟩⟩ rfl hn (hl.1.trans C.hn) hst (lv_room hsum) hdg C.hcR
theorem r_callN (C : CX Θ cc own ret rm nL) {α : Type} {index n : Nat} {y : MethodName} {host : String} {bytes : ByteArray} {maxL : Nat} {rc : Option FieldType} {rmc : Room} {As : List Value} {F : Option α} {o : α → Option Value} {s' : α → St} {P : α → Prop} {st0 : List Value} {K2 : α → Option ρ}
    (hdg : decode cc pc = .ok (.invokestatic index, 3)) (hlink : (own, index, y, host) ∈ nws) (hw : SW y bytes maxL rc n)
    (hM : ∀ r, F = some r → Ct Θ.1.2.1 y bytes maxL rc rmc Λ (cW Θ) (cAd Θ) (cN Θ) As σ (o r) (s' r) (P r)) (hn : As.length = n) (hst : st0 = As.reverse ++ st) (hsum : (st.map fun v => v.category).sum ≤ 8)
    (hrm : rmc.cells = 0 ∧ rmc.slots = 0 ∧ rmc.frames + 1 ≤ rm.frames ∧ 8 + (maxL + 11) + rmc.locals ≤ rm.locals)
    (k : ∀ r, P r → WA Λ Θ Qf (pc + 3) lv ((o r).toList ++ st) (s' r) (K2 r)) : WA Λ Θ Qf pc lv st0 σ (F.bind K2) := by
  intro r hr H ls locs hl hR hS
  cases hF : F with
  | none => rw [hF] at hr; cases hr
  | some r0 =>
    have hM0 := hM r0 hF
    refine WA.after (Y := fun _ _ _ => True) C hF hl hS ?_ k r hr
    refine va_runSN (As := As) (rest := st) (n := n) (rm := rmc) ⟨C.hx, C.hb, C.hml, C.hown, C.hts⟩ hM0 ⟨va_cnB n C.hts (wt_cons hw.1.2.1) rfl hrm.1 hrm.2.1 (C.hN _ hlink) (C.hts _ hw.1.1) hw.1.2.2 (by rw [C.hR]; exact hrm.2.2), C.hts _ hw.2, trivial⟩
      ⟨Pre.blind, fun U hU hW => ⟨rfl, C.pre hR hS hU hW⟩⟩ rfl hn (hl.1.trans C.hn) hst (lv_room hsum) hdg C.hcR
end Ret
/-- the contract out of the walk -/
theorem ct_of {ρ : Type} {l : Launch} {y : MethodName} {cc : ByteArray} {maxL : Nat} {ret : Option FieldType} {rm : Room} {Λ : Ly} {ω : Wd} {ad : Nat → Nat → Nat} {N : Nat → Nat} {av : List Value} {σ : St} {o : ρ → Option Value} {s' : ρ → St} {P : ρ → Prop} {K : Option ρ} (lv0 : List (Option Value))
    (hpl : plainName y.cls = true) (hlv : pr 0 lv0 = lv_args 0 av) (hlen : (lg_sl av).length ≤ maxL)
    (body : ∀ Γ : CT, CX (Γ, ω, maxL, ad, N, 0, 0) cc y.cls ret rm maxL → Γ.2.1 = l → Γ.2.2.2.2.2.2.2.2.1.name = y.name → WA Λ (Γ, ω, maxL, ad, N, 0, 0) (fun r => Qm Λ (Γ, ω, maxL, ad, N, 0, 0) (o r) (s' r) (P r)) 0 lv0 [] σ K) :
    ∀ r, K = some r → Ct l y cc maxL ret rm Λ ω ad N av σ (o r) (s' r) (P r) := by
  intro r hr
  refine Met.ofW (cc := cc) (maxL := maxL) (ret := ret) hpl rfl ?_
  intro p e s m args below meth c s₁ B hml hv
  obtain ⟨rfl, hP1, hP2, hP3, hP4, hP5⟩ := hv
  have hts : ∀ w ∈ (Cond.code y cc maxL ret :: wt), w.before av.toArray s = true := atoms_spec (ws := Cond.code y cc maxL ret :: wt) B.pre
  have C : CX ((p, l, e, (headSpec (Cond.code y cc maxL ret :: wt) rm).room, s, m, av.toArray, below, meth, c), ω, maxL, ad, N, 0, 0) cc y.cls ret rm maxL :=
    ⟨B.exec, B.bytes, hml, findClass_of_methodNamed B.named, fun w hw => hts w (List.mem_cons_of_mem _ hw), B.returns, B.notSynchronized, hP2, hP3, hP4, rfl, rfl, hP5, Nat.zero_le _, Nat.zero_le _⟩
  have hl := lv_entry av (n := maxL) hlen
  rw [lg_entry_eq]
  generalize (lg_sl av ++ List.replicate (maxL - (lg_sl av).length) Slot.unset).toArray = ls at hl ⊢
  rw [← hlv] at hl
  exact body _ C rfl (name_of_methodNamed B.named B.method).1 r hr s.heap ls [] hl hP1 va_S.rf
