/-! ===== the law: its rows over both memories ===== -/
def setA (ω : Wd) (A : Nat → Prop) : Wd := (ω.1, ω.2.1, A, ω.2.2.2)
theorem Rep.setA {Λ : Ly} {ω : Wd} {ad : Nat → Nat → Nat} {N : Nat → Nat} {σ : St} {H : Heap} (h : Rep Λ ω ad N σ H) {A : Nat → Prop} (hA : ∀ d j, dm Λ N d j → A (adr ω ad d j)) : Rep Λ (setA ω A) ad N σ H := ⟨h.1, h.2.1, hA, h.2.2.2⟩
theorem Rep.kept {Λ : Ly} {ω : Wd} {ad : Nat → Nat → Nat} {N : Nat → Nat} {σ : St} {H H1 : Heap} (h : Rep Λ ω ad N σ H) (hq : ∀ d j, dm Λ N d j → H1[adr ω ad d j]? = H[adr ω ad d j]?) : Rep Λ ω ad N σ H1 := ⟨fun d j hm => (h.1 d j hm).kept (hq d j hm), h.2⟩
theorem Rep.lt {Λ : Ly} {ω : Wd} {ad : Nat → Nat → Nat} {N : Nat → Nat} {σ : St} {H : Heap} (h : Rep Λ ω ad N σ H) {d j : Nat} (hm : dm Λ N d j) : adr ω ad d j < H.size := (h.1 d j hm).lt
abbrev ad0 : Nat → Nat → Nat := fun _ _ => 0
abbrev N0 : Nat → Nat := fun _ => 0
theorem dm_LM {N : Nat → Nat} (hN : ∀ d, N d = 0) {d j : Nat} (h : dm LM N d j) : d = 0 ∧ j < 46 := by
  rcases h with h | ⟨-, -, h⟩
  · exact h
  · rw [hN] at h; exact absurd h (Nat.not_lt_zero _)
/-- both memories, apart -/
def JJ (ω1 ω2 : Wd) (σ τ : St) (ad : Nat → Nat → Nat) (N : Nat → Nat) (H : Heap) : Prop :=
  Rep LC ω1 ad N σ H ∧ Rep LM ω2 ad0 N0 τ H ∧ ∀ d j, dm LC N d j → ∀ j', j' < 46 → adr ω1 ad d j ≠ ω2.2.1 j'
def Ac (ω1 ω2 : Wd) : Nat → Prop := fun q => ω1.2.2.1 q ∧ ∀ j', j' < 46 → ω2.2.1 j' ≠ q
def Am (ω1 : Wd) (ad : Nat → Nat → Nat) (N : Nat → Nat) : Nat → Prop := fun q => ω1.2.2.1 q ∧ ∀ d j, dm LC N d j → adr ω1 ad d j ≠ q
/-- what the law knows -/
def LX (Γ : CT) (b L : Nat) (xs : Nat → Int32) (ω1 ω2 : Wd) : Prop :=
  Γ.1.tables.exec = Jvm.exec ∧ Γ.2.2.2.2.2.2.2.2.2.code = code ∧ Γ.2.2.2.2.2.2.2.2.2.maxLocals = 4 ∧ Γ.2.2.2.2.1.vm.findClass R_law = some Γ.2.2.2.2.2.1.cls ∧ (∀ w ∈ wt, w.before Γ.2.2.2.2.2.2.1 Γ.2.2.2.2.1 = true) ∧ va_X b L xs Γ.2.2.2.2.1 Γ.2.2.2.2.1.heap ∧ b < Γ.2.2.2.2.1.heap.size ∧
  va_K ω1.1 vwCl (tys ω1) Γ.2.2.2.2.1 ∧ SF ω1 Γ.2.2.2.2.1 Γ.2.2.2.2.1.heap ∧ NW Γ.2.2.2.2.1 ∧ Γ.2.2.2.1 = room_1 ∧ ω1.2.2.1 = (fun q => Γ.2.2.2.2.1.heap.size ≤ q) ∧ ω2.1 = ω1.1 ∧ ω2.2.2.1 = ω1.2.2.1 ∧ ω2.2.2.2 = ω1.2.2.2
def WJ (Γ : CT) (b : Nat) (ω1 ω2 : Wd) (Q : State → Prop) (k z pc : Nat) (x3 : Int32) (st : List Value) (σ τ : St) (ad : Nat → Nat → Nat) (N : Nat → Nat) : Prop :=
  ∀ (H : Heap) (ls : Array Slot) (locs : List Loc), lv_has ls 4 [(0, .ref b), (1, .ref (ω1.2.1 0)), (2, .ref (ω2.2.1 0)), (3, .int x3)] → JJ ω1 ω2 σ τ ad N H → va_S ω1.2.2.1 Γ.2.2.2.2.1.heap H locs → WW Γ H locs k z Q (F0 Γ.2.2.2.2.2.1 pc ls st)
section Law
variable {Γ : CT} {b L : Nat} {xs : Nat → Int32} {ω1 ω2 : Wd} {Q : State → Prop} {k z pc : Nat} {x3 : Int32} {st : List Value} {σ τ : St} {ad : Nat → Nat → Nat} {N : Nat → Nat}
theorem LX.hx (X : LX Γ b L xs ω1 ω2) : Γ.1.tables.exec = Jvm.exec := X.1
theorem LX.hb (X : LX Γ b L xs ω1 ω2) : Γ.2.2.2.2.2.2.2.2.2.code = code := X.2.1
theorem LX.hml (X : LX Γ b L xs ω1 ω2) : Γ.2.2.2.2.2.2.2.2.2.maxLocals = 4 := X.2.2.1
theorem LX.hown (X : LX Γ b L xs ω1 ω2) : Γ.2.2.2.2.1.vm.findClass R_law = some Γ.2.2.2.2.2.1.cls := X.2.2.2.1
theorem LX.hts (X : LX Γ b L xs ω1 ω2) : ∀ w ∈ wt, w.before Γ.2.2.2.2.2.2.1 Γ.2.2.2.2.1 = true := X.2.2.2.2.1
theorem LX.hX (X : LX Γ b L xs ω1 ω2) : va_X b L xs Γ.2.2.2.2.1 Γ.2.2.2.2.1.heap := X.2.2.2.2.2.1
theorem LX.hbl (X : LX Γ b L xs ω1 ω2) : b < Γ.2.2.2.2.1.heap.size := X.2.2.2.2.2.2.1
theorem LX.hK (X : LX Γ b L xs ω1 ω2) : va_K ω1.1 vwCl (tys ω1) Γ.2.2.2.2.1 := X.2.2.2.2.2.2.2.1
theorem LX.hF (X : LX Γ b L xs ω1 ω2) : SF ω1 Γ.2.2.2.2.1 Γ.2.2.2.2.1.heap := X.2.2.2.2.2.2.2.2.1
theorem LX.hN (X : LX Γ b L xs ω1 ω2) : NW Γ.2.2.2.2.1 := X.2.2.2.2.2.2.2.2.2.1
theorem LX.hR (X : LX Γ b L xs ω1 ω2) : Γ.2.2.2.1 = room_1 := X.2.2.2.2.2.2.2.2.2.2.1
theorem LX.hA (X : LX Γ b L xs ω1 ω2) : ω1.2.2.1 = (fun q => Γ.2.2.2.2.1.heap.size ≤ q) := X.2.2.2.2.2.2.2.2.2.2.2.1
theorem LX.h1 (X : LX Γ b L xs ω1 ω2) : ω2.1 = ω1.1 := X.2.2.2.2.2.2.2.2.2.2.2.2.1
theorem LX.h2 (X : LX Γ b L xs ω1 ω2) : ω2.2.2.1 = ω1.2.2.1 := X.2.2.2.2.2.2.2.2.2.2.2.2.2.1
theorem LX.h3 (X : LX Γ b L xs ω1 ω2) : ω2.2.2.2 = ω1.2.2.2 := X.2.2.2.2.2.2.2.2.2.2.2.2.2.2
theorem j_aload1 (X : LX Γ b L xs ω1 ω2) (hdg : decode code pc = .ok (.aload_n 1, 1)) (w : WJ Γ b ω1 ω2 Q k z (pc + 1) x3 (.ref (ω1.2.1 0) :: st) σ τ ad N) : WJ Γ b ω1 ω2 Q k z pc x3 st σ τ ad N :=
  fun H ls locs hl hJ hS => lv_aload_n X.hx X.hb hdg rfl (lv_at hl 1 rfl) (w H ls locs hl hJ hS)
theorem j_aload2 (X : LX Γ b L xs ω1 ω2) (hdg : decode code pc = .ok (.aload_n 2, 1)) (w : WJ Γ b ω1 ω2 Q k z (pc + 1) x3 (.ref (ω2.2.1 0) :: st) σ τ ad N) : WJ Γ b ω1 ω2 Q k z pc x3 st σ τ ad N :=
  fun H ls locs hl hJ hS => lv_aload_n X.hx X.hb hdg rfl (lv_at hl 2 rfl) (w H ls locs hl hJ hS)
theorem nI_addc {i c : Nat} {v : Int32} (hv : v = nI c) : nI i + v = nI (i + c) := by rw [hv, nI_add]
/-- script[i + c] -/
theorem j_arg (X : LX Γ b L xs ω1 ω2) {i : Nat} (c : Nat) {n : Int} {v : Int32} (hn : Int32.ofInt n = v) (hv : v = nI c) (d0 : decode code pc = .ok (.aload_n 0, 1)) (d1 : decode code (pc + 1) = .ok (.iload_n 3, 1)) (d2 : decode code (pc + 2) = .ok (.iconst n, 1)) (d3 : decode code (pc + 3) = .ok (.iadd, 1)) (d4 : decode code (pc + 4) = .ok (.iaload, 1)) (hi : i + c < L) (hL : L < 2 ^ 31)
    (w : WJ Γ b ω1 ω2 Q k z (pc + 5) (nI i) (.int (xs (i + c)) :: st) σ τ ad N) : WJ Γ b ω1 ω2 Q k z pc (nI i) st σ τ ad N := by
  intro H ls locs hl hJ hS
  refine lv_aload_n X.hx X.hb d0 rfl (lv_at hl 0 rfl) ?_
  refine lv_iload_n X.hx X.hb d1 rfl (lv_at hl 3 rfl) ?_
  refine lv_iconst X.hx X.hb d2 hn ?_
  refine lv_iadd X.hx X.hb d3 ?_
  rw [nI_addc hv]
  refine va_sld X.hx X.hb X.hX X.hbl (by rw [X.hA]; exact Nat.not_le.mpr X.hbl) hS (vp_in_nI hi hL) d4 ?_
  rw [nI_clamp (by omega)]
  exact w H ls locs hl hJ hS
theorem j_arg6 (X : LX Γ b L xs ω1 ω2) {i : Nat} (d0 : decode code pc = .ok (.aload_n 0, 1)) (d1 : decode code (pc + 1) = .ok (.iload_n 3, 1)) (d2 : decode code (pc + 2) = .ok (.bipush 6, 2)) (d3 : decode code (pc + 4) = .ok (.iadd, 1)) (d4 : decode code (pc + 5) = .ok (.iaload, 1)) (hi : i + 6 < L) (hL : L < 2 ^ 31)
    (w : WJ Γ b ω1 ω2 Q k z (pc + 6) (nI i) (.int (xs (i + 6)) :: st) σ τ ad N) : WJ Γ b ω1 ω2 Q k z pc (nI i) st σ τ ad N := by
  intro H ls locs hl hJ hS
  refine lv_aload_n X.hx X.hb d0 rfl (lv_at hl 0 rfl) ?_
  refine lv_iload_n X.hx X.hb d1 rfl (lv_at hl 3 rfl) ?_
  refine lv_bipush (v := 6) X.hx X.hb d2 (by decide) ?_
  refine lv_iadd X.hx X.hb d3 ?_
  rw [nI_addc (show (6 : Int32) = nI 6 from rfl)]
  refine va_sld X.hx X.hb X.hX X.hbl (by rw [X.hA]; exact Nat.not_le.mpr X.hbl) hS (vp_in_nI hi hL) d4 ?_
  rw [nI_clamp (by omega)]
  exact w H ls locs hl hJ hS
theorem X_SF (X : LX Γ b L xs ω1 ω2) {A : Nat → Prop} (hA : ∀ q, A q → ω1.2.2.1 q) {H : Heap} {locs : List Loc} (hS : va_S ω1.2.2.1 Γ.2.2.2.2.1.heap H locs) {U : State} (hW : Γ.2.2.2.2.1.WarmedH U.vm) : SF (setA ω1 A) U H :=
  fun i hi => ⟨(((X.hF i hi).1.kept hS.2.1).moved hW.alike).narrow hA, (((X.hF i hi).2.kept hS.2.1).moved hW.alike).narrow hA⟩
theorem preC (X : LX Γ b L xs ω1 ω2) {H : Heap} {locs : List Loc} (hJ : JJ ω1 ω2 σ τ ad N H) (hS : va_S ω1.2.2.1 Γ.2.2.2.2.1.heap H locs) {U : State} (hU : U.heap = H) (hW : Γ.2.2.2.2.1.WarmedH U.vm) : Pre LC (setA ω1 (Ac ω1 ω2)) ad N σ U := by
  refine ⟨?_, va_K.moved hW.alike X.hK, fun q hq => ⟨?_, fun j' hj e => ?_⟩, ?_, X.hN.warm hW⟩
  · rw [hU]
    exact hJ.1.setA (fun d j hm => ⟨hJ.1.2.2.1 d j hm, fun j' hj' e => hJ.2.2 d j hm j' hj' e.symm⟩)
  · rw [X.hA]
    rw [hU] at hq
    exact Nat.le_trans hS.1 hq
  · have := hJ.2.1.lt (d := 0) (j := j') (Or.inl ⟨rfl, hj⟩)
    rw [hU] at hq
    have e2 : adr ω2 ad0 0 j' = q := e
    omega
  · rw [hU]
    exact X_SF X (fun q h => h.1) hS hW
theorem preM (X : LX Γ b L xs ω1 ω2) {H : Heap} {locs : List Loc} (hJ : JJ ω1 ω2 σ τ ad N H) (hS : va_S ω1.2.2.1 Γ.2.2.2.2.1.heap H locs) {U : State} (hU : U.heap = H) (hW : Γ.2.2.2.2.1.WarmedH U.vm) : Pre LM (setA ω2 (Am ω1 ad N)) ad0 N0 τ U := by
  have e1 := X.h1
  have e3 := X.h3
  refine ⟨?_, ?_, fun q hq => ⟨?_, fun d j hm e => ?_⟩, ?_, X.hN.warm hW⟩
  · rw [hU]
    refine hJ.2.1.setA (fun d j hm => ⟨by rw [← X.h2]; exact hJ.2.1.2.2.1 d j hm, fun d' j' hm' e => ?_⟩)
    obtain ⟨rfl, hj⟩ := dm_LM (fun _ => rfl) hm
    exact hJ.2.2 d' j' hm' j hj e
  · show va_K ω2.1 vwCl (tys (setA ω2 (Am ω1 ad N))) U
    have : tys (setA ω2 (Am ω1 ad N)) = tys ω1 := by unfold tys setA; rw [e3]
    rw [this, e1]
    exact va_K.moved hW.alike X.hK
  · rw [X.hA]
    rw [hU] at hq
    exact Nat.le_trans hS.1 hq
  · have := hJ.1.lt hm
    rw [hU] at hq
    omega
  · rw [hU]
    have h := X_SF X (A := Am ω1 ad N) (fun q h => h.1) hS hW
    unfold SF setA at h ⊢
    rw [e3]
    exact h
theorem j_back {H : Heap} {locs : List Loc} (hS : va_S ω1.2.2.1 Γ.2.2.2.2.1.heap H locs) {A : Nat → Prop} (hA : ∀ q, A q → ω1.2.2.1 q) {H1 : Heap} {M : List Loc} (hz : H.size ≤ H1.size) (hk : ∀ q : Nat, q < H.size → ¬ A q → H1[q]? = H[q]?) (hM : ∀ q ∈ M, A q.base) : va_S ω1.2.2.1 Γ.2.2.2.2.1.heap H1 (locs ++ M) :=
  ⟨Nat.le_trans hS.1 hz, fun q h1 h2 => by rw [hk q (Nat.lt_of_lt_of_le h1 hS.1) (fun z => h2 (hA q z))]; exact hS.2.1 q h1 h2, fun q hq => by
    rcases List.mem_append.mp hq with h | h
    · exact hS.2.2 q h
    · exact hA _ (hM q h)⟩
/-- the class is called -/
theorem j_callC (X : LX Γ b L xs ω1 ω2) {index n : Nat} {y : MethodName} {bytes : ByteArray} {maxL : Nat} {rmc : Room} {As : List Value} {r : Int32} {σ' : St} {P : Prop} {st0 : List Value}
    (hdg : decode code pc = .ok (.invokevirtual index, 3)) (hlink : Cond.methodLink R_law index y ∈ wt) (hw : VW y bytes maxL (some .int) n) (hc : y.cls = RX11)
    (hM : Ct Γ.2.1 y bytes maxL (some .int) rmc LC (setA ω1 (Ac ω1 ω2)) ad N (.ref (ω1.2.1 0) :: As) σ (some (.int r)) σ' P) (hn : As.length = n) (hst : st0 = As.reverse ++ .ref (ω1.2.1 0) :: st) (hsum : (st.map fun v => v.category).sum ≤ 8)
    (hrm : rmc.cells = 0 ∧ rmc.slots = 0 ∧ rmc.frames + 1 ≤ room_1.frames ∧ 8 + (maxL + 11) + rmc.locals ≤ room_1.locals) (hk : k ≤ room_1.cells) (hz : z ≤ room_1.slots)
    (w : WJ Γ b ω1 ω2 Q k z (pc + 3) x3 (.int r :: st) σ' τ ad N) : WJ Γ b ω1 ω2 Q k z pc x3 st0 σ τ ad N := by
  intro H ls locs hl hJ hS
  have hat := hJ.1.1 0 0 (Or.inl ⟨rfl, by decide⟩)
  have run : va_Run Γ.1 Γ.2.1 Γ.2.2.1 Γ.2.2.2.1 Γ.2.2.2.2.1 Γ.2.2.2.2.2.1 Γ.2.2.2.2.2.2.1 Γ.2.2.2.2.2.2.2.1 Γ.2.2.2.2.2.2.2.2.1 Γ.2.2.2.2.2.2.2.2.2 H locs k z 0 0 (F0 Γ.2.2.2.2.2.1 pc ls st0) st (fun st oc t => oc = .returned (some (.int r)) ∧ P ∧ Rep LC (setA ω1 (Ac ω1 ω2)) ad N σ' t.heap ∧ va_F (setA ω1 (Ac ω1 ω2)).2.2.1 st t) (setA ω1 (Ac ω1 ω2)).2.2.1 := by
    refine va_runV (As := As) (rest := st) (n := n) (C := y.cls) (rm := rmc) ⟨X.hx, X.hb, X.hml, X.hown, X.hts⟩ hM ⟨callB_of n X.hts (wt_cons hw.1.2.1) rfl hrm.1 hrm.2.1 (X.hts _ hw.1.1) (X.hts _ hlink) hw.1.2.2 (by rw [X.hR]; exact hrm.2.2), X.hts _ hw.2.1, X.hts _ hw.2.2⟩
      ⟨Pre.blind, ?_, fun U hU hW => ⟨rfl, preC X hJ hS hU hW⟩⟩ rfl hn hl.1 hst (lv_room hsum) hdg (by rw [X.hR]; exact ⟨hk, hz⟩)
    rw [hc]
    exact va_recv X.hK (one_P hat) (q := (RX11, TX11, 8)) (ci := 11) (q0 := 0) rfl rfl
  intro T hT S
  obtain ⟨v, st₀, t, T', M, h0, S', hMb, e1, e2, ⟨hv, hp, hrep, hz1, hk1⟩, go⟩ := run T hT S
  cases hv
  rw [h0] at hz1 hk1
  have hJ1 : JJ ω1 ω2 σ' τ ad N T'.heap := by
    rw [e1]
    refine ⟨hrep.setA (A := ω1.2.2.1) (fun d j hm => (hrep.2.2.1 d j hm).1), hJ.2.1.kept (fun d j hm => ?_), hJ.2.2⟩
    obtain ⟨rfl, hj⟩ := dm_LM (fun _ => rfl) hm
    exact hk1 _ (hJ.2.1.lt hm) (fun h => h.2 j hj rfl)
  obtain ⟨t2, a1, b1⟩ := w T'.heap ls (locs ++ M) hl hJ1 (j_back hS (A := Ac ω1 ω2) (fun q h => h.1) (by rw [e1]; exact hz1) (by rw [e1]; exact hk1) hMb) T' rfl S'
  exact ⟨t2, go t2 a1, b1⟩
/-- the class is called, and may make an object -/
theorem j_callA (X : LX Γ b L xs ω1 ω2) {index n kd mc ms n' : Nat} {y : MethodName} {bytes : ByteArray} {maxL : Nat} {rmc : Room} {As : List Value} {r : Int32} {σ' : St} {P : Prop} {st0 : List Value}
    (hdg : decode code pc = .ok (.invokevirtual index, 3)) (hlink : Cond.methodLink R_law index y ∈ wt) (hw : VW y bytes maxL (some .int) n) (hc : y.cls = RX11)
    (hM : CtA Γ.2.1 y bytes maxL (some .int) rmc LC (setA ω1 (Ac ω1 ω2)) ad N (.ref (ω1.2.1 0) :: As) σ kd mc ms (some (.int r)) σ' n' P) (hn : As.length = n) (hst : st0 = As.reverse ++ .ref (ω1.2.1 0) :: st) (hsum : (st.map fun v => v.category).sum ≤ 8)
    (hrm : rmc.cells = mc ∧ rmc.slots = ms ∧ rmc.frames + 1 ≤ room_1.frames ∧ 8 + (maxL + 11) + rmc.locals ≤ room_1.locals) (hk : k + mc ≤ room_1.cells) (hz : z + ms ≤ room_1.slots)
    (w : ∀ ad', WJ Γ b ω1 ω2 Q (k + mc) (z + ms) (pc + 3) x3 (.int r :: st) σ' τ ad' (nup N kd n')) : WJ Γ b ω1 ω2 Q k z pc x3 st0 σ τ ad N := by
  intro H ls locs hl hJ hS
  have hat := hJ.1.1 0 0 (Or.inl ⟨rfl, by decide⟩)
  have run : va_Run Γ.1 Γ.2.1 Γ.2.2.1 Γ.2.2.2.1 Γ.2.2.2.2.1 Γ.2.2.2.2.2.1 Γ.2.2.2.2.2.2.1 Γ.2.2.2.2.2.2.2.1 Γ.2.2.2.2.2.2.2.2.1 Γ.2.2.2.2.2.2.2.2.2 H locs k z mc ms (F0 Γ.2.2.2.2.2.1 pc ls st0) st (fun st oc t => oc = .returned (some (.int r)) ∧ P ∧ N kd ≤ n' ∧ (∃ ad' : Nat → Nat → Nat, (∀ d', d' ≠ kd → ad' d' = ad d') ∧ (∀ j, j < N kd → ad' kd j = ad kd j) ∧ Rep LC (setA ω1 (Ac ω1 ω2)) ad' (nup N kd n') σ' t.heap) ∧ va_F (setA ω1 (Ac ω1 ω2)).2.2.1 st t) (setA ω1 (Ac ω1 ω2)).2.2.1 := by
    refine va_runV (As := As) (rest := st) (n := n) (C := y.cls) (rm := rmc) ⟨X.hx, X.hb, X.hml, X.hown, X.hts⟩ hM ⟨callB_of n X.hts (wt_cons hw.1.2.1) rfl hrm.1 hrm.2.1 (X.hts _ hw.1.1) (X.hts _ hlink) hw.1.2.2 (by rw [X.hR]; exact hrm.2.2), X.hts _ hw.2.1, X.hts _ hw.2.2⟩
      ⟨Pre.blind, ?_, fun U hU hW => ⟨rfl, preC X hJ hS hU hW⟩⟩ rfl hn hl.1 hst (lv_room hsum) hdg (by rw [X.hR]; exact ⟨hk, hz⟩)
    rw [hc]
    exact va_recv X.hK (one_P hat) (q := (RX11, TX11, 8)) (ci := 11) (q0 := 0) rfl rfl
  intro T hT S
  obtain ⟨v, st₀, t, T', M, h0, S', hMb, e1, e2, ⟨hv, hp, hle, ⟨ad', a1, a2, hrep⟩, hz1, hk1⟩, go⟩ := run T hT S
  cases hv
  rw [h0] at hz1 hk1
  have hJ1 : JJ ω1 ω2 σ' τ ad' (nup N kd n') T'.heap := by
    rw [e1]
    refine ⟨hrep.setA (A := ω1.2.2.1) (fun d j hm => (hrep.2.2.1 d j hm).1), hJ.2.1.kept (fun d j hm => ?_), fun d j hm j' hj' e => (hrep.2.2.1 d j hm).2 j' hj' e.symm⟩
    obtain ⟨rfl, hj⟩ := dm_LM (fun _ => rfl) hm
    exact hk1 _ (hJ.2.1.lt hm) (fun h => h.2 j hj rfl)
  obtain ⟨t2, b1, b2⟩ := w ad' T'.heap ls (locs ++ M) hl hJ1 (j_back hS (A := Ac ω1 ω2) (fun q h => h.1) (by rw [e1]; exact hz1) (by rw [e1]; exact hk1) hMb) T' rfl S'
  exact ⟨t2, go t2 b1, b2⟩
/-- the reference is called -/
theorem j_callM (X : LX Γ b L xs ω1 ω2) {index n : Nat} {y : MethodName} {bytes : ByteArray} {maxL : Nat} {rmc : Room} {As : List Value} {r : Int32} {τ' : St} {P : Prop} {st0 : List Value}
    (hdg : decode code pc = .ok (.invokevirtual index, 3)) (hlink : Cond.methodLink R_law index y ∈ wt) (hw : VW y bytes maxL (some .int) n) (hc : y.cls = RX12)
    (hM : Ct Γ.2.1 y bytes maxL (some .int) rmc LM (setA ω2 (Am ω1 ad N)) ad0 N0 (.ref (ω2.2.1 0) :: As) τ (some (.int r)) τ' P) (hn : As.length = n) (hst : st0 = As.reverse ++ .ref (ω2.2.1 0) :: st) (hsum : (st.map fun v => v.category).sum ≤ 8)
    (hrm : rmc.cells = 0 ∧ rmc.slots = 0 ∧ rmc.frames + 1 ≤ room_1.frames ∧ 8 + (maxL + 11) + rmc.locals ≤ room_1.locals) (hk : k ≤ room_1.cells) (hz : z ≤ room_1.slots)
    (w : WJ Γ b ω1 ω2 Q k z (pc + 3) x3 (.int r :: st) σ τ' ad N) : WJ Γ b ω1 ω2 Q k z pc x3 st0 σ τ ad N := by
  intro H ls locs hl hJ hS
  have hat := hJ.2.1.1 0 0 (Or.inl ⟨rfl, by decide⟩)
  rw [X.h1] at hat
  have run : va_Run Γ.1 Γ.2.1 Γ.2.2.1 Γ.2.2.2.1 Γ.2.2.2.2.1 Γ.2.2.2.2.2.1 Γ.2.2.2.2.2.2.1 Γ.2.2.2.2.2.2.2.1 Γ.2.2.2.2.2.2.2.2.1 Γ.2.2.2.2.2.2.2.2.2 H locs k z 0 0 (F0 Γ.2.2.2.2.2.1 pc ls st0) st (fun st oc t => oc = .returned (some (.int r)) ∧ P ∧ Rep LM (setA ω2 (Am ω1 ad N)) ad0 N0 τ' t.heap ∧ va_F (setA ω2 (Am ω1 ad N)).2.2.1 st t) (setA ω2 (Am ω1 ad N)).2.2.1 := by
    refine va_runV (As := As) (rest := st) (n := n) (C := y.cls) (rm := rmc) ⟨X.hx, X.hb, X.hml, X.hown, X.hts⟩ hM ⟨callB_of n X.hts (wt_cons hw.1.2.1) rfl hrm.1 hrm.2.1 (X.hts _ hw.1.1) (X.hts _ hlink) hw.1.2.2 (by rw [X.hR]; exact hrm.2.2), X.hts _ hw.2.1, X.hts _ hw.2.2⟩
      ⟨Pre.blind, ?_, fun U hU hW => ⟨rfl, preM X hJ hS hU hW⟩⟩ rfl hn hl.1 hst (lv_room hsum) hdg (by rw [X.hR]; exact ⟨hk, hz⟩)
    rw [hc]
    exact va_recv X.hK (one_P hat) (q := (RX12, TX12, 66)) (ci := 12) (q0 := 0) rfl rfl
  intro T hT S
  obtain ⟨v, st₀, t, T', M, h0, S', hMb, e1, e2, ⟨hv, hp, hrep, hz1, hk1⟩, go⟩ := run T hT S
  cases hv
  rw [h0] at hz1 hk1
  have hJ1 : JJ ω1 ω2 σ τ' ad N T'.heap := by
    rw [e1]
    refine ⟨hJ.1.kept (fun d j hm => hk1 _ (hJ.1.lt hm) (fun h => h.2 d j hm rfl)), hrep.setA (A := ω2.2.2.1) (fun d j hm => by rw [X.h2]; exact (hrep.2.2.1 d j hm).1), hJ.2.2⟩
  obtain ⟨t2, a1, b1⟩ := w T'.heap ls (locs ++ M) hl hJ1 (j_back hS (A := Am ω1 ad N) (fun q h => h.1) (by rw [e1]; exact hz1) (by rw [e1]; exact hk1) hMb) T' rfl S'
  exact ⟨t2, go t2 a1, b1⟩
/-- the answers are one -/
theorem j_same (X : LX Γ b L xs ω1 ω2) {off : Int} {r : Int32} (tgt : Nat) (hdg : decode code pc = .ok (.if_icmp .eq off, 3)) (ht : (pc : Int) + off = (tgt : Int)) (w : WJ Γ b ω1 ω2 Q k z tgt x3 st σ τ ad N) : WJ Γ b ω1 ω2 Q k z pc x3 (.int r :: .int r :: st) σ τ ad N :=
  fun H ls locs hl hJ hS => lv_icmp_eq X.hx X.hb hdg ht (fun _ => w H ls locs hl hJ hS) (fun h => absurd rfl h)
theorem WJ.wide {k' z' : Nat} (h1 : k ≤ k') (h2 : z ≤ z') (w : WJ Γ b ω1 ω2 Q k' z' pc x3 st σ τ ad N) : WJ Γ b ω1 ω2 Q k z pc x3 st σ τ ad N :=
  fun H ls locs hl hJ hS => W.widen h1 h2 (w H ls locs hl hJ hS)
end Law
