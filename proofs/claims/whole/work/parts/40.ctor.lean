/-! ===== the constructors of the fixed objects: worlds as rows of cells ===== -/
def WP (D : va_G) (ws : va_W) (H : Heap) : Prop := ∀ q ∈ ws, va_at D vwCl q H
def WD (A : Nat → Prop) (ws : va_W) : Prop := (ws.map Prod.fst).Nodup ∧ ∀ q ∈ ws, A q.1
theorem WP.to {D : va_G} {ws : va_W} {H : Heap} (h : WP D ws H) : va_P D vwCl ws H := fun _ q hq => h q (List.mem_of_getElem? hq)
theorem WP.of {D : va_G} {ws : va_W} {H : Heap} (h : va_P D vwCl ws H) : WP D ws H := fun q hq => by
  obtain ⟨k, hk⟩ := List.getElem?_of_mem hq
  exact h k q hk
theorem WD.to {A : Nat → Prop} {ws : va_W} (h : WD A ws) : va_D A ws := by
  refine ⟨fun i j p q hp hq e => ?_, fun k q hq => h.2 q (List.mem_of_getElem? hq)⟩
  have hi : i < (ws.map Prod.fst).length := by rw [List.length_map]; exact (List.getElem?_eq_some_iff.mp hp).1
  refine (List.getElem?_inj hi h.1).mp ?_
  rw [List.getElem?_map, List.getElem?_map, hp, hq]
  simp [e]
theorem WD.of {A : Nat → Prop} {ws : va_W} (h : va_D A ws) : WD A ws := by
  refine ⟨?_, fun q hq => ?_⟩
  · refine List.pairwise_iff_getElem.mpr fun i j hi hj hij e => ?_
    rw [List.length_map] at hi hj
    rw [List.getElem_map, List.getElem_map] at e
    have := h.1 i j _ _ (List.getElem?_eq_getElem hi) (List.getElem?_eq_getElem hj) e
    omega
  · obtain ⟨k, hk⟩ := List.getElem?_of_mem hq
    exact h.2 k q hk
theorem WP.perm {D : va_G} {ws ws' : va_W} {H : Heap} (h : WP D ws H) (hp : ws.Perm ws') : WP D ws' H := fun q hq => h q (hp.mem_iff.mpr hq)
theorem WD.perm {A : Nat → Prop} {ws ws' : va_W} (h : WD A ws) (hp : ws.Perm ws') : WD A ws' := ⟨(hp.map Prod.fst).nodup_iff.mp h.1, fun q hq => h.2 q (hp.mem_iff.mpr hq)⟩
/-- the array types: 0 int, 1 boolean, 2 Post, 3 Person, 4 Telling -/
def aty (t : Nat) : FieldType := match t with
  | 0 => .int
  | 1 => .boolean
  | 2 => .object RX7
  | 3 => .object RX5
  | _ => .object RX10
/-- the array class t is known -/
def ArT (ω : Wd) (U : State) (t : Nat) : Prop := ArrOfT U (ω.2.2.2.1 t) (aty t) ∧ va_RA U (ω.2.2.2.1 t) (aty t)
theorem ArT.moved {ω : Wd} {u U : State} {t : Nat} (hvm : u.vm.Alike U.vm) (h : ArT ω u t) : ArT ω U t := ⟨arrOfT_moved hvm h.1, h.2.moved hvm⟩
/-- the classes' ids are the ones of the world, where they are there at all -/
def CAs (ω : Wd) (U : State) : Prop := ∀ t, ∀ cA : ClassId, U.vm.findClass ("[" ++ (aty t).toString) = some cA → cA = ω.2.2.2.1 t
theorem CAs.moved {ω : Wd} {u U : State} (hvm : u.vm.Alike U.vm) (h : CAs ω u) : CAs ω U := fun t cA e => h t cA (by rw [← hvm.findClass]; exact e)
/-- a constructor's start, its end -/
def PreL (ω : Wd) (ws : va_W) (U : State) : Prop := WP ω.1 ws U.heap ∧ WD ω.2.2.1 ws ∧ va_K ω.1 vwCl [] U ∧ (∀ q, U.heap.size ≤ q → ω.2.2.1 q) ∧ CAs ω U ∧ NW U ∧ va_AO RX7 U ∧ va_AO RX5 U ∧ va_AO RX10 U
def CtL (l : Launch) (y : MethodName) (cc : ByteArray) (maxL : Nat) (rm : Room) (ω : Wd) (av : List Value) (ws : va_W) (F : List Nat → va_W) (ts : List Nat) (mc ms : Nat) : Prop :=
  Met l y (.code y cc maxL none :: wt) rm (va_Pc av (PreL ω ws)) (fun _ st oc t => oc = .returned none ∧ (∃ us : List Nat, WP ω.1 (F us) t.heap ∧ WD ω.2.2.1 (F us)) ∧ (∀ x ∈ ts, ArT ω t x) ∧ va_F ω.2.2.1 st t) mc ms ω.2.2.1

def CL (Θ : TT) (cc : ByteArray) (own : String) (rm : Room) (nL : Nat) : Prop :=
  Θ.1.1.tables.exec = Jvm.exec ∧ Θ.1.2.2.2.2.2.2.2.2.2.code = cc ∧ Θ.1.2.2.2.2.2.2.2.2.2.maxLocals = nL ∧ cNL Θ = nL ∧ (cS Θ).vm.findClass own = some (cM Θ).cls ∧ (∀ w ∈ wt, w.before Θ.1.2.2.2.2.2.2.1 (cS Θ) = true) ∧
  Θ.1.2.2.2.2.2.2.2.2.1.sig.returnType = none ∧ Θ.1.2.2.2.2.2.2.2.2.1.locks = false ∧ va_K (cW Θ).1 vwCl [] (cS Θ) ∧ (∀ q, (cS Θ).heap.size ≤ q → (cW Θ).2.2.1 q) ∧ CAs (cW Θ) (cS Θ) ∧ NW (cS Θ) ∧ (va_AO RX7 (cS Θ) ∧ va_AO RX5 (cS Θ) ∧ va_AO RX10 (cS Θ)) ∧ Θ.1.2.2.2.1 = rm ∧ Θ.1.2.2.2.2.2.2.2.2.1.name = "<init>"
def WL (Θ : TT) (Q : State → Prop) (k z : Nat) (ws : va_W) (pc : Nat) (lv : List (Option Value)) (st : List Value) : Prop :=
  ∀ (H : Heap) (ls : Array Slot) (locs : List Loc), LV ls (cNL Θ) lv → WP (cW Θ).1 ws H → WD (cW Θ).2.2.1 ws → va_S (cW Θ).2.2.1 (cS Θ).heap H locs → WW Θ.1 H locs k z Q (F0 (cM Θ) pc ls st)
section Ctor
variable {Θ : TT} {Q : State → Prop} {cc : ByteArray} {own : String} {rm : Room} {nL pc k z : Nat} {lv : List (Option Value)} {st : List Value} {ws : va_W}
theorem CL.hx (C : CL Θ cc own rm nL) : Θ.1.1.tables.exec = Jvm.exec := C.1
theorem CL.hb (C : CL Θ cc own rm nL) : Θ.1.2.2.2.2.2.2.2.2.2.code = cc := C.2.1
theorem CL.hml (C : CL Θ cc own rm nL) : Θ.1.2.2.2.2.2.2.2.2.2.maxLocals = nL := C.2.2.1
theorem CL.hn (C : CL Θ cc own rm nL) : cNL Θ = nL := C.2.2.2.1
theorem CL.hown (C : CL Θ cc own rm nL) : (cS Θ).vm.findClass own = some (cM Θ).cls := C.2.2.2.2.1
theorem CL.hts (C : CL Θ cc own rm nL) : ∀ w ∈ wt, w.before Θ.1.2.2.2.2.2.2.1 (cS Θ) = true := C.2.2.2.2.2.1
theorem CL.hr (C : CL Θ cc own rm nL) : Θ.1.2.2.2.2.2.2.2.2.1.sig.returnType = none := C.2.2.2.2.2.2.1
theorem CL.hlk (C : CL Θ cc own rm nL) : Θ.1.2.2.2.2.2.2.2.2.1.locks = false := C.2.2.2.2.2.2.2.1
theorem CL.hK (C : CL Θ cc own rm nL) : va_K (cW Θ).1 vwCl [] (cS Θ) := C.2.2.2.2.2.2.2.2.1
theorem CL.hA (C : CL Θ cc own rm nL) : ∀ q, (cS Θ).heap.size ≤ q → (cW Θ).2.2.1 q := C.2.2.2.2.2.2.2.2.2.1
theorem CL.hC (C : CL Θ cc own rm nL) : CAs (cW Θ) (cS Θ) := C.2.2.2.2.2.2.2.2.2.2.1
theorem CL.hN (C : CL Θ cc own rm nL) : NW (cS Θ) := C.2.2.2.2.2.2.2.2.2.2.2.1
theorem CL.hO (C : CL Θ cc own rm nL) : va_AO RX7 (cS Θ) ∧ va_AO RX5 (cS Θ) ∧ va_AO RX10 (cS Θ) := C.2.2.2.2.2.2.2.2.2.2.2.2.1
theorem CL.hR (C : CL Θ cc own rm nL) : Θ.1.2.2.2.1 = rm := C.2.2.2.2.2.2.2.2.2.2.2.2.2.1
theorem CL.hnm (C : CL Θ cc own rm nL) : Θ.1.2.2.2.2.2.2.2.2.1.name = "<init>" := C.2.2.2.2.2.2.2.2.2.2.2.2.2.2
theorem l_aload_n (C : CL Θ cc own rm nL) {i : Fin 4} {x : Nat} (hdg : decode cc pc = .ok (.aload_n i, 1)) (h : lvg lv i = some (.ref x)) (w : WL Θ Q k z ws (pc + 1) lv (.ref x :: st)) : WL Θ Q k z ws pc lv st :=
  fun H ls locs hl hP hD hS => lv_aload_n C.hx C.hb hdg rfl (hl.get h) (w H ls locs hl hP hD hS)
theorem l_iconst (C : CL Θ cc own rm nL) {n : Int} (v : Int32) (hdg : decode cc pc = .ok (.iconst n, 1)) (hv : Int32.ofInt n = v) (w : WL Θ Q k z ws (pc + 1) lv (.int v :: st)) : WL Θ Q k z ws pc lv st :=
  fun H ls locs hl hP hD hS => lv_iconst C.hx C.hb hdg hv (w H ls locs hl hP hD hS)
theorem l_bipush (C : CL Θ cc own rm nL) {n : Int} (v : Int32) (hdg : decode cc pc = .ok (.bipush n, 2)) (hv : (Int8.ofInt n).toInt32 = v) (w : WL Θ Q k z ws (pc + 2) lv (.int v :: st)) : WL Θ Q k z ws pc lv st :=
  fun H ls locs hl hP hD hS => lv_bipush C.hx C.hb hdg hv (w H ls locs hl hP hD hS)
theorem l_sipush (C : CL Θ cc own rm nL) {n : Int} (v : Int32) (hdg : decode cc pc = .ok (.sipush n, 3)) (hv : (Int16.ofInt n).toInt32 = v) (w : WL Θ Q k z ws (pc + 3) lv (.int v :: st)) : WL Θ Q k z ws pc lv st :=
  fun H ls locs hl hP hD hS => lv_sipush C.hx C.hb hdg hv (w H ls locs hl hP hD hS)
theorem l_dup (C : CL Θ cc own rm nL) {v : Value} (hdg : decode cc pc = .ok (.dup, 1)) (hc : v.category = 1) (w : WL Θ Q k z ws (pc + 1) lv (v :: v :: st)) : WL Θ Q k z ws pc lv (v :: st) :=
  fun H ls locs hl hP hD hS => lv_dup C.hx C.hb hdg hc (w H ls locs hl hP hD hS)
theorem l_objInit (C : CL Θ cc own rm nL) {index x : Nat} (hdg : decode cc pc = .ok (.invokespecial index, 3)) (hw : Cond.methodLink own index Lib.objectInit ∈ wt ∧ Cond.instanceMethod Lib.objectInit ∈ wt ∧ Cond.code Lib.objectInit ⟨#[0xb1]⟩ 1 none ∈ wt) (h1 : 1 ≤ rm.frames) (h2 : (st.map fun v => v.category).sum + 12 ≤ rm.locals)
    (w : WL Θ Q k z ws (pc + 3) lv st) : WL Θ Q k z ws pc lv (.ref x :: st) :=
  fun H ls locs hl hP hD hS => W.objInit C.hx C.hb C.hown (C.hts _ hw.1) (C.hts _ hw.2.1) (C.hts _ hw.2.2) rfl (by rw [C.hml]; exact hl.1.trans C.hn) rfl hdg (by rw [C.hR]; exact h1) (by rw [C.hR]; simpa [F0, JFrame.monitorRoom] using h2) (w H ls locs hl hP hD hS)
theorem WL.eqw {ws' : va_W} (h : ws = ws') (w : WL Θ Q k z ws' pc lv st) : WL Θ Q k z ws pc lv st := by rw [h]; exact w
/-- an array of ints (t = 0) or booleans (t = 1) -/
theorem l_newa (C : CL Θ cc own rm nL) {atype : ArrayType} {t N : Nat} {n : Int32} {o : Nat × va_E} {rest news : va_W} (ht : newarray.typeOf atype = aty t) (hdef : defaultValue (aty t) = .int 0) (hdg : decode cc pc = .ok (.newarray atype, 2)) (hw : Cond.arrayClass (newarray.typeOf atype) ∈ wt) (hn : ¬ n < 0) (hN : n.toNatClampNeg = N) (hby : N * componentBytes (aty t) ≤ 536870912) (hc : k + 1 ≤ rm.cells) (hs : z + N ≤ rm.slots) (news' : Nat → va_W) (hnw : ∀ q, news ++ [(q, .inl ((cW Θ).2.2.2.1 t, N, .inl (fun _ => 0)))] = news' q)
    (w : ∀ q : Nat, ArT (cW Θ) (cS Θ) t → WL Θ Q (k + 1) (z + N) (o :: (rest ++ news' q)) (pc + 2) lv (.ref q :: st)) : WL Θ Q k z (o :: (rest ++ news)) pc lv (.int n :: st) := by
  intro H ls locs hl hP hD hS
  refine va_newa C.hx C.hb (C.hts _ hw) ht C.hK hP.to hD.to hS C.hA (a0 := (N, .inl (fun _ => 0))) (fun cA => by rw [hdef]; rfl) hn hN hby (by rw [C.hR]; exact hc) (by rw [C.hR]; exact hs) hdg (fun q cA H1 hK1 hP1 hD1 hS1 => ?_)
  have hk := hK1.2 0 (cA, aty t) rfl
  have hfc : (cS Θ).vm.findClass ("[" ++ (aty t).toString) = some cA := by
    have h2 := hk.2
    cases e : aty t with
    | object D =>
      rw [e] at h2
      obtain ⟨_, _, _, _, _, h4⟩ := h2
      exact h4
    | _ => rw [e] at h2; exact h2
  have e := C.hC t cA hfc
  subst e
  refine w q hk H1 ls locs hl ?_ ?_ hS1
  · have := WP.of hP1
    rwa [List.cons_append, List.append_assoc, hnw] at this
  · have := WD.of hD1
    rwa [List.cons_append, List.append_assoc, hnw] at this
/-- an array of references -/
theorem l_newq (C : CL Θ cc own rm nL) {index t N : Nat} {Cn : String} {n : Int32} {o : Nat × va_E} {rest news : va_W} (ht : aty t = .object Cn) (ho : va_AO Cn (cS Θ)) (hdg : decode cc pc = .ok (.anewarray index, 3)) (hw : Cond.classLink own index Cn ∈ wt) (hn : ¬ n < 0) (hN : n.toNatClampNeg = N) (hby : N * 4 ≤ 536870912) (hc : k + 1 ≤ rm.cells) (hs : z + N ≤ rm.slots) (news' : Nat → va_W) (hnw : ∀ q, news ++ [(q, .inl ((cW Θ).2.2.2.1 t, N, .inr (.inr (.inr (.inr (fun _ => none))))))] = news' q)
    (w : ∀ q : Nat, ArT (cW Θ) (cS Θ) t → WL Θ Q (k + 1) (z + N) (o :: (rest ++ news' q)) (pc + 3) lv (.ref q :: st)) : WL Θ Q k z (o :: (rest ++ news)) pc lv (.int n :: st) := by
  intro H ls locs hl hP hD hS
  refine va_newq C.hx C.hb C.hown (C.hts _ hw) ho C.hK hP.to hD.to hS C.hA hn hN hby (by rw [C.hR]; exact hc) (by rw [C.hR]; exact hs) hdg (fun q cA H1 hK1 hP1 hD1 hS1 => ?_)
  have hk := hK1.2 0 (cA, .object Cn) rfl
  have hfc : (cS Θ).vm.findClass ("[" ++ (aty t).toString) = some cA := by
    rw [ht]
    obtain ⟨_, _, _, _, _, h4⟩ := hk.2
    exact h4
  have e := C.hC t cA hfc
  subst e
  refine w q ⟨by rw [ht]; exact hk.1, by rw [ht]; exact hk.2⟩ H1 ls locs hl ?_ ?_ hS1
  · have := WP.of hP1
    rwa [List.cons_append, List.append_assoc, hnw] at this
  · have := WD.of hD1
    rwa [List.cons_append, List.append_assoc, hnw] at this
theorem set_mid {o x : Nat × va_E} {rest news : va_W} {i : Nat} (hi : i < news.length) : (o :: (rest ++ news)).set (rest.length + i + 1) x = o :: (rest ++ news.set i x) := by
  rw [List.set_cons_succ, List.set_append_right _ _ (by omega), show rest.length + i - rest.length = i by omega]
theorem get_mid {o x : Nat × va_E} {rest news : va_W} {i : Nat} (hi : news[i]? = some x) : (o :: (rest ++ news))[rest.length + i + 1]? = some x := by
  rw [List.getElem?_cons_succ, List.getElem?_append_right (by omega), show rest.length + i - rest.length = i by omega]
  exact hi
/-- into a new array of ints -/
theorem l_iast (C : CL Θ cc own rm nL) {o : Nat × va_E} {rest news : va_W} {i N : Nat} {q : Nat} {f : Nat → Int32} {a x : Int32} (hT : ArT (cW Θ) (cS Θ) 0) (hdg : decode cc pc = .ok (.iastore, 1)) (hi : news[i]? = some (q, .inl ((cW Θ).2.2.2.1 0, N, .inl f))) (ha : vp_in a N) (news' : va_W) (hnw : news.set i (q, .inl ((cW Θ).2.2.2.1 0, N, .inl (upd f a.toNatClampNeg x))) = news')
    (w : WL Θ Q k z (o :: (rest ++ news')) (pc + 1) lv st) : WL Θ Q k z (o :: (rest ++ news)) pc lv (.int x :: .int a :: .ref q :: st) := by
  intro H ls locs hl hP hD hS
  have hK1 : va_K (cW Θ).1 vwCl [((cW Θ).2.2.2.1 0, .int)] (cS Θ) := ⟨C.hK.1, fun j p hp => by
    have hz : j < 1 := (List.getElem?_eq_some_iff.mp hp).1
    rw [show j = 0 by omega] at hp
    cases hp
    exact hT⟩
  refine va_iast C.hx C.hb hK1 hP.to hD.to hS (rest.length + i + 1) 0 (get_mid hi) rfl ha hdg (fun H1 locs1 hP1 hD1 hS1 => ?_)
  rw [set_mid (List.getElem?_eq_some_iff.mp hi).1, hnw] at hP1 hD1
  exact w H1 ls locs1 hl (WP.of hP1) (WD.of hD1) hS1
def LPf (own : String) (index ci kf : Nat) (fin : Bool) (ty : FieldType) : Prop :=
  ∃ (Cn : String) (T : u_T) (M : Nat) (ty0 : Nat → FieldType), vwCl[ci]? = some (Cn, T, M) ∧ kf < M ∧ (∀ w ∈ u_ws Cn T M, w ∈ wt) ∧ Cond.fieldLink own index (T kf).1 (T kf).2.1 (T kf).2.2.1 ∈ wt ∧
    (∀ k, k < M → parseFieldDescriptor (T k).2.2.1 = some (ty0 k)) ∧ (∀ a, a < M → ∀ b, b < M → a ≠ b → (T a).2.1 ≠ (T b).2.1) ∧ (T kf).2.2.2 = fin ∧ (T kf).1 = own ∧ parseFieldDescriptor (T kf).2.2.1 = some ty
theorem l_put (C : CL Θ cc own rm nL) {index ci kf a : Nat} {fin : Bool} {ty : FieldType} {v : Value} {fs : List Value} {rest : va_W} (hdg : decode cc pc = .ok (.putfield index, 3)) (hw : LPf own index ci kf fin ty) (hn : narrow ty v = v) (hfit : fits ty v = true) (hl0 : kf < fs.length) (fs' : List Value) (hfs : fs.set kf v = fs')
    (w : WL Θ Q k z ((a, .inr (ci, fs')) :: rest) (pc + 3) lv st) : WL Θ Q k z ((a, .inr (ci, fs)) :: rest) pc lv (v :: .ref a :: st) := by
  intro H ls locs hl hP hD hS
  obtain ⟨Cn, T, M, ty0, h3, h4, h5, h6, h7, h8, h9, h11, h10⟩ := hw
  subst hfs
  cases fin with
  | true => exact va_putF C.hx C.hb C.hts h5 ty0 h7 h8 C.hown C.hK hP.to hD.to hS 0 rfl h3 kf h4 (C.hts _ h6) (fun _ h => h) h9 C.hnm h11 h10 hn hfit hl0 hdg (fun H1 locs1 hP1 hD1 hS1 => w H1 ls locs1 hl (WP.of hP1) (WD.of hD1) hS1)
  | false => exact va_put C.hx C.hb C.hts h5 ty0 h7 h8 C.hown C.hK hP.to hD.to hS 0 rfl h3 kf h4 (C.hts _ h6) (fun _ h => h) h9 h10 hn hfit hl0 hdg (fun H1 locs1 hP1 hD1 hS1 => w H1 ls locs1 hl (WP.of hP1) (WD.of hD1) hS1)
theorem l_get (C : CL Θ cc own rm nL) {index ci kf a : Nat} {fin : Bool} {ty : FieldType} {v : Value} {fs : List Value} {rest : va_W} (hdg : decode cc pc = .ok (.getfield index, 3)) (hw : LPf own index ci kf fin ty) (hv : fs[kf]? = some v)
    (w : WL Θ Q k z ((a, .inr (ci, fs)) :: rest) (pc + 3) lv (v :: st)) : WL Θ Q k z ((a, .inr (ci, fs)) :: rest) pc lv (.ref a :: st) := by
  intro H ls locs hl hP hD hS
  obtain ⟨Cn, T, M, ty0, h3, h4, h5, h6, h7, h8, h9, h11, h10⟩ := hw
  exact va_get C.hx C.hb C.hts h5 C.hown C.hK hP.to 0 rfl h3 kf h4 (C.hts _ h6) (fun _ h => h) hv hdg (w H ls locs hl hP hD hS)
/-- a new object -/
theorem l_new (C : CL Θ cc own rm nL) {index ci M : Nat} {Cn : String} {T : u_T} {ty0 : Nat → FieldType} {fs : List Value} {o : Nat × va_E} {rest news : va_W} (hdg : decode cc pc = .ok (.new index, 3)) (h1 : vwCl[ci]? = some (Cn, T, M)) (h2 : ∀ w ∈ u_ws Cn T M, w ∈ wt) (h3 : ∀ k, k < M → parseFieldDescriptor (T k).2.2.1 = some (ty0 k)) (h4 : Cond.classLink own index Cn ∈ wt ∧ Cond.instantiable Cn M ∈ wt ∧ Cond.initialized Cn ∈ wt) (hfs : ∀ j, j < M → defaultValue (ty0 j) = vp_V fs j) (hc : k + 1 ≤ rm.cells) (hs : z + M ≤ rm.slots) (news' : Nat → va_W) (hnw : ∀ q, news ++ [(q, .inr (ci, fs))] = news' q)
    (w : ∀ q : Nat, WL Θ Q (k + 1) (z + M) (o :: (rest ++ news' q)) (pc + 3) lv (.ref q :: st)) : WL Θ Q k z (o :: (rest ++ news)) pc lv st := by
  intro H ls locs hl hP hD hS
  refine va_new C.hx C.hb C.hts h2 ty0 h3 C.hown (C.hts _ h4.1) (C.hts _ h4.2.1) (C.hts _ h4.2.2) C.hK hP.to hD.to hS C.hA h1 hfs (by rw [C.hR]; exact hc) (by rw [C.hR]; exact hs) hdg (fun q H1 hP1 hD1 hS1 => ?_)
  refine w q H1 ls locs hl ?_ ?_ hS1
  · have := WP.of hP1
    rwa [List.cons_append, List.append_assoc, hnw] at this
  · have := WD.of hD1
    rwa [List.cons_append, List.append_assoc, hnw] at this
theorem PreL.blind {ω : Wd} {ws : va_W} {av : List Value} : FrameBlind (va_Pc av (PreL ω ws)) := by
  intro a U g mk h
  exact ⟨h.1, h.2.1, h.2.2.1, va_K.moved (u := U) (U := U.calling g mk a) (Vm.Alike.refl U.vm) h.2.2.2.1, h.2.2.2.2.1, CAs.moved (u := U) (U := U.calling g mk a) (Vm.Alike.refl U.vm) h.2.2.2.2.2.1, NW.same (s := U) (U := U.calling g mk a) rfl h.2.2.2.2.2.2.1, va_AO.moved (u := U) (U := U.calling g mk a) (Vm.Alike.refl U.vm) h.2.2.2.2.2.2.2.1, va_AO.moved (u := U) (U := U.calling g mk a) (Vm.Alike.refl U.vm) h.2.2.2.2.2.2.2.2.1, va_AO.moved (u := U) (U := U.calling g mk a) (Vm.Alike.refl U.vm) h.2.2.2.2.2.2.2.2.2⟩
theorem CL.pre (C : CL Θ cc own rm nL) {H : Heap} {locs : List Loc} (hP : WP (cW Θ).1 ws H) (hD : WD (cW Θ).2.2.1 ws) (hS : va_S (cW Θ).2.2.1 (cS Θ).heap H locs) {U : State} (hU : U.heap = H) (hW : (cS Θ).WarmedH U.vm) : PreL (cW Θ) ws U :=
  ⟨by rw [hU]; exact hP, hD, va_K.moved hW.alike C.hK, fun q hq => C.hA q (Nat.le_trans hS.1 (by rw [← hU]; exact hq)), C.hC.moved hW.alike, C.hN.warm hW, C.hO.1.moved hW.alike, C.hO.2.1.moved hW.alike, C.hO.2.2.moved hW.alike⟩
/-- a constructor's call on an object of the row: the callee sees it first -/
theorem l_call (C : CL Θ cc own rm nL) {index n mc ms : Nat} {y : MethodName} {bytes : ByteArray} {maxL : Nat} {rmc : Room} {b : Nat} {As : List Value} {wc : va_W} {F : List Nat → va_W} {ts : List Nat} {st0 : List Value} {G : List Nat → va_W}
    (run : ∀ H locs ls, LV ls (cNL Θ) lv → WP (cW Θ).1 wc H → WD (cW Θ).2.2.1 wc → va_S (cW Θ).2.2.1 (cS Θ).heap H locs → va_Run Θ.1.1 Θ.1.2.1 Θ.1.2.2.1 Θ.1.2.2.2.1 Θ.1.2.2.2.2.1 Θ.1.2.2.2.2.2.1 Θ.1.2.2.2.2.2.2.1 Θ.1.2.2.2.2.2.2.2.1 Θ.1.2.2.2.2.2.2.2.2.1 Θ.1.2.2.2.2.2.2.2.2.2 H locs k z mc ms (F0 (cM Θ) pc ls st0) st (fun st oc t => oc = .returned none ∧ (∃ us : List Nat, WP (cW Θ).1 (F us) t.heap ∧ WD (cW Θ).2.2.1 (F us)) ∧ (∀ x ∈ ts, ArT (cW Θ) t x) ∧ va_F (cW Θ).2.2.1 st t) (cW Θ).2.2.1)
    (hp1 : ws.Perm wc) (hp2 : ∀ us, (F us).Perm (G us))
    (w : ∀ us : List Nat, (∀ x ∈ ts, ArT (cW Θ) (cS Θ) x) → WL Θ Q (k + mc) (z + ms) (G us) (pc + 3) lv st) : WL Θ Q k z ws pc lv st0 := by
  intro H ls locs hl hP hD hS T hT X
  obtain ⟨v, st₀, t, T', L, h0, X', hL, e1, e2, ⟨hv, ⟨us, hP1, hD1⟩, hts, hz, hk⟩, go⟩ := run H locs ls hl (hP.perm hp1) (hD.perm hp1) hS T hT X
  cases hv
  rw [h0] at hz hk
  have hal : (cS Θ).vm.Alike t.vm := by rw [← e2]; exact X'.warmed.alike
  obtain ⟨t2, a1, b1⟩ := w us (fun x hx => (hts x hx).moved hal.symm) T'.heap ls (locs ++ L) hl (by rw [e1]; exact hP1.perm (hp2 us)) (hD1.perm (hp2 us))
    ⟨Nat.le_trans hS.1 (by rw [e1]; exact hz), fun q h1 h2 => by rw [e1, hk q (Nat.lt_of_lt_of_le h1 hS.1) h2]; exact hS.2.1 q h1 h2, fun q hq => by
      rcases List.mem_append.mp hq with h | h
      · exact hS.2.2 q h
      · exact hL q h⟩ T' rfl X'
  exact ⟨t2, go t2 a1, b1⟩
theorem l_runI (C : CL Θ cc own rm nL) {index n mc ms : Nat} {y : MethodName} {bytes : ByteArray} {maxL : Nat} {rmc : Room} {b : Nat} {As : List Value} {wc : va_W} {F : List Nat → va_W} {ts : List Nat} {st0 : List Value}
    (hdg : decode cc pc = .ok (.invokespecial index, 3)) (hlink : Cond.methodLink own index y ∈ wt) (hw : MW y bytes maxL none n ∧ Cond.instanceMethod y ∈ wt) (hnm : y.name = "<init>")
    (hM : CtL Θ.1.2.1 y bytes maxL rmc (cW Θ) (.ref b :: As) wc F ts mc ms) (hn : As.length = n) (hst : st0 = As.reverse ++ .ref b :: st) (hsum : (st.map fun v => v.category).sum ≤ 8)
    (hrm : rmc.cells = mc ∧ rmc.slots = ms ∧ rmc.frames + 1 ≤ rm.frames ∧ 8 + (maxL + 11) + rmc.locals ≤ rm.locals) (hc1 : k + mc ≤ rm.cells) (hc2 : z + ms ≤ rm.slots) :
    ∀ H locs ls, LV ls (cNL Θ) lv → WP (cW Θ).1 wc H → WD (cW Θ).2.2.1 wc → va_S (cW Θ).2.2.1 (cS Θ).heap H locs → va_Run Θ.1.1 Θ.1.2.1 Θ.1.2.2.1 Θ.1.2.2.2.1 Θ.1.2.2.2.2.1 Θ.1.2.2.2.2.2.1 Θ.1.2.2.2.2.2.2.1 Θ.1.2.2.2.2.2.2.2.1 Θ.1.2.2.2.2.2.2.2.2.1 Θ.1.2.2.2.2.2.2.2.2.2 H locs k z mc ms (F0 (cM Θ) pc ls st0) st (fun st oc t => oc = .returned none ∧ (∃ us : List Nat, WP (cW Θ).1 (F us) t.heap ∧ WD (cW Θ).2.2.1 (F us)) ∧ (∀ x ∈ ts, ArT (cW Θ) t x) ∧ va_F (cW Θ).2.2.1 st t) (cW Θ).2.2.1 := by
  intro H locs ls hl hP hD hS
  refine va_runI (As := As) (rest := st) (n := n) (rm := rmc) ⟨C.hx, C.hb, C.hml, C.hown, C.hts⟩ hM ⟨callB_of n C.hts (wt_cons hw.1.2.1) rfl hrm.1 hrm.2.1 (C.hts _ hw.1.1) (C.hts _ hlink) hw.1.2.2 (by rw [C.hR]; exact hrm.2.2), hnm, C.hts _ hw.2⟩
    ⟨PreL.blind, fun U hU hW => ⟨rfl, C.pre hP hD hS hU hW⟩⟩ rfl hn (hl.1.trans C.hn) hst (lv_room hsum) hdg (by rw [C.hR]; exact ⟨hc1, hc2⟩)
theorem l_runIN (C : CL Θ cc own rm nL) {index n mc ms : Nat} {y : MethodName} {host : String} {bytes : ByteArray} {maxL : Nat} {rmc : Room} {b : Nat} {As : List Value} {wc : va_W} {F : List Nat → va_W} {ts : List Nat} {st0 : List Value}
    (hdg : decode cc pc = .ok (.invokespecial index, 3)) (hlink : (own, index, y, host) ∈ nws) (hw : MW y bytes maxL none n ∧ Cond.instanceMethod y ∈ wt) (hnm : y.name = "<init>")
    (hM : CtL Θ.1.2.1 y bytes maxL rmc (cW Θ) (.ref b :: As) wc F ts mc ms) (hn : As.length = n) (hst : st0 = As.reverse ++ .ref b :: st) (hsum : (st.map fun v => v.category).sum ≤ 8)
    (hrm : rmc.cells = mc ∧ rmc.slots = ms ∧ rmc.frames + 1 ≤ rm.frames ∧ 8 + (maxL + 11) + rmc.locals ≤ rm.locals) (hc1 : k + mc ≤ rm.cells) (hc2 : z + ms ≤ rm.slots) :
    ∀ H locs ls, LV ls (cNL Θ) lv → WP (cW Θ).1 wc H → WD (cW Θ).2.2.1 wc → va_S (cW Θ).2.2.1 (cS Θ).heap H locs → va_Run Θ.1.1 Θ.1.2.1 Θ.1.2.2.1 Θ.1.2.2.2.1 Θ.1.2.2.2.2.1 Θ.1.2.2.2.2.2.1 Θ.1.2.2.2.2.2.2.1 Θ.1.2.2.2.2.2.2.2.1 Θ.1.2.2.2.2.2.2.2.2.1 Θ.1.2.2.2.2.2.2.2.2.2 H locs k z mc ms (F0 (cM Θ) pc ls st0) st (fun st oc t => oc = .returned none ∧ (∃ us : List Nat, WP (cW Θ).1 (F us) t.heap ∧ WD (cW Θ).2.2.1 (F us)) ∧ (∀ x ∈ ts, ArT (cW Θ) t x) ∧ va_F (cW Θ).2.2.1 st t) (cW Θ).2.2.1 := by
  intro H locs ls hl hP hD hS
  refine va_runIN (As := As) (rest := st) (n := n) (rm := rmc) ⟨C.hx, C.hb, C.hml, C.hown, C.hts⟩ hM ⟨va_cnB n C.hts (wt_cons hw.1.2.1) rfl hrm.1 hrm.2.1 (C.hN _ hlink) (C.hts _ hw.1.1) hw.1.2.2 (by rw [C.hR]; exact hrm.2.2), hnm, C.hts _ hw.2⟩
    ⟨PreL.blind, fun U hU hW => ⟨rfl, C.pre hP hD hS hU hW⟩⟩ rfl hn (hl.1.trans C.hn) hst (lv_room hsum) hdg (by rw [C.hR]; exact ⟨hc1, hc2⟩)
/-- a constructor's end -/
def QmL (Θ : TT) (F : List Nat → va_W) (ts : List Nat) (mc ms : Nat) : State → Prop :=
  MQ Θ.1.2.2.2.2.2.2.2.1 (fun _ st oc t => oc = .returned none ∧ (∃ us : List Nat, WP (cW Θ).1 (F us) t.heap ∧ WD (cW Θ).2.2.1 (F us)) ∧ (∀ x ∈ ts, ArT (cW Θ) t x) ∧ va_F (cW Θ).2.2.1 st t) Θ.1.2.2.2.2.2.2.1 (cS Θ) mc ms (cW Θ).2.2.1
theorem l_ret (C : CL Θ cc own rm nL) {F : List Nat → va_W} {ts : List Nat} (us : List Nat) (hdg : decode cc pc = .ok (.return_, 1)) (hF : F us = ws) (hts : ∀ x ∈ ts, ArT (cW Θ) (cS Θ) x) : WL Θ (QmL Θ F ts k z) k z ws pc lv [] := by
  intro H ls locs hl hP hD hS
  exact W.vret C.hx C.hb C.hr (fun t ht hW => ⟨rfl, ⟨us, by rw [hF, ht]; exact hP, by rw [hF]; exact hD⟩, fun x hx => (hts x hx).moved hW.alike, hS.F ht⟩) (fun q hq => hS.2.2 q hq) hdg (hlocks := C.hlk)
end Ctor
theorem ct_ofL {l : Launch} {y : MethodName} {cc : ByteArray} {maxL : Nat} {rm : Room} {ω : Wd} {av : List Value} {ws : va_W} {F : List Nat → va_W} {ts : List Nat} {mc ms : Nat} (lv0 : List (Option Value))
    (hpl : plainName y.cls = true) (hnm : y.name = "<init>") (hlv : pr 0 lv0 = lv_args 0 av) (hlen : (lg_sl av).length ≤ maxL)
    (body : ∀ Γ : CT, CL (Γ, ω, maxL, (fun _ _ => 0), (fun _ => 0), 0, 0) cc y.cls rm maxL → WL (Γ, ω, maxL, (fun _ _ => 0), (fun _ => 0), 0, 0) (QmL (Γ, ω, maxL, (fun _ _ => 0), (fun _ => 0), 0, 0) F ts mc ms) 0 0 ws 0 lv0 []) :
    CtL l y cc maxL rm ω av ws F ts mc ms := by
  refine Met.ofW (cc := cc) (maxL := maxL) (ret := none) hpl rfl ?_
  intro p e s m args below meth c s₁ B hml hv
  obtain ⟨rfl, hP1, hP2, hP3, hP4, hP5, hP6, hP7⟩ := hv
  have hts : ∀ w ∈ (Cond.code y cc maxL none :: wt), w.before av.toArray s = true := atoms_spec (ws := Cond.code y cc maxL none :: wt) B.pre
  have C : CL ((p, l, e, (headSpec (Cond.code y cc maxL none :: wt) rm).room, s, m, av.toArray, below, meth, c), ω, maxL, (fun _ _ => 0), (fun _ => 0), 0, 0) cc y.cls rm maxL :=
    ⟨B.exec, B.bytes, hml, rfl, findClass_of_methodNamed B.named, fun w hw => hts w (List.mem_cons_of_mem _ hw), B.returns, B.notSynchronized, hP3, hP4, hP5, hP6, hP7, rfl, (name_of_methodNamed B.named B.method).1.trans hnm⟩
  have hl := lv_entry av (n := maxL) hlen
  rw [lg_entry_eq]
  generalize (lg_sl av ++ List.replicate (maxL - (lg_sl av).length) Slot.unset).toArray = ls at hl ⊢
  rw [← hlv] at hl
  exact body _ C s.heap ls [] hl hP1 hP2 va_S.rf
