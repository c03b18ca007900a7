/-! ===== the rows: an instruction each ===== -/
def lvn : List (Option Value) → Nat → List (Option Value)
  | [], _ => []
  | _ :: t, 0 => none :: t
  | o :: t, k + 1 => o :: lvn t k
theorem lvg_lvn : ∀ {l : List (Option Value)} {i k : Nat} {w : Value}, lvg (lvn l i) k = some w → k ≠ i ∧ lvg l k = some w
  | [], i, k, w, h => by simp [lvn, lvg] at h
  | o :: t, 0, 0, w, h => by simp [lvn, lvg] at h
  | o :: t, 0, k + 1, w, h => ⟨by omega, h⟩
  | o :: t, i + 1, 0, w, h => ⟨by omega, h⟩
  | o :: t, i + 1, k + 1, w, h => by
    obtain ⟨h1, h2⟩ := lvg_lvn (l := t) h
    exact ⟨by omega, h2⟩
theorem LV.set2 {ls' : Array Slot} {nL : Nat} {lv : List (Option Value)} {i : Nat} {v : Value} (hok : lvok lv i = true) (h : lv_has ls' nL ((i, v) :: (pr 0 lv).filter (fun q => !(q.1 == i) && (!(q.1 == i + 1) && !(q.1 + 1 == i && q.2.category == 2))))) : LV ls' nL (lvn (lvs lv i v) (i + 1)) := by
  refine ⟨h.1, h.2.1, fun q hq => h.2.2 q ?_⟩
  obtain ⟨k, h1, h2⟩ := pr_mem.mp hq
  rw [Nat.zero_add] at h1
  obtain ⟨h7, h2⟩ := lvg_lvn h2
  rcases lvg_lvs h2 with ⟨h3, h4⟩ | ⟨h3, h4⟩
  · have : q = (i, v) := Prod.ext (h1.trans h3) h4
    rw [this]
    exact List.mem_cons_self
  · refine List.mem_cons_of_mem _ (List.mem_filter.mpr ⟨pr_mem.mpr ⟨k, by omega, h4⟩, ?_⟩)
    have h5 : (q.1 == i) = false := by simpa [h1] using h3
    have h8 : (q.1 == i + 1) = false := by simpa [h1] using h7
    rw [h5, h8]
    by_cases h6 : q.1 + 1 = i
    · subst h6
      rw [h1] at hok
      simp only [lvok, h4] at hok
      simp
      intro hc
      rw [hc] at hok
      exact absurd hok (by decide)
    · simp [h6]
section Rows
variable {ρ : Type} {Λ : Ly} {Θ : TT} {Qf : ρ → State → Prop} {cc : ByteArray} {own : String} {ret : Option FieldType} {rm : Room} {nL pc : Nat} {lv : List (Option Value)} {st : List Value} {σ : St} {K : Option ρ}
theorem CX.hx (C : CX Θ cc own ret rm nL) : Θ.1.1.tables.exec = Jvm.exec := C.1
theorem CX.hb (C : CX Θ cc own ret rm nL) : Θ.1.2.2.2.2.2.2.2.2.2.code = cc := C.2.1
theorem CX.hml (C : CX Θ cc own ret rm nL) : Θ.1.2.2.2.2.2.2.2.2.2.maxLocals = nL := C.2.2.1.trans C.2.2.2.2.2.2.2.2.2.2.2.1
theorem CX.hown (C : CX Θ cc own ret rm nL) : (cS Θ).vm.findClass own = some (cM Θ).cls := C.2.2.2.1
theorem CX.hts (C : CX Θ cc own ret rm nL) : ∀ w ∈ wt, w.before Θ.1.2.2.2.2.2.2.1 (cS Θ) = true := C.2.2.2.2.1
theorem CX.hr (C : CX Θ cc own ret rm nL) : Θ.1.2.2.2.2.2.2.2.2.1.sig.returnType = ret := C.2.2.2.2.2.1
theorem CX.hlk (C : CX Θ cc own ret rm nL) : Θ.1.2.2.2.2.2.2.2.2.1.locks = false := C.2.2.2.2.2.2.1
theorem CX.hK (C : CX Θ cc own ret rm nL) : va_K (cW Θ).1 vwCl (tys (cW Θ)) (cS Θ) := C.2.2.2.2.2.2.2.1
theorem CX.hA (C : CX Θ cc own ret rm nL) : ∀ q, (cS Θ).heap.size ≤ q → (cW Θ).2.2.1 q := C.2.2.2.2.2.2.2.2.1
theorem CX.hF (C : CX Θ cc own ret rm nL) : SF (cW Θ) (cS Θ) (cS Θ).heap := C.2.2.2.2.2.2.2.2.2.1
theorem CX.hR (C : CX Θ cc own ret rm nL) : Θ.1.2.2.2.1 = rm := C.2.2.2.2.2.2.2.2.2.2.1
theorem CX.hn (C : CX Θ cc own ret rm nL) : cNL Θ = nL := C.2.2.2.2.2.2.2.2.2.2.2.1
theorem CX.hN (C : CX Θ cc own ret rm nL) : NW (cS Θ) := C.2.2.2.2.2.2.2.2.2.2.2.2.1
theorem CX.hc (C : CX Θ cc own ret rm nL) : (cC Θ).1 ≤ rm.cells ∧ (cC Θ).2 ≤ rm.slots := C.2.2.2.2.2.2.2.2.2.2.2.2.2
theorem CX.hcR (C : CX Θ cc own ret rm nL) : (cC Θ).1 ≤ Θ.1.2.2.2.1.cells ∧ (cC Θ).2 ≤ Θ.1.2.2.2.1.slots := by rw [C.hR]; exact C.hc
-- constants
theorem r_iconst (C : CX Θ cc own ret rm nL) {n : Int} (v : Int32) (hdg : decode cc pc = .ok (.iconst n, 1)) (hv : Int32.ofInt n = v) (k : WA Λ Θ Qf (pc + 1) lv (.int v :: st) σ K) : WA Λ Θ Qf pc lv st σ K :=
  fun r hr H ls locs hl hR hS => lv_iconst C.hx C.hb hdg hv (k r hr H ls locs hl hR hS)
theorem r_bipush (C : CX Θ cc own ret rm nL) {n : Int} (v : Int32) (hdg : decode cc pc = .ok (.bipush n, 2)) (hv : (Int8.ofInt n).toInt32 = v) (k : WA Λ Θ Qf (pc + 2) lv (.int v :: st) σ K) : WA Λ Θ Qf pc lv st σ K :=
  fun r hr H ls locs hl hR hS => lv_bipush C.hx C.hb hdg hv (k r hr H ls locs hl hR hS)
theorem r_sipush (C : CX Θ cc own ret rm nL) {n : Int} (v : Int32) (hdg : decode cc pc = .ok (.sipush n, 3)) (hv : (Int16.ofInt n).toInt32 = v) (k : WA Λ Θ Qf (pc + 3) lv (.int v :: st) σ K) : WA Λ Θ Qf pc lv st σ K :=
  fun r hr H ls locs hl hR hS => lv_sipush C.hx C.hb hdg hv (k r hr H ls locs hl hR hS)
theorem r_ldc (C : CX Θ cc own ret rm nL) {i : Nat} {v : Int32} (hdg : decode cc pc = .ok (.ldc i, 2)) (hw : Cond.constant own i v ∈ wt) (k : WA Λ Θ Qf (pc + 2) lv (.int v :: st) σ K) : WA Λ Θ Qf pc lv st σ K :=
  fun r hr H ls locs hl hR hS => lv_ldc C.hx C.hb C.hown (C.hts _ hw) hdg (k r hr H ls locs hl hR hS)
theorem r_ldcw (C : CX Θ cc own ret rm nL) {i : Nat} {v : Int32} (hdg : decode cc pc = .ok (.ldc_w i, 3)) (hw : Cond.constant own i v ∈ wt) (k : WA Λ Θ Qf (pc + 3) lv (.int v :: st) σ K) : WA Λ Θ Qf pc lv st σ K :=
  fun r hr H ls locs hl hR hS => lv_ldcw C.hx C.hb C.hown (C.hts _ hw) hdg (k r hr H ls locs hl hR hS)
theorem r_null (C : CX Θ cc own ret rm nL) (hdg : decode cc pc = .ok (.aconst_null, 1)) (k : WA Λ Θ Qf (pc + 1) lv (.null :: st) σ K) : WA Λ Θ Qf pc lv st σ K :=
  fun r hr H ls locs hl hR hS => lv_null C.hx C.hb hdg (k r hr H ls locs hl hR hS)
-- locals
theorem r_iload_n (C : CX Θ cc own ret rm nL) {i : Fin 4} {x : Int32} (hdg : decode cc pc = .ok (.iload_n i, 1)) (h : lvg lv i = some (.int x)) (k : WA Λ Θ Qf (pc + 1) lv (.int x :: st) σ K) : WA Λ Θ Qf pc lv st σ K :=
  fun r hr H ls locs hl hR hS => lv_iload_n C.hx C.hb hdg rfl (hl.get h) (k r hr H ls locs hl hR hS)
theorem r_iload (C : CX Θ cc own ret rm nL) {i : Nat} {x : Int32} (hdg : decode cc pc = .ok (.iload i, 2)) (h : lvg lv i = some (.int x)) (k : WA Λ Θ Qf (pc + 2) lv (.int x :: st) σ K) : WA Λ Θ Qf pc lv st σ K :=
  fun r hr H ls locs hl hR hS => lv_iload C.hx C.hb hdg (hl.get h) (k r hr H ls locs hl hR hS)
theorem r_lload_n (C : CX Θ cc own ret rm nL) {i : Fin 4} {x : Int64} (hdg : decode cc pc = .ok (.lload_n i, 1)) (h : lvg lv i = some (.long x)) (k : WA Λ Θ Qf (pc + 1) lv (.long x :: st) σ K) : WA Λ Θ Qf pc lv st σ K :=
  fun r hr H ls locs hl hR hS => lv_lload_n C.hx C.hb hdg rfl (hl.get h) (k r hr H ls locs hl hR hS)
theorem r_aload_n (C : CX Θ cc own ret rm nL) {i : Fin 4} {x : Nat} (hdg : decode cc pc = .ok (.aload_n i, 1)) (h : lvg lv i = some (.ref x)) (k : WA Λ Θ Qf (pc + 1) lv (.ref x :: st) σ K) : WA Λ Θ Qf pc lv st σ K :=
  fun r hr H ls locs hl hR hS => lv_aload_n C.hx C.hb hdg rfl (hl.get h) (k r hr H ls locs hl hR hS)
theorem r_aload (C : CX Θ cc own ret rm nL) {i : Nat} {x : Nat} (hdg : decode cc pc = .ok (.aload i, 2)) (h : lvg lv i = some (.ref x)) (k : WA Λ Θ Qf (pc + 2) lv (.ref x :: st) σ K) : WA Λ Θ Qf pc lv st σ K :=
  fun r hr H ls locs hl hR hS => lv_aload C.hx C.hb hdg (hl.get h) (k r hr H ls locs hl hR hS)
theorem r_aload_nQ (C : CX Θ cc own ret rm nL) {i : Fin 4} {x : Option Nat} (hdg : decode cc pc = .ok (.aload_n i, 1)) (h : lvg lv i = some (va_rf x)) (k : WA Λ Θ Qf (pc + 1) lv (va_rf x :: st) σ K) : WA Λ Θ Qf pc lv st σ K :=
  fun r hr H ls locs hl hR hS => by
    cases x with
    | none => exact lv_aload_nN C.hx C.hb hdg rfl (hl.get h) (k r hr H ls locs hl hR hS)
    | some a => exact lv_aload_n C.hx C.hb hdg rfl (hl.get h) (k r hr H ls locs hl hR hS)
theorem r_aloadQ (C : CX Θ cc own ret rm nL) {i : Nat} {x : Option Nat} (hdg : decode cc pc = .ok (.aload i, 2)) (h : lvg lv i = some (va_rf x)) (k : WA Λ Θ Qf (pc + 2) lv (va_rf x :: st) σ K) : WA Λ Θ Qf pc lv st σ K :=
  fun r hr H ls locs hl hR hS => by
    cases x with
    | none => exact lv_aloadN C.hx C.hb hdg (hl.get h) (k r hr H ls locs hl hR hS)
    | some a => exact lv_aload C.hx C.hb hdg (hl.get h) (k r hr H ls locs hl hR hS)
theorem r_istore_n (C : CX Θ cc own ret rm nL) {i : Fin 4} {x : Int32} (lv' : List (Option Value)) (hdg : decode cc pc = .ok (.istore_n i, 1)) (hs : lvs lv i (.int x) = lv') (hn : (i : Nat) < nL) (hok : lvok lv i = true) (k : WA Λ Θ Qf (pc + 1) lv' st σ K) : WA Λ Θ Qf pc lv (.int x :: st) σ K :=
  fun r hr H ls locs hl hR hS => lv_istore_n C.hx C.hb hdg rfl hl (by rw [C.hn]; exact hn) rfl (fun ls' hl' => k r hr H ls' locs (by rw [← hs]; exact LV.set hok hl') hR hS)
theorem r_istore (C : CX Θ cc own ret rm nL) {i : Nat} {x : Int32} (lv' : List (Option Value)) (hdg : decode cc pc = .ok (.istore i, 2)) (hs : lvs lv i (.int x) = lv') (hn : i < nL) (hok : lvok lv i = true) (k : WA Λ Θ Qf (pc + 2) lv' st σ K) : WA Λ Θ Qf pc lv (.int x :: st) σ K :=
  fun r hr H ls locs hl hR hS => lv_istore C.hx C.hb hdg hl (by rw [C.hn]; exact hn) rfl (fun ls' hl' => k r hr H ls' locs (by rw [← hs]; exact LV.set hok hl') hR hS)
theorem r_astore_n (C : CX Θ cc own ret rm nL) {i : Fin 4} {x : Option Nat} (lv' : List (Option Value)) (hdg : decode cc pc = .ok (.astore_n i, 1)) (hs : lvs lv i (va_rf x) = lv') (hn : (i : Nat) < nL) (hok : lvok lv i = true) (k : WA Λ Θ Qf (pc + 1) lv' st σ K) : WA Λ Θ Qf pc lv (va_rf x :: st) σ K :=
  fun r hr H ls locs hl hR hS => by
    cases x with
    | none => exact lv_astore_nN C.hx C.hb hdg rfl hl (by rw [C.hn]; exact hn) rfl (fun ls' hl' => k r hr H ls' locs (by rw [← hs]; exact LV.set hok hl') hR hS)
    | some a => exact lv_astore_n C.hx C.hb hdg rfl hl (by rw [C.hn]; exact hn) rfl (fun ls' hl' => k r hr H ls' locs (by rw [← hs]; exact LV.set hok hl') hR hS)
theorem r_astore (C : CX Θ cc own ret rm nL) {i : Nat} {x : Option Nat} (lv' : List (Option Value)) (hdg : decode cc pc = .ok (.astore i, 2)) (hs : lvs lv i (va_rf x) = lv') (hn : i < nL) (hok : lvok lv i = true) (k : WA Λ Θ Qf (pc + 2) lv' st σ K) : WA Λ Θ Qf pc lv (va_rf x :: st) σ K :=
  fun r hr H ls locs hl hR hS => by
    cases x with
    | none => exact lv_astoreN C.hx C.hb hdg hl (by rw [C.hn]; exact hn) rfl (fun ls' hl' => k r hr H ls' locs (by rw [← hs]; exact LV.set hok hl') hR hS)
    | some a => exact lv_astore C.hx C.hb hdg hl (by rw [C.hn]; exact hn) rfl (fun ls' hl' => k r hr H ls' locs (by rw [← hs]; exact LV.set hok hl') hR hS)
theorem r_iinc (C : CX Θ cc own ret rm nL) {i : Nat} {n : Int} {x : Int32} (c : Int32) (lv' : List (Option Value)) (hdg : decode cc pc = .ok (.iinc i n, 3)) (hc : Int32.ofInt n = c) (h : lvg lv i = some (.int x)) (hs : lvs lv i (.int (x + c)) = lv') (hn : i < nL) (hok : lvok lv i = true) (k : WA Λ Θ Qf (pc + 3) lv' st σ K) : WA Λ Θ Qf pc lv st σ K :=
  fun r hr H ls locs hl hR hS => by
    obtain ⟨k0, hk0⟩ := List.getElem?_of_mem (pr_mem.mpr ⟨i, by simp, h⟩ : ((i, Value.int x) : Nat × Value) ∈ pr 0 lv)
    exact lv_iinc C.hx C.hb hdg hl hk0 (by rw [hc]) (by rw [C.hn]; exact hn) rfl (fun ls' hl' => k r hr H ls' locs (by rw [← hs]; exact LV.set hok hl') hR hS)
-- stack
theorem r_dup (C : CX Θ cc own ret rm nL) {v : Value} (hdg : decode cc pc = .ok (.dup, 1)) (hc : v.category = 1) (k : WA Λ Θ Qf (pc + 1) lv (v :: v :: st) σ K) : WA Λ Θ Qf pc lv (v :: st) σ K :=
  fun r hr H ls locs hl hR hS => lv_dup C.hx C.hb hdg hc (k r hr H ls locs hl hR hS)
theorem r_dup2 (C : CX Θ cc own ret rm nL) {v w : Value} (hdg : decode cc pc = .ok (.dup2, 1)) (hv : v.category = 1) (hw : w.category = 1) (k : WA Λ Θ Qf (pc + 1) lv (v :: w :: v :: w :: st) σ K) : WA Λ Θ Qf pc lv (v :: w :: st) σ K :=
  fun r hr H ls locs hl hR hS => lv_dup2_11 C.hx C.hb hdg hv hw (k r hr H ls locs hl hR hS)
-- arithmetic
theorem r_iadd (C : CX Θ cc own ret rm nL) {x y : Int32} (hdg : decode cc pc = .ok (.iadd, 1)) (k : WA Λ Θ Qf (pc + 1) lv (.int (x + y) :: st) σ K) : WA Λ Θ Qf pc lv (.int y :: .int x :: st) σ K :=
  fun r hr H ls locs hl hR hS => lv_iadd C.hx C.hb hdg (k r hr H ls locs hl hR hS)
theorem r_isub (C : CX Θ cc own ret rm nL) {x y : Int32} (hdg : decode cc pc = .ok (.isub, 1)) (k : WA Λ Θ Qf (pc + 1) lv (.int (x - y) :: st) σ K) : WA Λ Θ Qf pc lv (.int y :: .int x :: st) σ K :=
  fun r hr H ls locs hl hR hS => lv_isub C.hx C.hb hdg (k r hr H ls locs hl hR hS)
theorem r_imul (C : CX Θ cc own ret rm nL) {x y : Int32} (hdg : decode cc pc = .ok (.imul, 1)) (k : WA Λ Θ Qf (pc + 1) lv (.int (x * y) :: st) σ K) : WA Λ Θ Qf pc lv (.int y :: .int x :: st) σ K :=
  fun r hr H ls locs hl hR hS => lv_imul C.hx C.hb hdg (k r hr H ls locs hl hR hS)
theorem r_iand (C : CX Θ cc own ret rm nL) {x y : Int32} (hdg : decode cc pc = .ok (.iand, 1)) (k : WA Λ Θ Qf (pc + 1) lv (.int (x &&& y) :: st) σ K) : WA Λ Θ Qf pc lv (.int y :: .int x :: st) σ K :=
  fun r hr H ls locs hl hR hS => lv_iand C.hx C.hb hdg (k r hr H ls locs hl hR hS)
theorem r_ior (C : CX Θ cc own ret rm nL) {x y : Int32} (hdg : decode cc pc = .ok (.ior, 1)) (k : WA Λ Θ Qf (pc + 1) lv (.int (x ||| y) :: st) σ K) : WA Λ Θ Qf pc lv (.int y :: .int x :: st) σ K :=
  fun r hr H ls locs hl hR hS => lv_ior C.hx C.hb hdg (k r hr H ls locs hl hR hS)
theorem r_ixor (C : CX Θ cc own ret rm nL) {x y : Int32} (hdg : decode cc pc = .ok (.ixor, 1)) (k : WA Λ Θ Qf (pc + 1) lv (.int (x ^^^ y) :: st) σ K) : WA Λ Θ Qf pc lv (.int y :: .int x :: st) σ K :=
  fun r hr H ls locs hl hR hS => lv_ixor C.hx C.hb hdg (k r hr H ls locs hl hR hS)
theorem r_ishl (C : CX Θ cc own ret rm nL) {x y : Int32} (hdg : decode cc pc = .ok (.ishl, 1)) (k : WA Λ Θ Qf (pc + 1) lv (.int (x <<< (y &&& 31)) :: st) σ K) : WA Λ Θ Qf pc lv (.int y :: .int x :: st) σ K :=
  fun r hr H ls locs hl hR hS => lv_ishl C.hx C.hb hdg (k r hr H ls locs hl hR hS)
theorem r_ishr (C : CX Θ cc own ret rm nL) {x y : Int32} (hdg : decode cc pc = .ok (.ishr, 1)) (k : WA Λ Θ Qf (pc + 1) lv (.int (x >>> (y &&& 31)) :: st) σ K) : WA Λ Θ Qf pc lv (.int y :: .int x :: st) σ K :=
  fun r hr H ls locs hl hR hS => lv_ishr C.hx C.hb hdg (k r hr H ls locs hl hR hS)
theorem r_iushr (C : CX Θ cc own ret rm nL) {x y : Int32} (hdg : decode cc pc = .ok (.iushr, 1)) (k : WA Λ Θ Qf (pc + 1) lv (.int (x.toUInt32 >>> (y.toUInt32 &&& Int32.toUInt32 31)).toInt32 :: st) σ K) : WA Λ Θ Qf pc lv (.int y :: .int x :: st) σ K :=
  fun r hr H ls locs hl hR hS => lv_iushr C.hx C.hb hdg rfl (k r hr H ls locs hl hR hS)
theorem r_ineg (C : CX Θ cc own ret rm nL) {x : Int32} (hdg : decode cc pc = .ok (.ineg, 1)) (k : WA Λ Θ Qf (pc + 1) lv (.int (-x) :: st) σ K) : WA Λ Θ Qf pc lv (.int x :: st) σ K :=
  fun r hr H ls locs hl hR hS => lv_ineg C.hx C.hb hdg (k r hr H ls locs hl hR hS)
/-- by a number that is not 0 -/
theorem r_idivc (C : CX Θ cc own ret rm nL) {x y : Int32} (hdg : decode cc pc = .ok (.idiv, 1)) (hy : ¬ y = 0) (k : WA Λ Θ Qf (pc + 1) lv (.int (x / y) :: st) σ K) : WA Λ Θ Qf pc lv (.int y :: .int x :: st) σ K :=
  fun r hr H ls locs hl hR hS => lv_idiv C.hx C.hb hdg hy (k r hr H ls locs hl hR hS)
theorem r_iremc (C : CX Θ cc own ret rm nL) {x y : Int32} (hdg : decode cc pc = .ok (.irem, 1)) (hy : ¬ y = 0) (k : WA Λ Θ Qf (pc + 1) lv (.int (x - x / y * y) :: st) σ K) : WA Λ Θ Qf pc lv (.int y :: .int x :: st) σ K :=
  fun r hr H ls locs hl hR hS => lv_irem C.hx C.hb hdg hy (k r hr H ls locs hl hR hS)
theorem r_idiv (C : CX Θ cc own ret rm nL) {x y : Int32} (hdg : decode cc pc = .ok (.idiv, 1)) (k : WA Λ Θ Qf (pc + 1) lv (.int (x / y) :: st) σ K) : WA Λ Θ Qf pc lv (.int y :: .int x :: st) σ (if y = 0 then none else K) :=
  fun r hr H ls locs hl hR hS => by
    by_cases hy : y = 0
    · rw [if_pos hy] at hr; cases hr
    · rw [if_neg hy] at hr
      exact lv_idiv C.hx C.hb hdg hy (k r hr H ls locs hl hR hS)
theorem r_irem (C : CX Θ cc own ret rm nL) {x y : Int32} (hdg : decode cc pc = .ok (.irem, 1)) (k : WA Λ Θ Qf (pc + 1) lv (.int (x - x / y * y) :: st) σ K) : WA Λ Θ Qf pc lv (.int y :: .int x :: st) σ (if y = 0 then none else K) :=
  fun r hr H ls locs hl hR hS => by
    by_cases hy : y = 0
    · rw [if_pos hy] at hr; cases hr
    · rw [if_neg hy] at hr
      exact lv_irem C.hx C.hb hdg hy (k r hr H ls locs hl hR hS)
-- longs
theorem r_lconst (C : CX Θ cc own ret rm nL) {n : Fin 2} (v : Int64) (hdg : decode cc pc = .ok (.lconst n, 1)) (hv : Int64.ofNat (n : Nat) = v) (k : WA Λ Θ Qf (pc + 1) lv (.long v :: st) σ K) : WA Λ Θ Qf pc lv st σ K :=
  fun r hr H ls locs hl hR hS => lv_lconst C.hx C.hb hdg hv (k r hr H ls locs hl hR hS)
theorem r_lor (C : CX Θ cc own ret rm nL) {x y : Int64} (hdg : decode cc pc = .ok (.lor, 1)) (k : WA Λ Θ Qf (pc + 1) lv (.long (x ||| y) :: st) σ K) : WA Λ Θ Qf pc lv (.long y :: .long x :: st) σ K :=
  fun r hr H ls locs hl hR hS => lv_lor C.hx C.hb hdg (k r hr H ls locs hl hR hS)
theorem r_lxor (C : CX Θ cc own ret rm nL) {x y : Int64} (hdg : decode cc pc = .ok (.lxor, 1)) (k : WA Λ Θ Qf (pc + 1) lv (.long (x ^^^ y) :: st) σ K) : WA Λ Θ Qf pc lv (.long y :: .long x :: st) σ K :=
  fun r hr H ls locs hl hR hS => lv_lxor C.hx C.hb hdg (k r hr H ls locs hl hR hS)
theorem r_land (C : CX Θ cc own ret rm nL) {x y : Int64} (hdg : decode cc pc = .ok (.land, 1)) (k : WA Λ Θ Qf (pc + 1) lv (.long (x &&& y) :: st) σ K) : WA Λ Θ Qf pc lv (.long y :: .long x :: st) σ K :=
  fun r hr H ls locs hl hR hS => lv_land C.hx C.hb hdg (k r hr H ls locs hl hR hS)
theorem r_ladd (C : CX Θ cc own ret rm nL) {x y : Int64} (hdg : decode cc pc = .ok (.ladd, 1)) (k : WA Λ Θ Qf (pc + 1) lv (.long (x + y) :: st) σ K) : WA Λ Θ Qf pc lv (.long y :: .long x :: st) σ K :=
  fun r hr H ls locs hl hR hS => lv_ladd C.hx C.hb hdg (k r hr H ls locs hl hR hS)
theorem r_lsub (C : CX Θ cc own ret rm nL) {x y : Int64} (hdg : decode cc pc = .ok (.lsub, 1)) (k : WA Λ Θ Qf (pc + 1) lv (.long (x - y) :: st) σ K) : WA Λ Θ Qf pc lv (.long y :: .long x :: st) σ K :=
  fun r hr H ls locs hl hR hS => lv_lsub C.hx C.hb hdg (k r hr H ls locs hl hR hS)
theorem r_l2i (C : CX Θ cc own ret rm nL) {x : Int64} (hdg : decode cc pc = .ok (.l2i, 1)) (k : WA Λ Θ Qf (pc + 1) lv (.int x.toInt32 :: st) σ K) : WA Λ Θ Qf pc lv (.long x :: st) σ K :=
  fun r hr H ls locs hl hR hS => lv_l2i C.hx C.hb hdg rfl (k r hr H ls locs hl hR hS)
theorem r_lushr (C : CX Θ cc own ret rm nL) {x : Int64} {y : Int32} (hdg : decode cc pc = .ok (.lushr, 1)) (k : WA Λ Θ Qf (pc + 1) lv (.long (x.toUInt64 >>> (y.toInt64.toUInt64 &&& Int64.toUInt64 63)).toInt64 :: st) σ K) : WA Λ Θ Qf pc lv (.int y :: .long x :: st) σ K :=
  fun r hr H ls locs hl hR hS => lv_lushr C.hx C.hb hdg rfl (k r hr H ls locs hl hR hS)
theorem r_lshl (C : CX Θ cc own ret rm nL) {x : Int64} {y : Int32} (hdg : decode cc pc = .ok (.lshl, 1)) (k : WA Λ Θ Qf (pc + 1) lv (.long (x <<< (y.toInt64 &&& 63)) :: st) σ K) : WA Λ Θ Qf pc lv (.int y :: .long x :: st) σ K :=
  fun r hr H ls locs hl hR hS => lv_lshl C.hx C.hb hdg rfl (k r hr H ls locs hl hR hS)
theorem r_ldc2 (C : CX Θ cc own ret rm nL) {i : Nat} {v : Int64} (hdg : decode cc pc = .ok (.ldc2_w i, 3)) (hw : Cond.constantLong own i v ∈ wt) (k : WA Λ Θ Qf (pc + 3) lv (.long v :: st) σ K) : WA Λ Θ Qf pc lv st σ K :=
  fun r hr H ls locs hl hR hS => lv_ldc2 C.hx C.hb C.hown (C.hts _ hw) hdg (k r hr H ls locs hl hR hS)
theorem r_lstore_n (C : CX Θ cc own ret rm nL) {i : Fin 4} {x : Int64} (lv' : List (Option Value)) (hdg : decode cc pc = .ok (.lstore_n i, 1)) (hs : lvn (lvs lv i (.long x)) (i + 1) = lv') (hn : (i : Nat) + 1 < nL) (hok : lvok lv i = true) (k : WA Λ Θ Qf (pc + 1) lv' st σ K) : WA Λ Θ Qf pc lv (.long x :: st) σ K :=
  fun r hr H ls locs hl hR hS => lv_lstore_n C.hx C.hb hdg rfl hl (by rw [C.hn]; exact hn) rfl (fun ls' hl' => k r hr H ls' locs (by rw [← hs]; exact LV.set2 hok hl') hR hS)
-- branches
theorem r_goto (C : CX Θ cc own ret rm nL) {off : Int} (tgt : Nat) (hdg : decode cc pc = .ok (.goto off, 3)) (ht : (pc : Int) + off = (tgt : Int)) (k : WA Λ Θ Qf tgt lv st σ K) : WA Λ Θ Qf pc lv st σ K :=
  fun r hr H ls locs hl hR hS => lv_goto C.hx C.hb hdg ht (k r hr H ls locs hl hR hS)
theorem r_icmp_eq (C : CX Θ cc own ret rm nL) {x y : Int32} {off : Int} (tgt : Nat) {K1 K2 : Option ρ} (hdg : decode cc pc = .ok (.if_icmp .eq off, 3)) (ht : (pc : Int) + off = (tgt : Int)) (kt : WA Λ Θ Qf tgt lv st σ K1) (kf : WA Λ Θ Qf (pc + 3) lv st σ K2) : WA Λ Θ Qf pc lv (.int y :: .int x :: st) σ (if x = y then K1 else K2) :=
  fun r hr H ls locs hl hR hS => lv_icmp_eq C.hx C.hb hdg ht (fun h => kt r (by rw [if_pos h] at hr; exact hr) H ls locs hl hR hS) (fun h => kf r (by rw [if_neg h] at hr; exact hr) H ls locs hl hR hS)
theorem r_if_eq (C : CX Θ cc own ret rm nL) {x : Int32} {off : Int} (tgt : Nat) {K1 K2 : Option ρ} (hdg : decode cc pc = .ok (.ifCond .eq off, 3)) (ht : (pc : Int) + off = (tgt : Int)) (kt : WA Λ Θ Qf tgt lv st σ K1) (kf : WA Λ Θ Qf (pc + 3) lv st σ K2) : WA Λ Θ Qf pc lv (.int x :: st) σ (if x = 0 then K1 else K2) :=
  fun r hr H ls locs hl hR hS => lv_if_eq C.hx C.hb hdg ht (fun h => kt r (by rw [if_pos h] at hr; exact hr) H ls locs hl hR hS) (fun h => kf r (by rw [if_neg h] at hr; exact hr) H ls locs hl hR hS)
theorem r_icmp_ne (C : CX Θ cc own ret rm nL) {x y : Int32} {off : Int} (tgt : Nat) {K1 K2 : Option ρ} (hdg : decode cc pc = .ok (.if_icmp .ne off, 3)) (ht : (pc : Int) + off = (tgt : Int)) (kt : WA Λ Θ Qf tgt lv st σ K2) (kf : WA Λ Θ Qf (pc + 3) lv st σ K1) : WA Λ Θ Qf pc lv (.int y :: .int x :: st) σ (if x = y then K1 else K2) :=
  fun r hr H ls locs hl hR hS => lv_icmp_ne C.hx C.hb hdg ht (fun h => kt r (by rw [if_neg h] at hr; exact hr) H ls locs hl hR hS) (fun h => kf r (by rw [if_pos h] at hr; exact hr) H ls locs hl hR hS)
theorem r_if_ne (C : CX Θ cc own ret rm nL) {x : Int32} {off : Int} (tgt : Nat) {K1 K2 : Option ρ} (hdg : decode cc pc = .ok (.ifCond .ne off, 3)) (ht : (pc : Int) + off = (tgt : Int)) (kt : WA Λ Θ Qf tgt lv st σ K2) (kf : WA Λ Θ Qf (pc + 3) lv st σ K1) : WA Λ Θ Qf pc lv (.int x :: st) σ (if x = 0 then K1 else K2) :=
  fun r hr H ls locs hl hR hS => lv_if_ne C.hx C.hb hdg ht (fun h => kt r (by rw [if_neg h] at hr; exact hr) H ls locs hl hR hS) (fun h => kf r (by rw [if_pos h] at hr; exact hr) H ls locs hl hR hS)
theorem r_icmp_lt (C : CX Θ cc own ret rm nL) {x y : Int32} {off : Int} (tgt : Nat) {K1 K2 : Option ρ} (hdg : decode cc pc = .ok (.if_icmp .lt off, 3)) (ht : (pc : Int) + off = (tgt : Int)) (kt : WA Λ Θ Qf tgt lv st σ K1) (kf : WA Λ Θ Qf (pc + 3) lv st σ K2) : WA Λ Θ Qf pc lv (.int y :: .int x :: st) σ (if x < y then K1 else K2) :=
  fun r hr H ls locs hl hR hS => lv_icmp_lt C.hx C.hb hdg ht (fun h => kt r (by rw [if_pos h] at hr; exact hr) H ls locs hl hR hS) (fun h => kf r (by rw [if_neg h] at hr; exact hr) H ls locs hl hR hS)
theorem r_if_lt (C : CX Θ cc own ret rm nL) {x : Int32} {off : Int} (tgt : Nat) {K1 K2 : Option ρ} (hdg : decode cc pc = .ok (.ifCond .lt off, 3)) (ht : (pc : Int) + off = (tgt : Int)) (kt : WA Λ Θ Qf tgt lv st σ K1) (kf : WA Λ Θ Qf (pc + 3) lv st σ K2) : WA Λ Θ Qf pc lv (.int x :: st) σ (if x < 0 then K1 else K2) :=
  fun r hr H ls locs hl hR hS => lv_if_lt C.hx C.hb hdg ht (fun h => kt r (by rw [if_pos h] at hr; exact hr) H ls locs hl hR hS) (fun h => kf r (by rw [if_neg h] at hr; exact hr) H ls locs hl hR hS)
theorem r_icmp_ge (C : CX Θ cc own ret rm nL) {x y : Int32} {off : Int} (tgt : Nat) {K1 K2 : Option ρ} (hdg : decode cc pc = .ok (.if_icmp .ge off, 3)) (ht : (pc : Int) + off = (tgt : Int)) (kt : WA Λ Θ Qf tgt lv st σ K2) (kf : WA Λ Θ Qf (pc + 3) lv st σ K1) : WA Λ Θ Qf pc lv (.int y :: .int x :: st) σ (if x < y then K1 else K2) :=
  fun r hr H ls locs hl hR hS => lv_icmp_ge C.hx C.hb hdg ht (fun h => kt r (by rw [if_neg (Int32.not_lt.mpr h)] at hr; exact hr) H ls locs hl hR hS) (fun h => kf r (by rw [if_pos (Int32.not_le.mp h)] at hr; exact hr) H ls locs hl hR hS)
theorem r_if_ge (C : CX Θ cc own ret rm nL) {x : Int32} {off : Int} (tgt : Nat) {K1 K2 : Option ρ} (hdg : decode cc pc = .ok (.ifCond .ge off, 3)) (ht : (pc : Int) + off = (tgt : Int)) (kt : WA Λ Θ Qf tgt lv st σ K2) (kf : WA Λ Θ Qf (pc + 3) lv st σ K1) : WA Λ Θ Qf pc lv (.int x :: st) σ (if x < 0 then K1 else K2) :=
  fun r hr H ls locs hl hR hS => lv_if_ge C.hx C.hb hdg ht (fun h => kt r (by rw [if_neg (Int32.not_lt.mpr h)] at hr; exact hr) H ls locs hl hR hS) (fun h => kf r (by rw [if_pos (Int32.not_le.mp h)] at hr; exact hr) H ls locs hl hR hS)
theorem r_icmp_gt (C : CX Θ cc own ret rm nL) {x y : Int32} {off : Int} (tgt : Nat) {K1 K2 : Option ρ} (hdg : decode cc pc = .ok (.if_icmp .gt off, 3)) (ht : (pc : Int) + off = (tgt : Int)) (kt : WA Λ Θ Qf tgt lv st σ K1) (kf : WA Λ Θ Qf (pc + 3) lv st σ K2) : WA Λ Θ Qf pc lv (.int y :: .int x :: st) σ (if y < x then K1 else K2) :=
  fun r hr H ls locs hl hR hS => lv_icmp_gt C.hx C.hb hdg ht (fun h => kt r (by rw [if_pos h] at hr; exact hr) H ls locs hl hR hS) (fun h => kf r (by rw [if_neg h] at hr; exact hr) H ls locs hl hR hS)
theorem r_if_gt (C : CX Θ cc own ret rm nL) {x : Int32} {off : Int} (tgt : Nat) {K1 K2 : Option ρ} (hdg : decode cc pc = .ok (.ifCond .gt off, 3)) (ht : (pc : Int) + off = (tgt : Int)) (kt : WA Λ Θ Qf tgt lv st σ K1) (kf : WA Λ Θ Qf (pc + 3) lv st σ K2) : WA Λ Θ Qf pc lv (.int x :: st) σ (if 0 < x then K1 else K2) :=
  fun r hr H ls locs hl hR hS => lv_if_gt C.hx C.hb hdg ht (fun h => kt r (by rw [if_pos h] at hr; exact hr) H ls locs hl hR hS) (fun h => kf r (by rw [if_neg h] at hr; exact hr) H ls locs hl hR hS)
theorem r_icmp_le (C : CX Θ cc own ret rm nL) {x y : Int32} {off : Int} (tgt : Nat) {K1 K2 : Option ρ} (hdg : decode cc pc = .ok (.if_icmp .le off, 3)) (ht : (pc : Int) + off = (tgt : Int)) (kt : WA Λ Θ Qf tgt lv st σ K2) (kf : WA Λ Θ Qf (pc + 3) lv st σ K1) : WA Λ Θ Qf pc lv (.int y :: .int x :: st) σ (if y < x then K1 else K2) :=
  fun r hr H ls locs hl hR hS => lv_icmp_le C.hx C.hb hdg ht (fun h => kt r (by rw [if_neg (Int32.not_lt.mpr h)] at hr; exact hr) H ls locs hl hR hS) (fun h => kf r (by rw [if_pos (Int32.not_le.mp h)] at hr; exact hr) H ls locs hl hR hS)
theorem r_if_le (C : CX Θ cc own ret rm nL) {x : Int32} {off : Int} (tgt : Nat) {K1 K2 : Option ρ} (hdg : decode cc pc = .ok (.ifCond .le off, 3)) (ht : (pc : Int) + off = (tgt : Int)) (kt : WA Λ Θ Qf tgt lv st σ K2) (kf : WA Λ Θ Qf (pc + 3) lv st σ K1) : WA Λ Θ Qf pc lv (.int x :: st) σ (if 0 < x then K1 else K2) :=
  fun r hr H ls locs hl hR hS => lv_if_le C.hx C.hb hdg ht (fun h => kt r (by rw [if_neg (Int32.not_lt.mpr h)] at hr; exact hr) H ls locs hl hR hS) (fun h => kf r (by rw [if_pos (Int32.not_le.mp h)] at hr; exact hr) H ls locs hl hR hS)
/-- a choice ahead of what follows -/
theorem WA.bif {α : Type} {c : Prop} {hc : Decidable c} {X Y : Option α} {k : α → Option ρ} (w : WA Λ Θ Qf pc lv st σ (@ite _ c hc (X.bind k) (Y.bind k))) : WA Λ Θ Qf pc lv st σ ((@ite _ c hc X Y).bind k) := by
  by_cases h : c
  · rw [if_pos h] at w ⊢; exact w
  · rw [if_neg h] at w ⊢; exact w
theorem WA.asc {α β : Type} {X : Option α} {f : α → Option β} {g : β → Option ρ} (w : WA Λ Θ Qf pc lv st σ (X.bind fun a => (f a).bind g)) : WA Λ Θ Qf pc lv st σ ((X.bind f).bind g) := by
  rw [Option.bind_assoc]; exact w
theorem WA.bel {α β : Type} {o : Option α} {X : Option β} {Y : α → Option β} {k : β → Option ρ} (w : WA Λ Θ Qf pc lv st σ (o.elim (X.bind k) (fun a => (Y a).bind k))) : WA Λ Θ Qf pc lv st σ ((o.elim X Y).bind k) := by
  cases o <;> exact w
theorem r_ifnullN (C : CX Θ cc own ret rm nL) {f : Nat → Nat} {off : Int} (tgt : Nat) {α : Type} {K2 : α → Option ρ} (hdg : decode cc pc = .ok (.ifnull off, 3)) (ht : (pc : Int) + off = (tgt : Int)) (k : WA Λ Θ Qf tgt lv st σ K) : WA Λ Θ Qf pc lv (va_rf (Option.map f none) :: st) σ (Option.elim none K K2) :=
  fun r hr H ls locs hl hR hS => lv_ifnullN C.hx C.hb hdg ht (k r hr H ls locs hl hR hS)
theorem r_ifnullS (C : CX Θ cc own ret rm nL) {f : Nat → Nat} {off : Int} {q : Nat} {K1 : Option ρ} {K2 : Nat → Option ρ} (hdg : decode cc pc = .ok (.ifnull off, 3)) (k : WA Λ Θ Qf (pc + 3) lv st σ (K2 q)) : WA Λ Θ Qf pc lv (va_rf (Option.map f (some q)) :: st) σ (Option.elim (some q) K1 K2) :=
  fun r hr H ls locs hl hR hS => lv_ifnull C.hx C.hb hdg (k r hr H ls locs hl hR hS)
theorem r_ifnonnullN (C : CX Θ cc own ret rm nL) {f : Nat → Nat} {off : Int} {α : Type} {K2 : α → Option ρ} (hdg : decode cc pc = .ok (.ifnonnull off, 3)) (k : WA Λ Θ Qf (pc + 3) lv st σ K) : WA Λ Θ Qf pc lv (va_rf (Option.map f none) :: st) σ (Option.elim none K K2) :=
  fun r hr H ls locs hl hR hS => lv_ifnonnullN C.hx C.hb hdg (k r hr H ls locs hl hR hS)
theorem r_ifnonnullS (C : CX Θ cc own ret rm nL) {f : Nat → Nat} {off : Int} (tgt : Nat) {q : Nat} {K1 : Option ρ} {K2 : Nat → Option ρ} (hdg : decode cc pc = .ok (.ifnonnull off, 3)) (ht : (pc : Int) + off = (tgt : Int)) (k : WA Λ Θ Qf tgt lv st σ (K2 q)) : WA Λ Θ Qf pc lv (va_rf (Option.map f (some q)) :: st) σ (Option.elim (some q) K1 K2) :=
  fun r hr H ls locs hl hR hS => lv_ifnonnull C.hx C.hb hdg ht (k r hr H ls locs hl hR hS)
/-- a reference that is known: no choice -/
theorem r_ifnullK (C : CX Θ cc own ret rm nL) {off : Int} {x : Nat} (hdg : decode cc pc = .ok (.ifnull off, 3)) (k : WA Λ Θ Qf (pc + 3) lv st σ K) : WA Λ Θ Qf pc lv (.ref x :: st) σ K :=
  fun r hr H ls locs hl hR hS => lv_ifnull C.hx C.hb hdg (k r hr H ls locs hl hR hS)
theorem r_ifnonnullK (C : CX Θ cc own ret rm nL) {off : Int} (tgt : Nat) {x : Nat} (hdg : decode cc pc = .ok (.ifnonnull off, 3)) (ht : (pc : Int) + off = (tgt : Int)) (k : WA Λ Θ Qf tgt lv st σ K) : WA Λ Θ Qf pc lv (.ref x :: st) σ K :=
  fun r hr H ls locs hl hR hS => lv_ifnonnull C.hx C.hb hdg ht (k r hr H ls locs hl hR hS)
theorem r_ifnullZ (C : CX Θ cc own ret rm nL) {off : Int} (tgt : Nat) (hdg : decode cc pc = .ok (.ifnull off, 3)) (ht : (pc : Int) + off = (tgt : Int)) (k : WA Λ Θ Qf tgt lv st σ K) : WA Λ Θ Qf pc lv (.null :: st) σ K :=
  fun r hr H ls locs hl hR hS => lv_ifnullN C.hx C.hb hdg ht (k r hr H ls locs hl hR hS)
theorem r_ifnonnullZ (C : CX Θ cc own ret rm nL) {off : Int} (hdg : decode cc pc = .ok (.ifnonnull off, 3)) (k : WA Λ Θ Qf (pc + 3) lv st σ K) : WA Λ Θ Qf pc lv (.null :: st) σ K :=
  fun r hr H ls locs hl hR hS => lv_ifnonnullN C.hx C.hb hdg (k r hr H ls locs hl hR hS)
end Rows
