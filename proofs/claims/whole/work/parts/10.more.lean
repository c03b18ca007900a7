/-! ===== joins, names, weaker locals ===== -/
def lvmask : List Bool → List (Option Value) → List (Option Value)
  | true :: m, o :: t => o :: lvmask m t
  | false :: m, _ :: t => none :: lvmask m t
  | _, _ => []
theorem lvg_mask : ∀ {m : List Bool} {l : List (Option Value)} {i : Nat} {v : Value}, lvg (lvmask m l) i = some v → lvg l i = some v
  | [], l, i, v, h => by simp [lvmask, lvg] at h
  | true :: m, [], i, v, h => by simp [lvmask, lvg] at h
  | false :: m, [], i, v, h => by simp [lvmask, lvg] at h
  | true :: m, o :: t, 0, v, h => h
  | true :: m, o :: t, i + 1, v, h => lvg_mask (m := m) (l := t) h
  | false :: m, o :: t, 0, v, h => by simp [lvmask, lvg] at h
  | false :: m, o :: t, i + 1, v, h => lvg_mask (m := m) (l := t) h
theorem lvok_q {lv : List (Option Value)} {i : Nat} {x : Option Nat} (h : lvg lv i = some (va_rf x)) : lvok lv (i + 1) = true := by
  simp only [lvok, h]
  cases x <;> rfl
section More
variable {ρ : Type} {Λ : Ly} {Θ : TT} {Qf : ρ → State → Prop} {pc : Nat} {lv : List (Option Value)} {st : List Value} {σ : St} {K : Option ρ}
theorem WA.wk {lv' : List (Option Value)} (ms : List Bool) (h : lvmask ms lv = lv') (w : WA Λ Θ Qf pc lv' st σ K) : WA Λ Θ Qf pc lv st σ K := by
  intro r hr H ls locs hl hR hS
  refine w r hr H ls locs ⟨hl.1, hl.2.1, fun q hq => ?_⟩ hR hS
  obtain ⟨k, h1, h2⟩ := pr_mem.mp hq
  rw [← h] at h2
  exact hl.2.2 q (pr_mem.mpr ⟨k, h1, lvg_mask h2⟩)
theorem WA.non : WA Λ Θ Qf pc lv st σ none := fun _ hr => by cases hr
theorem WA.els {α : Type} {q : α} {X : Option ρ} {f : α → Option ρ} (w : WA Λ Θ Qf pc lv st σ (f q)) : WA Λ Θ Qf pc lv st σ (Option.elim (some q) X f) := w
theorem WA.blt {α β : Type} {e : α} {f : α → Option β} {k : β → Option ρ} (w : WA Λ Θ Qf pc lv st σ (lt1 e fun x => (f x).bind k)) : WA Λ Θ Qf pc lv st σ ((lt1 e f).bind k) := w
theorem WA.nml {α : Type} {x : α} {k : α → Option ρ} (w : WA Λ Θ Qf pc lv st σ (k x)) : WA Λ Θ Qf pc lv st σ (lt1 x k) := w
theorem WA.gen {e : St} {k : St → Option ρ} (w : ∀ σ', WA Λ Θ Qf pc lv st σ' (k σ')) : WA Λ Θ Qf pc lv st e (lt1 e k) := w e
theorem WA.genB {β : Type} {e : St} {f : St → Option β} {k : β → Option ρ} (w : ∀ σ', WA Λ Θ Qf pc lv st σ' ((f σ').bind k)) : WA Λ Θ Qf pc lv st e ((lt1 e f).bind k) := w e
theorem WA.asl {α β γ : Type} {X : Option α} {e : α → β} {f : β → Option γ} {k : γ → Option ρ} (w : WA Λ Θ Qf pc lv st σ (X.bind fun a => lt1 (e a) fun b => (f b).bind k)) : WA Λ Θ Qf pc lv st σ ((X.bind fun a => lt1 (e a) f).bind k) := by
  rw [Option.bind_assoc]; exact w
theorem WA.join {α : Type} {X : Option α} {k : α → Option ρ} (P : Nat) (lvF : α → List (Option Value)) (stF : α → List Value) (sg : α → St) (V : α → Prop) (hJ : ∀ t, V t → WA Λ Θ Qf P (lvF t) (stF t) (sg t) (k t))
    (hX : (∀ t, V t → WA Λ Θ Qf P (lvF t) (stF t) (sg t) (k t)) → WA Λ Θ Qf pc lv st σ (X.bind k)) : WA Λ Θ Qf pc lv st σ (X.bind k) := hX hJ
theorem WA.joinL {α β : Type} {X : Option (α ⊕ β)} {k : α ⊕ β → Option ρ} (P : Nat) (lvF : α → List (Option Value)) (stF : α → List Value) (sg : α → St) (V : α → Prop) (hJ : ∀ t, V t → WA Λ Θ Qf P (lvF t) (stF t) (sg t) (k (.inl t)))
    (hX : (∀ t, V t → WA Λ Θ Qf P (lvF t) (stF t) (sg t) (k (.inl t))) → WA Λ Θ Qf pc lv st σ (X.bind k)) : WA Λ Θ Qf pc lv st σ (X.bind k) := hX hJ
theorem WA.sml {α β : Type} {e : α} {f : α → Option ρ} {h : β → Option ρ} (w : WA Λ Θ Qf pc lv st σ (f e)) : WA Λ Θ Qf pc lv st σ (Sum.elim f h (.inl e)) := w
theorem bool_n {x : Int32} (h : x = 0 ∨ x = 1) : narrow .boolean (.int x) = .int x := by
  rcases h with rfl | rfl <;> rfl
theorem r_zretC {cc : ByteArray} {own : String} {rm : Room} {nL : Nat} (C : CX Θ cc own (some .boolean) rm nL) {x : Int32} {o : ρ → Option Value} {s' : ρ → St} {P : ρ → Prop} {r0 : ρ} (hdg : decode cc pc = .ok (.ireturn, 1)) (ho : o r0 = some (.int x)) (hs : s' r0 = σ) (hP : x = 0 ∨ x = 1 → P r0) :
    WA Λ Θ (fun r => Qm Λ Θ (o r) (s' r) (P r)) pc lv [.int x] σ (if x = 0 ∨ x = 1 then some r0 else none) := by
  by_cases h : x = 0 ∨ x = 1
  · rw [if_pos h]
    exact r_zret C hdg (bool_n h) ho hs (hP h)
  · rw [if_neg h]
    exact WA.non
end More
