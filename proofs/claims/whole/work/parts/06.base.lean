/-! ===== the abstract memory: cells by (kind, number); kind 0 the fixed cells, kinds 1 .. 4 the objects that are made later ===== -/
abbrev St : Type := (Nat → Nat → Nat → Int32) × (Nat → Nat → Nat → Option Nat)
/-- a cell's shape: an object (number of its class, kinds of its fields), or an array (type, length) -/
abbrev Shp : Type := (Nat × List (Nat × Nat)) ⊕ (Nat × Nat)
/-- a layout: how many fixed cells, the shape of each cell -/
abbrev Ly : Type := Nat × (Nat → Nat → Shp)
/-- a world: the classes' numbers and slots, the fixed cells' addresses, what may change, array classes, addresses of static arrays -/
abbrev Wd : Type := va_G × (Nat → Nat) × (Nat → Prop) × (Nat → ClassId) × (Nat → Nat)
def fvl (fa : Nat → Nat) (ad : Nat → Nat → Nat) (σ : St) (d j k : Nat) (q : Nat × Nat) : Value := match q.1 with
  | 0 => .int (σ.1 d j k)
  | 1 => .ref (fa q.2)
  | t + 2 => va_rf ((σ.2 d j k).map (ad (t + 1)))
def fvs (fa : Nat → Nat) (ad : Nat → Nat → Nat) (σ : St) (d j : Nat) : Nat → List (Nat × Nat) → List Value
  | _, [] => []
  | k, q :: qs => fvl fa ad σ d j k q :: fvs fa ad σ d j (k + 1) qs
theorem fvs_get (fa : Nat → Nat) (ad : Nat → Nat → Nat) (σ : St) (d j : Nat) : ∀ (qs : List (Nat × Nat)) (k0 k : Nat), (fvs fa ad σ d j k0 qs)[k]? = (qs[k]?).map (fvl fa ad σ d j (k0 + k))
  | [], k0, k => by simp [fvs]
  | q :: qs, k0, 0 => by simp [fvs]
  | q :: qs, k0, k + 1 => by
    have h := fvs_get fa ad σ d j qs (k0 + 1) k
    simp only [fvs, List.getElem?_cons_succ]
    rw [h, show k0 + 1 + k = k0 + (k + 1) by omega]
theorem fvs_len (fa : Nat → Nat) (ad : Nat → Nat → Nat) (σ : St) (d j : Nat) : ∀ (qs : List (Nat × Nat)) (k0 : Nat), (fvs fa ad σ d j k0 qs).length = qs.length
  | [], _ => rfl
  | q :: qs, k0 => by simp [fvs, fvs_len fa ad σ d j qs (k0 + 1)]
def arc (ad : Nat → Nat → Nat) (σ : St) (d j : Nat) (t : Nat) : (Nat → Int32) ⊕ (Nat → Int64) ⊕ (Nat → UInt32) ⊕ (Nat → UInt64) ⊕ (Nat → Option Nat) := match t with
  | 0 => .inl (σ.1 d j)
  | 1 => .inl (σ.1 d j)
  | t + 2 => .inr (.inr (.inr (.inr (fun i => (σ.2 d j i).map (ad (t + 1))))))
def cel (ω : Wd) (ad : Nat → Nat → Nat) (σ : St) (d j : Nat) : Shp → va_E
  | .inl (ci, fs) => .inr (ci, fvs ω.2.1 ad σ d j 0 fs)
  | .inr (t, n) => .inl (ω.2.2.2.1 t, n, arc ad σ d j t)
def adr (ω : Wd) (ad : Nat → Nat → Nat) (d j : Nat) : Nat := match d with
  | 0 => ω.2.1 j
  | d + 1 => ad (d + 1) j
def dm (Λ : Ly) (N : Nat → Nat) (d j : Nat) : Prop := (d = 0 ∧ j < Λ.1) ∨ (1 ≤ d ∧ d ≤ 4 ∧ j < N d)
def vld (N : Nat → Nat) (σ : St) (d j : Nat) : Shp → Prop
  | .inl (_, fs) => ∀ k t z, fs[k]? = some (t + 2, z) → ∀ q, σ.2 d j k = some q → q < N (t + 1)
  | .inr (0, _) => True
  | .inr (1, _) => True
  | .inr (t + 2, n) => ∀ i, i < n → ∀ q, σ.2 d j i = some q → q < N (t + 1)
def Rep (Λ : Ly) (ω : Wd) (ad : Nat → Nat → Nat) (N : Nat → Nat) (σ : St) (H : Heap) : Prop :=
  (∀ d j, dm Λ N d j → va_at ω.1 vwCl (adr ω ad d j, cel ω ad σ d j (Λ.2 d j)) H) ∧
  (∀ d j d' j', dm Λ N d j → dm Λ N d' j' → adr ω ad d j = adr ω ad d' j' → d = d' ∧ j = j') ∧
  (∀ d j, dm Λ N d j → ω.2.2.1 (adr ω ad d j)) ∧
  (∀ d j, dm Λ N d j → vld N σ d j (Λ.2 d j))
/-! the cells in a row -/
def tot (Λ : Ly) (N : Nat → Nat) : Nat := Λ.1 + N 1 + N 2 + N 3 + N 4
def cid (Λ : Ly) (N : Nat → Nat) (i : Nat) : Nat × Nat :=
  if i < Λ.1 then (0, i) else if i < Λ.1 + N 1 then (1, i - Λ.1) else if i < Λ.1 + N 1 + N 2 then (2, i - Λ.1 - N 1) else if i < Λ.1 + N 1 + N 2 + N 3 then (3, i - Λ.1 - N 1 - N 2) else (4, i - Λ.1 - N 1 - N 2 - N 3)
theorem cid_dm {Λ : Ly} {N : Nat → Nat} {i : Nat} (h : i < tot Λ N) : dm Λ N (cid Λ N i).1 (cid Λ N i).2 := by
  unfold tot at h
  unfold cid dm
  split
  · left; exact ⟨rfl, by assumption⟩
  · right
    split
    · exact ⟨(show 1 ≤ 1 by decide), (show 1 ≤ 4 by decide), by show i - Λ.1 < N 1; omega⟩
    · split
      · exact ⟨(show 1 ≤ 2 by decide), (show 2 ≤ 4 by decide), by show i - Λ.1 - N 1 < N 2; omega⟩
      · split
        · exact ⟨(show 1 ≤ 3 by decide), (show 3 ≤ 4 by decide), by show i - Λ.1 - N 1 - N 2 < N 3; omega⟩
        · exact ⟨(show 1 ≤ 4 by decide), (show 4 ≤ 4 by decide), by show i - Λ.1 - N 1 - N 2 - N 3 < N 4; omega⟩
theorem cid_inj {Λ : Ly} {N : Nat → Nat} {i j : Nat} (h : cid Λ N i = cid Λ N j) : i = j := by
  unfold cid at h
  split at h <;> split at h <;> (try split at h) <;> (try split at h) <;> (try split at h) <;> (try split at h) <;> (try split at h) <;> (try split at h) <;> simp at h <;> omega
theorem cid_onto {Λ : Ly} {N : Nat → Nat} {d j : Nat} (h : dm Λ N d j) : ∃ i, i < tot Λ N ∧ cid Λ N i = (d, j) := by
  rcases h with ⟨rfl, h⟩ | ⟨h1, h2, h3⟩
  · exact ⟨j, by unfold tot; omega, by unfold cid; rw [if_pos h]⟩
  · rcases (show d = 1 ∨ d = 2 ∨ d = 3 ∨ d = 4 by omega) with rfl | rfl | rfl | rfl
    · exact ⟨Λ.1 + j, by unfold tot; omega, by unfold cid; rw [if_neg (by omega), if_pos (by omega), show Λ.1 + j - Λ.1 = j by omega]⟩
    · exact ⟨Λ.1 + N 1 + j, by unfold tot; omega, by unfold cid; rw [if_neg (by omega), if_neg (by omega), if_pos (by omega), show Λ.1 + N 1 + j - Λ.1 - N 1 = j by omega]⟩
    · exact ⟨Λ.1 + N 1 + N 2 + j, by unfold tot; omega, by unfold cid; rw [if_neg (by omega), if_neg (by omega), if_neg (by omega), if_pos (by omega), show Λ.1 + N 1 + N 2 + j - Λ.1 - N 1 - N 2 = j by omega]⟩
    · exact ⟨Λ.1 + N 1 + N 2 + N 3 + j, by unfold tot; omega, by unfold cid; rw [if_neg (by omega), if_neg (by omega), if_neg (by omega), if_neg (by omega), show Λ.1 + N 1 + N 2 + N 3 + j - Λ.1 - N 1 - N 2 - N 3 = j by omega]⟩
def wcl (Λ : Ly) (ω : Wd) (ad : Nat → Nat → Nat) (σ : St) (c : Nat × Nat) : Nat × va_E := (adr ω ad c.1 c.2, cel ω ad σ c.1 c.2 (Λ.2 c.1 c.2))
def wl (Λ : Ly) (ω : Wd) (ad : Nat → Nat → Nat) (N : Nat → Nat) (σ : St) : va_W := (List.range (tot Λ N)).map fun i => wcl Λ ω ad σ (cid Λ N i)
theorem wl_get {Λ : Ly} {ω : Wd} {ad : Nat → Nat → Nat} {N : Nat → Nat} {σ : St} {i : Nat} (h : i < tot Λ N) : (wl Λ ω ad N σ)[i]? = some (wcl Λ ω ad σ (cid Λ N i)) := by
  unfold wl
  rw [List.getElem?_map, List.getElem?_range h]
  rfl
theorem wl_of {Λ : Ly} {ω : Wd} {ad : Nat → Nat → Nat} {N : Nat → Nat} {σ : St} {i : Nat} {q : Nat × va_E} (h : (wl Λ ω ad N σ)[i]? = some q) : i < tot Λ N ∧ q = wcl Λ ω ad σ (cid Λ N i) := by
  have hi : i < tot Λ N := by
    have := (List.getElem?_eq_some_iff.mp h).1
    unfold wl at this
    simpa using this
  rw [wl_get hi] at h
  exact ⟨hi, (Option.some.inj h).symm⟩
theorem wl_at {Λ : Ly} {ω : Wd} {ad : Nat → Nat → Nat} {N : Nat → Nat} {d j : Nat} (h : dm Λ N d j) (σ : St) : ∃ i, i < tot Λ N ∧ cid Λ N i = (d, j) ∧ (wl Λ ω ad N σ)[i]? = some (adr ω ad d j, cel ω ad σ d j (Λ.2 d j)) := by
  obtain ⟨i, h1, h2⟩ := cid_onto h
  refine ⟨i, h1, h2, ?_⟩
  rw [wl_get h1, h2]
  rfl
theorem Rep.P {Λ : Ly} {ω : Wd} {ad : Nat → Nat → Nat} {N : Nat → Nat} {σ : St} {H : Heap} (h : Rep Λ ω ad N σ H) : va_P ω.1 vwCl (wl Λ ω ad N σ) H := by
  intro k q hq
  obtain ⟨h1, h2⟩ := wl_of hq
  rw [h2]
  exact h.1 _ _ (cid_dm h1)
theorem Rep.D {Λ : Ly} {ω : Wd} {ad : Nat → Nat → Nat} {N : Nat → Nat} {σ : St} {H : Heap} (h : Rep Λ ω ad N σ H) : va_D ω.2.2.1 (wl Λ ω ad N σ) := by
  refine ⟨fun i j p q hp hq e => ?_, fun k q hq => ?_⟩
  · obtain ⟨h1, h2⟩ := wl_of hp
    obtain ⟨h3, h4⟩ := wl_of hq
    rw [h2, h4] at e
    obtain ⟨e1, e2⟩ := h.2.1 _ _ _ _ (cid_dm h1) (cid_dm h3) e
    exact cid_inj (Prod.ext e1 e2)
  · obtain ⟨h1, h2⟩ := wl_of hq
    rw [h2]
    exact h.2.2.1 _ _ (cid_dm h1)
/-- one cell has changed -/
theorem Rep.back {Λ : Ly} {ω : Wd} {ad : Nat → Nat → Nat} {N : Nat → Nat} {σ σ' : St} {H H1 : Heap} {i d j : Nat} {e : va_E} (h : Rep Λ ω ad N σ H) (hi : i < tot Λ N) (hc : cid Λ N i = (d, j)) (hP : va_P ω.1 vwCl ((wl Λ ω ad N σ).set i (adr ω ad d j, e)) H1)
    (he : cel ω ad σ' d j (Λ.2 d j) = e) (ho : ∀ d' j', ¬ (d' = d ∧ j' = j) → σ'.1 d' j' = σ.1 d' j' ∧ σ'.2 d' j' = σ.2 d' j') (hv : vld N σ' d j (Λ.2 d j)) : Rep Λ ω ad N σ' H1 := by
  refine ⟨fun d' j' hd => ?_, h.2.1, h.2.2.1, fun d' j' hd => ?_⟩
  · by_cases hx : d' = d ∧ j' = j
    · obtain ⟨rfl, rfl⟩ := hx
      rw [he]
      refine hP i _ ?_
      rw [List.getElem?_set_self]
      unfold wl; simpa using hi
    · obtain ⟨i', h1, h2, h3⟩ := wl_at (ω := ω) (ad := ad) hd σ
      have hne : i ≠ i' := fun h => hx (by subst h; rw [hc] at h2; cases h2; exact ⟨rfl, rfl⟩)
      have h4 := hP i' (adr ω ad d' j', cel ω ad σ d' j' (Λ.2 d' j')) (by rw [List.getElem?_set_ne hne]; exact h3)
      have e2 : cel ω ad σ' d' j' (Λ.2 d' j') = cel ω ad σ d' j' (Λ.2 d' j') := by
        obtain ⟨o1, o2⟩ := ho d' j' hx
        have fe : ∀ (qs : List (Nat × Nat)) (k0 : Nat), fvs ω.2.1 ad σ' d' j' k0 qs = fvs ω.2.1 ad σ d' j' k0 qs := by
          intro qs
          induction qs with
          | nil => intro _; rfl
          | cons q qs ih =>
            intro k0
            simp only [fvs, ih (k0 + 1)]
            congr 1
            unfold fvl
            rw [o1, o2]
        cases hs : Λ.2 d' j' with
        | inl x => simp only [cel, fe]
        | inr x =>
          simp only [cel]
          unfold arc
          rw [o1, o2]
      rw [e2]
      exact h4
  · by_cases hx : d' = d ∧ j' = j
    · obtain ⟨rfl, rfl⟩ := hx
      exact hv
    · have h5 := h.2.2.2 d' j' hd
      obtain ⟨o1, o2⟩ := ho d' j' hx
      generalize Λ.2 d' j' = sh at h5 ⊢
      unfold vld at h5 ⊢
      rw [o2]
      exact h5
/-! writes -/
def sx (σ : St) (d j k : Nat) (v : Int32) : St := (fun d' j' k' => if d' = d ∧ j' = j ∧ k' = k then v else σ.1 d' j' k', σ.2)
def sy (σ : St) (d j k : Nat) (v : Option Nat) : St := (σ.1, fun d' j' k' => if d' = d ∧ j' = j ∧ k' = k then v else σ.2 d' j' k')
theorem sx_1 (σ : St) (d j k : Nat) (v : Int32) (d' j' k' : Nat) : (sx σ d j k v).1 d' j' k' = if d' = d ∧ j' = j ∧ k' = k then v else σ.1 d' j' k' := rfl
theorem sx_2 (σ : St) (d j k : Nat) (v : Int32) : (sx σ d j k v).2 = σ.2 := rfl
theorem sy_1 (σ : St) (d j k : Nat) (v : Option Nat) : (sy σ d j k v).1 = σ.1 := rfl
theorem sy_2 (σ : St) (d j k : Nat) (v : Option Nat) (d' j' k' : Nat) : (sy σ d j k v).2 d' j' k' = if d' = d ∧ j' = j ∧ k' = k then v else σ.2 d' j' k' := rfl
theorem sx_o {σ : St} {d j k : Nat} {v : Int32} {d' j' : Nat} (h : ¬ (d' = d ∧ j' = j)) : (sx σ d j k v).1 d' j' = σ.1 d' j' ∧ (sx σ d j k v).2 d' j' = σ.2 d' j' := by
  refine ⟨?_, rfl⟩
  funext k'
  rw [sx_1, if_neg (fun q => h ⟨q.1, q.2.1⟩)]
theorem sy_o {σ : St} {d j k : Nat} {v : Option Nat} {d' j' : Nat} (h : ¬ (d' = d ∧ j' = j)) : (sy σ d j k v).1 d' j' = σ.1 d' j' ∧ (sy σ d j k v).2 d' j' = σ.2 d' j' := by
  refine ⟨rfl, ?_⟩
  funext k'
  rw [sy_2, if_neg (fun q => h ⟨q.1, q.2.1⟩)]
theorem sx_vld {N : Nat → Nat} {σ : St} {d j k : Nat} {v : Int32} {sh : Shp} (h : vld N σ d j sh) : vld N (sx σ d j k v) d j sh := h
/-! the words: all of lw_tbl, at every method -/
def wt : List Cond := lw_tbl.filter goodWord
theorem wt_good : GoodIn wt wt := fun w hw => ⟨hw, good_of_word (List.mem_filter.mp hw).2⟩
theorem in_wt {w : Cond} (i : Nat) (h : lw_tbl[i]? = some w) (g : goodWord w = true) : w ∈ wt := List.mem_filter.mpr ⟨List.mem_of_getElem? h, g⟩
theorem sub_wt {ws : List Cond} (ps : List Nat) (hp : ws = ps.filterMap (fun i => lw_tbl[i]?)) (g : ws.all goodWord = true) : ∀ w ∈ ws, w ∈ wt := by
  intro w hw
  refine List.mem_filter.mpr ⟨?_, List.all_eq_true.mp g w hw⟩
  rw [hp] at hw
  obtain ⟨i, -, hi⟩ := List.mem_filterMap.mp hw
  exact List.mem_of_getElem? hi
/-! the calls into a nest mate's private method -/
def nws : List (String × Nat × MethodName × String) := [("PostsEnd$Firm", 121, ⟨"PostsEnd", "skillFor", "(LPostsEnd$Person;LPostsEnd$Post;)I"⟩, "PostsEnd"), ("PostsEnd$Bumping", 82, ⟨"PostsEnd", "skillFor", "(LPostsEnd$Person;LPostsEnd$Post;)I"⟩, "PostsEnd"), ("PostsEnd$Endings", 71, ⟨"PostsEnd", "bandOf", "(I)I"⟩, "PostsEnd"), ("PostsEnd$Endings", 78, ⟨"PostsEnd", "noticeOf", "(I)I"⟩, "PostsEnd"), ("PostsEnd", 9, ⟨"PostsEnd$Firm", "<init>", "()V"⟩, "PostsEnd"), ("PostsEnd", 55, ⟨"PostsEnd$Endings", "<init>", "()V"⟩, "PostsEnd")]
def NW (U : State) : Prop := ∀ q ∈ nws, va_Nw (.methodLinkNest q.1 q.2.1 q.2.2.1 q.2.2.2) U
theorem NW.warm {s U : State} (hW : s.WarmedH U.vm) (h : NW s) : NW U := fun q hq => (h q hq).warmM hW
theorem NW.same {s U : State} (hv : s.vm = U.vm) (h : NW s) : NW U := fun q hq => va_Nw.same rfl hv (h q hq)
/-! what is taken for granted in a method, and its judgement -/
abbrev CT : Type := Program × Launch × Env × Room × State × MethodId × Array Value × List Frame × Method × Code
/-- the method's frame of reference: machine, world, number of locals, addresses and counts of the objects made -/
abbrev TT : Type := CT × Wd × Nat × (Nat → Nat → Nat) × (Nat → Nat) × (Nat × Nat)
abbrev cS (Θ : TT) : State := Θ.1.2.2.2.2.1
abbrev cM (Θ : TT) : MethodId := Θ.1.2.2.2.2.2.1
abbrev cR (Θ : TT) : Room := Θ.1.2.2.2.1
abbrev cW (Θ : TT) : Wd := Θ.2.1
abbrev cF (Θ : TT) : Nat → Nat := Θ.2.1.2.1
abbrev cNL (Θ : TT) : Nat := Θ.2.2.1
abbrev cAd (Θ : TT) : Nat → Nat → Nat := Θ.2.2.2.1
abbrev cN (Θ : TT) : Nat → Nat := Θ.2.2.2.2.1
/-- how many cells, and slots, the method has made -/
abbrev cC (Θ : TT) : Nat × Nat := Θ.2.2.2.2.2
def WW (Γ : CT) (H : Heap) (locs : List Loc) (k n : Nat) (Q : State → Prop) (g : JFrame) : Prop :=
  W Γ.1 Γ.2.1 Γ.2.2.1 Γ.2.2.2.1 Γ.2.2.2.2.1 Γ.2.2.2.2.2.1 Γ.2.2.2.2.2.2.1 Γ.2.2.2.2.2.2.2.1 Γ.2.2.2.2.2.2.2.2.1 Γ.2.2.2.2.2.2.2.2.2 H locs k n Q g
def tys (ω : Wd) : List (ClassId × FieldType) := [(ω.2.2.2.1 0, .int), (ω.2.2.2.1 1, .boolean), (ω.2.2.2.1 2, .object RX7), (ω.2.2.2.1 3, .object RX5), (ω.2.2.2.1 4, .object RX10)]
def snm (i : Nat) : String := match i with
  | 0 => "LEAST_SETTING"
  | 1 => "MOST_SETTING"
  | 2 => "LEAST_OF_BAND"
  | _ => "NOTICE_OF_BAND"
def scon (i j : Nat) : Int32 := match i, j with
  | 0, 0 => 0
  | 0, 1 => 0
  | 0, _ => 100
  | 1, 0 => 10
  | 1, 1 => 5
  | 1, _ => 9999
  | 2, 0 => 0
  | 2, 1 => 20
  | 2, _ => 100
  | _, 0 => 7
  | _, 1 => 30
  | _, _ => 45
def SF (ω : Wd) (U : State) (H : Heap) : Prop := ∀ i, i < 4 → va_Z "PostsEnd" (snm i) "[I" (.ref (ω.2.2.2.2 i)) ω.2.2.1 U H ∧ va_T .int (ω.2.2.2.2 i) 3 (fun j => .int (scon i j)) ω.2.2.1 U H
theorem SF.moved {ω : Wd} {u U : State} {H : Heap} (hvm : u.vm.Alike U.vm) (h : SF ω u H) : SF ω U H := fun i hi => ⟨(h i hi).1.moved hvm, (h i hi).2.moved hvm⟩
theorem SF.kept {ω : Wd} {U : State} {H H1 : Heap} (h : SF ω U H) (hq : ∀ a : Nat, a < H.size → ¬ ω.2.2.1 a → H1[a]? = H[a]?) : SF ω U H1 := fun i hi => ⟨(h i hi).1.kept hq, (h i hi).2.kept hq⟩
/-- a method's start -/
def Pre (Λ : Ly) (ω : Wd) (ad : Nat → Nat → Nat) (N : Nat → Nat) (σ : St) (U : State) : Prop :=
  Rep Λ ω ad N σ U.heap ∧ va_K ω.1 vwCl (tys ω) U ∧ (∀ q, U.heap.size ≤ q → ω.2.2.1 q) ∧ SF ω U U.heap ∧ NW U
def CX (Θ : TT) (cc : ByteArray) (own : String) (ret : Option FieldType) (rm : Room) (nL : Nat) : Prop :=
  Θ.1.1.tables.exec = Jvm.exec ∧ Θ.1.2.2.2.2.2.2.2.2.2.code = cc ∧ Θ.1.2.2.2.2.2.2.2.2.2.maxLocals = cNL Θ ∧ (cS Θ).vm.findClass own = some (cM Θ).cls ∧ (∀ w ∈ wt, w.before Θ.1.2.2.2.2.2.2.1 (cS Θ) = true) ∧
  Θ.1.2.2.2.2.2.2.2.2.1.sig.returnType = ret ∧ Θ.1.2.2.2.2.2.2.2.2.1.locks = false ∧ va_K (cW Θ).1 vwCl (tys (cW Θ)) (cS Θ) ∧ (∀ q, (cS Θ).heap.size ≤ q → (cW Θ).2.2.1 q) ∧ SF (cW Θ) (cS Θ) (cS Θ).heap ∧ cR Θ = rm ∧ cNL Θ = nL ∧ NW (cS Θ) ∧ (cC Θ).1 ≤ rm.cells ∧ (cC Θ).2 ≤ rm.slots
/-! locals -/
def pr : Nat → List (Option Value) → List (Nat × Value)
  | _, [] => []
  | i, none :: r => pr (i + 1) r
  | i, some v :: r => (i, v) :: pr (i + 1) r
def lvg : List (Option Value) → Nat → Option Value
  | [], _ => none
  | o :: _, 0 => o
  | _ :: t, k + 1 => lvg t k
def lvs : List (Option Value) → Nat → Value → List (Option Value)
  | [], _, _ => []
  | _ :: t, 0, v => some v :: t
  | o :: t, k + 1, v => o :: lvs t k v
theorem pr_mem : ∀ {l : List (Option Value)} {i0 : Nat} {q : Nat × Value}, q ∈ pr i0 l ↔ ∃ k, q.1 = i0 + k ∧ lvg l k = some q.2
  | [], i0, q => by simp [pr, lvg]
  | none :: r, i0, q => by
    simp only [pr]
    rw [pr_mem (l := r)]
    constructor
    · rintro ⟨k, h1, h2⟩
      exact ⟨k + 1, by omega, h2⟩
    · rintro ⟨k, h1, h2⟩
      cases k with
      | zero => simp [lvg] at h2
      | succ k => exact ⟨k, by omega, h2⟩
  | some v :: r, i0, q => by
    simp only [pr, List.mem_cons]
    rw [pr_mem (l := r)]
    constructor
    · rintro (h | ⟨k, h1, h2⟩)
      · exact ⟨0, by rw [h]; rfl, by rw [h]; rfl⟩
      · exact ⟨k + 1, by omega, h2⟩
    · rintro ⟨k, h1, h2⟩
      cases k with
      | zero =>
        left
        simp [lvg] at h2
        exact Prod.ext h1 h2.symm
      | succ k => exact Or.inr ⟨k, by omega, h2⟩
def LV (ls : Array Slot) (nL : Nat) (lv : List (Option Value)) : Prop := lv_has ls nL (pr 0 lv)
theorem LV.get {ls : Array Slot} {nL : Nat} {lv : List (Option Value)} (h : LV ls nL lv) {i : Nat} {v : Value} (hv : lvg lv i = some v) : ls[i]? = some (.val v) :=
  h.2.2 (i, v) (pr_mem.mpr ⟨i, by simp, hv⟩)
theorem lvg_lvs : ∀ {l : List (Option Value)} {i k : Nat} {v w : Value}, lvg (lvs l i v) k = some w → (k = i ∧ w = v) ∨ (k ≠ i ∧ lvg l k = some w)
  | [], i, k, v, w, h => by simp [lvs, lvg] at h
  | o :: t, 0, 0, v, w, h => by simp [lvs, lvg] at h; exact Or.inl ⟨rfl, h.symm⟩
  | o :: t, 0, k + 1, v, w, h => Or.inr ⟨by omega, h⟩
  | o :: t, i + 1, 0, v, w, h => Or.inr ⟨by omega, h⟩
  | o :: t, i + 1, k + 1, v, w, h => by
    rcases lvg_lvs (l := t) h with ⟨h1, h2⟩ | ⟨h1, h2⟩
    · exact Or.inl ⟨by omega, h2⟩
    · exact Or.inr ⟨by omega, h2⟩
def lvok (l : List (Option Value)) (i : Nat) : Bool := match i with
  | 0 => true
  | i + 1 => match lvg l i with
    | some v => v.category != 2
    | none => true
theorem LV.set {ls' : Array Slot} {nL : Nat} {lv : List (Option Value)} {i : Nat} {v : Value} (hok : lvok lv i = true) (h : lv_has ls' nL ((i, v) :: (pr 0 lv).filter (fun q => !(q.1 == i) && !(q.1 + 1 == i && q.2.category == 2)))) : LV ls' nL (lvs lv i v) := by
  refine ⟨h.1, h.2.1, fun q hq => h.2.2 q ?_⟩
  obtain ⟨k, h1, h2⟩ := pr_mem.mp hq
  rw [Nat.zero_add] at h1
  rcases lvg_lvs h2 with ⟨h3, h4⟩ | ⟨h3, h4⟩
  · have : q = (i, v) := Prod.ext (h1.trans h3) h4
    rw [this]
    exact List.mem_cons_self
  · refine List.mem_cons_of_mem _ (List.mem_filter.mpr ⟨pr_mem.mpr ⟨k, by omega, h4⟩, ?_⟩)
    have h5 : (q.1 == i) = false := by simpa [h1] using h3
    rw [h5]
    by_cases h6 : q.1 + 1 = i
    · subst h6
      rw [h1] at hok
      simp only [lvok, h4] at hok
      simp
      intro hc
      rw [hc] at hok
      exact absurd hok (by decide)
    · simp [h6]
/-- from here the method comes to its end with what K says, if it says something -/
def WA {ρ : Type} (Λ : Ly) (Θ : TT) (Qf : ρ → State → Prop) (pc : Nat) (lv : List (Option Value)) (st : List Value) (σ : St) (K : Option ρ) : Prop :=
  ∀ r, K = some r → ∀ (H : Heap) (ls : Array Slot) (locs : List Loc), LV ls (cNL Θ) lv → Rep Λ (cW Θ) (cAd Θ) (cN Θ) σ H → va_S (cW Θ).2.2.1 (cS Θ).heap H locs → WW Θ.1 H locs (cC Θ).1 (cC Θ).2 (Qf r) (F0 (cM Θ) pc ls st)
