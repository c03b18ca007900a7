/-- the class as it is made, the reference as it is made behind it -/
def FCw (ω : Wd) (h0 : Nat) (us1 : List Nat) : va_W := (h0, .inr (11, [.ref (us1.getD 0 0), .ref (us1.getD 7 0), .ref (us1.getD 11 0), .ref (us1.getD 16 0), .ref (us1.getD 21 0), .ref (us1.getD 24 0), .ref (us1.getD 30 0), .ref (us1.getD 39 0)])) :: (([] : va_W) ++ [((us1.getD 0 0), .inr (3, [.int 0, .int 0, .int 0, .int 0, .int 0, .int 0, .ref (us1.getD 1 0), .ref (us1.getD 2 0), .ref (us1.getD 3 0), .ref (us1.getD 4 0), .ref (us1.getD 5 0), .ref (us1.getD 6 0)])), ((us1.getD 1 0), .inl (ω.2.2.2.1 0, 12, .inl (fun _ => 0))), ((us1.getD 2 0), .inl (ω.2.2.2.1 2, 40, .inr (.inr (.inr (.inr (fun _ => none)))))), ((us1.getD 3 0), .inl (ω.2.2.2.1 3, 40, .inr (.inr (.inr (.inr (fun _ => none)))))), ((us1.getD 4 0), .inl (ω.2.2.2.1 4, 120, .inr (.inr (.inr (.inr (fun _ => none)))))), ((us1.getD 5 0), .inl (ω.2.2.2.1 0, 4, .inl (upd (upd (upd (upd (fun _ => 0) (Int32.toNatClampNeg (0 : Int32)) (4 : Int32)) (Int32.toNatClampNeg (1 : Int32)) (3 : Int32)) (Int32.toNatClampNeg (2 : Int32)) (2 : Int32)) (Int32.toNatClampNeg (3 : Int32)) (1 : Int32)))), ((us1.getD 6 0), .inl (ω.2.2.2.1 0, 3, .inl (upd (upd (upd (fun _ => 0) (Int32.toNatClampNeg (0 : Int32)) (1 : Int32)) (Int32.toNatClampNeg (1 : Int32)) (0 : Int32)) (Int32.toNatClampNeg (2 : Int32)) (600 : Int32)))), ((us1.getD 7 0), .inr (6, [.ref (us1.getD 0 0), .ref (us1.getD 8 0), .ref (us1.getD 9 0), .ref (us1.getD 10 0), .int 0, .int 0, .int 0])), ((us1.getD 8 0), .inl (ω.2.2.2.1 0, 40, .inl (fun _ => 0))), ((us1.getD 9 0), .inl (ω.2.2.2.1 2, 40, .inr (.inr (.inr (.inr (fun _ => none)))))), ((us1.getD 10 0), .inl (ω.2.2.2.1 3, 40, .inr (.inr (.inr (.inr (fun _ => none)))))), ((us1.getD 11 0), .inr (8, [.ref (us1.getD 0 0), .ref (us1.getD 12 0), .ref (us1.getD 13 0), .ref (us1.getD 14 0), .ref (us1.getD 15 0), .int 0])), ((us1.getD 12 0), .inl (ω.2.2.2.1 3, 40, .inr (.inr (.inr (.inr (fun _ => none)))))), ((us1.getD 13 0), .inl (ω.2.2.2.1 0, 40, .inl (fun _ => 0))), ((us1.getD 14 0), .inl (ω.2.2.2.1 0, 40, .inl (fun _ => 0))), ((us1.getD 15 0), .inl (ω.2.2.2.1 0, 40, .inl (fun _ => 0))), ((us1.getD 16 0), .inr (1, [.ref (us1.getD 0 0), .ref (us1.getD 17 0), .ref (us1.getD 18 0), .ref (us1.getD 19 0), .ref (us1.getD 20 0), .int 0, .int 0, .int 0, .int 0, .int 0, .int 0, .int 0, .int 0])), ((us1.getD 17 0), .inl (ω.2.2.2.1 0, 12, .inl (fun _ => 0))), ((us1.getD 18 0), .inl (ω.2.2.2.1 0, 12, .inl (fun _ => 0))), ((us1.getD 19 0), .inl (ω.2.2.2.1 0, 10, .inl (fun _ => 0))), ((us1.getD 20 0), .inl (ω.2.2.2.1 0, 10, .inl (fun _ => 0))), ((us1.getD 21 0), .inr (0, [.ref (us1.getD 0 0), .ref (us1.getD 22 0), .ref (us1.getD 23 0), .int 0])), ((us1.getD 22 0), .inl (ω.2.2.2.1 0, 40, .inl (fun _ => 0))), ((us1.getD 23 0), .inl (ω.2.2.2.1 3, 40, .inr (.inr (.inr (.inr (fun _ => none)))))), ((us1.getD 24 0), .inr (4, [.ref (us1.getD 0 0), .ref (us1.getD 25 0), .ref (us1.getD 26 0), .ref (us1.getD 27 0), .ref (us1.getD 28 0), .ref (us1.getD 29 0), .int 0, .int 0])), ((us1.getD 25 0), .inl (ω.2.2.2.1 3, 8, .inr (.inr (.inr (.inr (fun _ => none)))))), ((us1.getD 26 0), .inl (ω.2.2.2.1 2, 8, .inr (.inr (.inr (.inr (fun _ => none)))))), ((us1.getD 27 0), .inl (ω.2.2.2.1 0, 64, .inl (fun _ => 0))), ((us1.getD 28 0), .inl (ω.2.2.2.1 0, 2304, .inl (fun _ => 0))), ((us1.getD 29 0), .inl (ω.2.2.2.1 2, 8, .inr (.inr (.inr (.inr (fun _ => none)))))), ((us1.getD 30 0), .inr (2, [.ref (us1.getD 31 0), .ref (us1.getD 32 0), .ref (us1.getD 33 0), .int 0, .ref (us1.getD 34 0), .ref (us1.getD 35 0), .ref (us1.getD 36 0), .ref (us1.getD 37 0), .ref (us1.getD 38 0), .int 0, .int 0, .int 0, .int 0])), ((us1.getD 31 0), .inl (ω.2.2.2.1 0, 60, .inl (fun _ => 0))), ((us1.getD 32 0), .inl (ω.2.2.2.1 0, 60, .inl (fun _ => 0))), ((us1.getD 33 0), .inl (ω.2.2.2.1 0, 60, .inl (fun _ => 0))), ((us1.getD 34 0), .inl (ω.2.2.2.1 0, 201, .inl (fun _ => 0))), ((us1.getD 35 0), .inl (ω.2.2.2.1 0, 1206, .inl (fun _ => 0))), ((us1.getD 36 0), .inl (ω.2.2.2.1 0, 6, .inl (fun _ => 0))), ((us1.getD 37 0), .inl (ω.2.2.2.1 0, 3, .inl (fun _ => 0))), ((us1.getD 38 0), .inl (ω.2.2.2.1 0, 3, .inl (fun _ => 0))), ((us1.getD 39 0), .inl (ω.2.2.2.1 0, 7, .inl (fun _ => 0)))])
def FMw (ω : Wd) (g0 : Nat) (rest : va_W) (us2 : List Nat) : va_W := (g0, .inr (12, [.int 0, .int 0, .ref (us2.getD 0 0), .ref (us2.getD 1 0), .int 0, .ref (us2.getD 2 0), .ref (us2.getD 3 0), .ref (us2.getD 4 0), .ref (us2.getD 5 0), .ref (us2.getD 6 0), .ref (us2.getD 7 0), .int 0, .ref (us2.getD 8 0), .ref (us2.getD 9 0), .ref (us2.getD 10 0), .ref (us2.getD 11 0), .ref (us2.getD 12 0), .ref (us2.getD 13 0), .ref (us2.getD 14 0), .ref (us2.getD 15 0), .int (1 : Int32), .int 0, .int (600 : Int32), .ref (us2.getD 16 0), .ref (us2.getD 17 0), .int 0, .ref (us2.getD 18 0), .ref (us2.getD 19 0), .ref (us2.getD 20 0), .ref (us2.getD 21 0), .int 0, .ref (us2.getD 22 0), .ref (us2.getD 23 0), .ref (us2.getD 24 0), .ref (us2.getD 25 0), .ref (us2.getD 26 0), .ref (us2.getD 27 0), .ref (us2.getD 28 0), .int 0, .ref (us2.getD 29 0), .int 0, .int 0, .int 0, .int 0, .int 0, .int 0, .ref (us2.getD 30 0), .ref (us2.getD 31 0), .ref (us2.getD 32 0), .ref (us2.getD 33 0), .ref (us2.getD 34 0), .int 0, .int 0, .int 0, .ref (us2.getD 35 0), .ref (us2.getD 36 0), .int 0, .ref (us2.getD 37 0), .ref (us2.getD 38 0), .int 0, .ref (us2.getD 39 0), .ref (us2.getD 40 0), .ref (us2.getD 41 0), .ref (us2.getD 42 0), .ref (us2.getD 43 0), .ref (us2.getD 44 0)])) :: (rest ++ [((us2.getD 0 0), .inl (ω.2.2.2.1 0, 12, .inl (fun _ => 0))), ((us2.getD 1 0), .inl (ω.2.2.2.1 0, 12, .inl (fun _ => 0))), ((us2.getD 2 0), .inl (ω.2.2.2.1 0, 40, .inl (fun _ => 0))), ((us2.getD 3 0), .inl (ω.2.2.2.1 0, 40, .inl (fun _ => 0))), ((us2.getD 4 0), .inl (ω.2.2.2.1 0, 40, .inl (fun _ => 0))), ((us2.getD 5 0), .inl (ω.2.2.2.1 0, 40, .inl (fun _ => 0))), ((us2.getD 6 0), .inl (ω.2.2.2.1 0, 40, .inl (fun _ => 0))), ((us2.getD 7 0), .inl (ω.2.2.2.1 0, 40, .inl (fun _ => 0))), ((us2.getD 8 0), .inl (ω.2.2.2.1 0, 40, .inl (fun _ => 0))), ((us2.getD 9 0), .inl (ω.2.2.2.1 0, 40, .inl (fun _ => 0))), ((us2.getD 10 0), .inl (ω.2.2.2.1 0, 40, .inl (fun _ => 0))), ((us2.getD 11 0), .inl (ω.2.2.2.1 0, 40, .inl (fun _ => 0))), ((us2.getD 12 0), .inl (ω.2.2.2.1 0, 40, .inl (fun _ => 0))), ((us2.getD 13 0), .inl (ω.2.2.2.1 0, 40, .inl (fun _ => 0))), ((us2.getD 14 0), .inl (ω.2.2.2.1 0, 40, .inl (fun _ => 0))), ((us2.getD 15 0), .inl (ω.2.2.2.1 0, 40, .inl (fun _ => 0))), ((us2.getD 16 0), .inl (ω.2.2.2.1 0, 4, .inl (upd (upd (upd (upd (fun _ => 0) (Int32.toNatClampNeg (0 : Int32)) (4 : Int32)) (Int32.toNatClampNeg (1 : Int32)) (3 : Int32)) (Int32.toNatClampNeg (2 : Int32)) (2 : Int32)) (Int32.toNatClampNeg (3 : Int32)) (1 : Int32)))), ((us2.getD 17 0), .inl (ω.2.2.2.1 0, 7, .inl (fun _ => 0))), ((us2.getD 18 0), .inl (ω.2.2.2.1 0, 120, .inl (fun _ => 0))), ((us2.getD 19 0), .inl (ω.2.2.2.1 0, 120, .inl (fun _ => 0))), ((us2.getD 20 0), .inl (ω.2.2.2.1 0, 120, .inl (fun _ => 0))), ((us2.getD 21 0), .inl (ω.2.2.2.1 0, 120, .inl (fun _ => 0))), ((us2.getD 22 0), .inl (ω.2.2.2.1 0, 61, .inl (fun _ => 0))), ((us2.getD 23 0), .inl (ω.2.2.2.1 0, 61, .inl (fun _ => 0))), ((us2.getD 24 0), .inl (ω.2.2.2.1 0, 61, .inl (fun _ => 0))), ((us2.getD 25 0), .inl (ω.2.2.2.1 0, 40, .inl (fun _ => 0))), ((us2.getD 26 0), .inl (ω.2.2.2.1 0, 40, .inl (fun _ => 0))), ((us2.getD 27 0), .inl (ω.2.2.2.1 0, 40, .inl (fun _ => 0))), ((us2.getD 28 0), .inl (ω.2.2.2.1 0, 40, .inl (fun _ => 0))), ((us2.getD 29 0), .inl (ω.2.2.2.1 0, 40, .inl (fun _ => 0))), ((us2.getD 30 0), .inl (ω.2.2.2.1 0, 12, .inl (fun _ => 0))), ((us2.getD 31 0), .inl (ω.2.2.2.1 0, 12, .inl (fun _ => 0))), ((us2.getD 32 0), .inl (ω.2.2.2.1 0, 41, .inl (fun _ => 0))), ((us2.getD 33 0), .inl (ω.2.2.2.1 0, 41, .inl (fun _ => 0))), ((us2.getD 34 0), .inl (ω.2.2.2.1 0, 41, .inl (fun _ => 0))), ((us2.getD 35 0), .inl (ω.2.2.2.1 0, 8, .inl (fun _ => 0))), ((us2.getD 36 0), .inl (ω.2.2.2.1 0, 8, .inl (fun _ => 0))), ((us2.getD 37 0), .inl (ω.2.2.2.1 0, 2304, .inl (fun _ => 0))), ((us2.getD 38 0), .inl (ω.2.2.2.1 0, 8, .inl (fun _ => 0))), ((us2.getD 39 0), .inl (ω.2.2.2.1 0, 60, .inl (fun _ => 0))), ((us2.getD 40 0), .inl (ω.2.2.2.1 0, 60, .inl (fun _ => 0))), ((us2.getD 41 0), .inl (ω.2.2.2.1 0, 60, .inl (fun _ => 0))), ((us2.getD 42 0), .inl (ω.2.2.2.1 0, 1407, .inl (fun _ => 0))), ((us2.getD 43 0), .inl (ω.2.2.2.1 0, 6, .inl (fun _ => 0))), ((us2.getD 44 0), .inl (ω.2.2.2.1 1, 40, .inl (fun _ => 0)))])
theorem iw_X11_init : MW yX11_init cX11_init 1 none 0 ∧ Cond.instanceMethod yX11_init ∈ wt := ⟨⟨(in_wt 80 (by decide +kernel) (by decide +kernel)), (in_wt 101 (by decide +kernel) (by decide +kernel)), by decide +kernel⟩, (in_wt 100 (by decide +kernel) (by decide +kernel))⟩
theorem iw_X12_init : MW yX12_init cX12_init 1 none 0 ∧ Cond.instanceMethod yX12_init ∈ wt := ⟨⟨(in_wt 88 (by decide +kernel) (by decide +kernel)), (in_wt 1232 (by decide +kernel) (by decide +kernel)), by decide +kernel⟩, (in_wt 1231 (by decide +kernel) (by decide +kernel))⟩
theorem lw_c7 : Cond.classLink R_law 7 RX11 ∈ wt := in_wt 97 (by decide +kernel) (by decide +kernel)
theorem lw_c10 : Cond.classLink R_law 10 RX12 ∈ wt := in_wt 1228 (by decide +kernel) (by decide +kernel)
theorem lw_i11 : Cond.initialized RX11 ∈ wt := in_wt 80 (by decide +kernel) (by decide +kernel)
theorem lw_i12 : Cond.initialized RX12 ∈ wt := in_wt 88 (by decide +kernel) (by decide +kernel)
theorem lw_m9 : Cond.methodLink R_law 9 yX11_init ∈ wt := in_wt 99 (by decide +kernel) (by decide +kernel)
theorem lw_m12 : Cond.methodLink R_law 12 yX12_init ∈ wt := in_wt 1230 (by decide +kernel) (by decide +kernel)
theorem law_NW {args : Array Value} {s : State} (hts : ∀ w ∈ lw_tbl, w.before args s = true) : NW s := by
  intro q hq
  have hm : ∀ q ∈ nws, Cond.methodLinkNest q.1 q.2.1 q.2.2.1 q.2.2.2 ∈ lw_tbl := by
    intro q hq
    simp only [nws, List.mem_cons, List.not_mem_nil, or_false] at hq
    rcases hq with rfl | rfl | rfl | rfl | rfl | rfl
    · exact List.mem_of_getElem? (i := 720) (by decide +kernel)
    · exact List.mem_of_getElem? (i := 941) (by decide +kernel)
    · exact List.mem_of_getElem? (i := 1105) (by decide +kernel)
    · exact List.mem_of_getElem? (i := 1109) (by decide +kernel)
    · exact List.mem_of_getElem? (i := 107) (by decide +kernel)
    · exact List.mem_of_getElem? (i := 337) (by decide +kernel)
  exact va_Nw.of rfl (hts _ (hm q hq))
theorem w_ctor {Γ : CT} {ω : Wd} {Q : State → Prop} {H : Heap} {ls : Array Slot} {locs : List Loc} {k z pc mc ms : Nat} {st st0 : List Value} {F : List Nat → va_W} {ts : List Nat}
    (run : va_Run Γ.1 Γ.2.1 Γ.2.2.1 Γ.2.2.2.1 Γ.2.2.2.2.1 Γ.2.2.2.2.2.1 Γ.2.2.2.2.2.2.1 Γ.2.2.2.2.2.2.2.1 Γ.2.2.2.2.2.2.2.2.1 Γ.2.2.2.2.2.2.2.2.2 H locs k z mc ms (F0 Γ.2.2.2.2.2.1 pc ls st0) st (fun st oc t => oc = .returned none ∧ (∃ us : List Nat, WP ω.1 (F us) t.heap ∧ WD ω.2.2.1 (F us)) ∧ (∀ x ∈ ts, ArT ω t x) ∧ va_F ω.2.2.1 st t) ω.2.2.1)
    (hS : va_S ω.2.2.1 Γ.2.2.2.2.1.heap H locs)
    (w : ∀ (us : List Nat) (H1 : Heap) (locs1 : List Loc), WP ω.1 (F us) H1 → WD ω.2.2.1 (F us) → (∀ x ∈ ts, ArT ω Γ.2.2.2.2.1 x) → va_S ω.2.2.1 Γ.2.2.2.2.1.heap H1 locs1 → WW Γ H1 locs1 (k + mc) (z + ms) Q (F0 Γ.2.2.2.2.2.1 (pc + 3) ls st)) : WW Γ H locs k z Q (F0 Γ.2.2.2.2.2.1 pc ls st0) := by
  intro T hT X
  obtain ⟨v, st₀, t, T', L, h0, X', hL, e1, e2, ⟨hv, ⟨us, hP1, hD1⟩, hts, hz, hk⟩, go⟩ := run T hT X
  cases hv
  rw [h0] at hz hk
  have hal : Γ.2.2.2.2.1.vm.Alike t.vm := by rw [← e2]; exact X'.warmed.alike
  obtain ⟨t2, a1, b1⟩ := w us T'.heap (locs ++ L) (by rw [e1]; exact hP1) hD1 (fun x hx => (hts x hx).moved hal.symm)
    ⟨Nat.le_trans hS.1 (by rw [e1]; exact hz), fun q h1 h2 => by rw [e1, hk q (Nat.lt_of_lt_of_le h1 hS.1) h2]; exact hS.2.1 q h1 h2, fun q hq => by
      rcases List.mem_append.mp hq with h | h
      · exact hS.2.2 q h
      · exact hL q h⟩ T' rfl X'
  exact ⟨t2, go t2 a1, b1⟩
set_option maxRecDepth 20000 in
set_option maxHeartbeats 8000000 in
theorem repC_of {D : va_G} {A : Nat → Prop} {ca : Nat → ClassId} {ta : Nat → Nat} {fa : Nat → Nat} {h0 g0 : Nat} {us1 us2 : List Nat} {H : Heap} (hP : WP D (FMw (D, fa, A, ca, ta) g0 (FCw (D, fa, A, ca, ta) h0 us1) us2) H) (hD : WD A (FMw (D, fa, A, ca, ta) g0 (FCw (D, fa, A, ca, ta) h0 us1) us2)) : Rep LC (D, facL h0 us1, A, ca, ta) ad0 N0 σ0 H := by
  refine rep_of posC hP hD (fun j hj => ?_) (by decide +kernel) (fun _ _ _ => rfl)
  have hj : j < 41 := hj
  rcases (show j = 0 ∨ j = 1 ∨ j = 2 ∨ j = 3 ∨ j = 4 ∨ j = 5 ∨ j = 6 ∨ j = 7 ∨ j = 8 ∨ j = 9 ∨ j = 10 ∨ j = 11 ∨ j = 12 ∨ j = 13 ∨ j = 14 ∨ j = 15 ∨ j = 16 ∨ j = 17 ∨ j = 18 ∨ j = 19 ∨ j = 20 ∨ j = 21 ∨ j = 22 ∨ j = 23 ∨ j = 24 ∨ j = 25 ∨ j = 26 ∨ j = 27 ∨ j = 28 ∨ j = 29 ∨ j = 30 ∨ j = 31 ∨ j = 32 ∨ j = 33 ∨ j = 34 ∨ j = 35 ∨ j = 36 ∨ j = 37 ∨ j = 38 ∨ j = 39 ∨ j = 40 by omega) with rfl | rfl | rfl | rfl | rfl | rfl | rfl | rfl | rfl | rfl | rfl | rfl | rfl | rfl | rfl | rfl | rfl | rfl | rfl | rfl | rfl | rfl | rfl | rfl | rfl | rfl | rfl | rfl | rfl | rfl | rfl | rfl | rfl | rfl | rfl | rfl | rfl | rfl | rfl | rfl | rfl <;> rfl
set_option maxRecDepth 20000 in
set_option maxHeartbeats 8000000 in
theorem repM_of {D : va_G} {A : Nat → Prop} {ca : Nat → ClassId} {ta : Nat → Nat} {fa : Nat → Nat} {h0 g0 : Nat} {us1 us2 : List Nat} {H : Heap} (hP : WP D (FMw (D, fa, A, ca, ta) g0 (FCw (D, fa, A, ca, ta) h0 us1) us2) H) (hD : WD A (FMw (D, fa, A, ca, ta) g0 (FCw (D, fa, A, ca, ta) h0 us1) us2)) : Rep LM (D, famL g0 us2, A, ca, ta) ad0 N0 τ0 H := by
  refine rep_of posM hP hD (fun j hj => ?_) (by decide +kernel) (fun _ _ _ => rfl)
  have hj : j < 46 := hj
  rcases (show j = 0 ∨ j = 1 ∨ j = 2 ∨ j = 3 ∨ j = 4 ∨ j = 5 ∨ j = 6 ∨ j = 7 ∨ j = 8 ∨ j = 9 ∨ j = 10 ∨ j = 11 ∨ j = 12 ∨ j = 13 ∨ j = 14 ∨ j = 15 ∨ j = 16 ∨ j = 17 ∨ j = 18 ∨ j = 19 ∨ j = 20 ∨ j = 21 ∨ j = 22 ∨ j = 23 ∨ j = 24 ∨ j = 25 ∨ j = 26 ∨ j = 27 ∨ j = 28 ∨ j = 29 ∨ j = 30 ∨ j = 31 ∨ j = 32 ∨ j = 33 ∨ j = 34 ∨ j = 35 ∨ j = 36 ∨ j = 37 ∨ j = 38 ∨ j = 39 ∨ j = 40 ∨ j = 41 ∨ j = 42 ∨ j = 43 ∨ j = 44 ∨ j = 45 by omega) with rfl | rfl | rfl | rfl | rfl | rfl | rfl | rfl | rfl | rfl | rfl | rfl | rfl | rfl | rfl | rfl | rfl | rfl | rfl | rfl | rfl | rfl | rfl | rfl | rfl | rfl | rfl | rfl | rfl | rfl | rfl | rfl | rfl | rfl | rfl | rfl | rfl | rfl | rfl | rfl | rfl | rfl | rfl | rfl | rfl | rfl <;> rfl
set_option maxRecDepth 20000 in
set_option maxHeartbeats 8000000 in
theorem apart_of {D : va_G} {A : Nat → Prop} {ca : Nat → ClassId} {ta : Nat → Nat} {fa : Nat → Nat} {h0 g0 : Nat} {us1 us2 : List Nat} (hD : WD A (FMw (D, fa, A, ca, ta) g0 (FCw (D, fa, A, ca, ta) h0 us1) us2)) : ∀ j, j < 41 → ∀ j', j' < 46 → facL h0 us1 j ≠ famL g0 us2 j' := by
  have hn := hD.1
  have hc : ∀ j, j < 41 → ((FMw (D, fa, A, ca, ta) g0 (FCw (D, fa, A, ca, ta) h0 us1) us2).map Prod.fst)[posC.getD j 0]? = some (facL h0 us1 j) := by
    intro j hj
    rcases (show j = 0 ∨ j = 1 ∨ j = 2 ∨ j = 3 ∨ j = 4 ∨ j = 5 ∨ j = 6 ∨ j = 7 ∨ j = 8 ∨ j = 9 ∨ j = 10 ∨ j = 11 ∨ j = 12 ∨ j = 13 ∨ j = 14 ∨ j = 15 ∨ j = 16 ∨ j = 17 ∨ j = 18 ∨ j = 19 ∨ j = 20 ∨ j = 21 ∨ j = 22 ∨ j = 23 ∨ j = 24 ∨ j = 25 ∨ j = 26 ∨ j = 27 ∨ j = 28 ∨ j = 29 ∨ j = 30 ∨ j = 31 ∨ j = 32 ∨ j = 33 ∨ j = 34 ∨ j = 35 ∨ j = 36 ∨ j = 37 ∨ j = 38 ∨ j = 39 ∨ j = 40 by omega) with rfl | rfl | rfl | rfl | rfl | rfl | rfl | rfl | rfl | rfl | rfl | rfl | rfl | rfl | rfl | rfl | rfl | rfl | rfl | rfl | rfl | rfl | rfl | rfl | rfl | rfl | rfl | rfl | rfl | rfl | rfl | rfl | rfl | rfl | rfl | rfl | rfl | rfl | rfl | rfl | rfl <;> rfl
  have hm : ∀ j, j < 46 → ((FMw (D, fa, A, ca, ta) g0 (FCw (D, fa, A, ca, ta) h0 us1) us2).map Prod.fst)[posM.getD j 0]? = some (famL g0 us2 j) := by
    intro j hj
    rcases (show j = 0 ∨ j = 1 ∨ j = 2 ∨ j = 3 ∨ j = 4 ∨ j = 5 ∨ j = 6 ∨ j = 7 ∨ j = 8 ∨ j = 9 ∨ j = 10 ∨ j = 11 ∨ j = 12 ∨ j = 13 ∨ j = 14 ∨ j = 15 ∨ j = 16 ∨ j = 17 ∨ j = 18 ∨ j = 19 ∨ j = 20 ∨ j = 21 ∨ j = 22 ∨ j = 23 ∨ j = 24 ∨ j = 25 ∨ j = 26 ∨ j = 27 ∨ j = 28 ∨ j = 29 ∨ j = 30 ∨ j = 31 ∨ j = 32 ∨ j = 33 ∨ j = 34 ∨ j = 35 ∨ j = 36 ∨ j = 37 ∨ j = 38 ∨ j = 39 ∨ j = 40 ∨ j = 41 ∨ j = 42 ∨ j = 43 ∨ j = 44 ∨ j = 45 by omega) with rfl | rfl | rfl | rfl | rfl | rfl | rfl | rfl | rfl | rfl | rfl | rfl | rfl | rfl | rfl | rfl | rfl | rfl | rfl | rfl | rfl | rfl | rfl | rfl | rfl | rfl | rfl | rfl | rfl | rfl | rfl | rfl | rfl | rfl | rfl | rfl | rfl | rfl | rfl | rfl | rfl | rfl | rfl | rfl | rfl | rfl <;> rfl
  intro j hj j' hj' e
  have e1 := hc j hj
  have e2 := hm j' hj'
  rw [e, ← e2] at e1
  have e3 := (List.getElem?_inj (List.getElem?_eq_some_iff.mp (hc j hj)).1 hn).mp e1
  have e4 : ∀ j, j < 41 → ∀ j', j' < 46 → posC.getD j 0 ≠ posM.getD j' 0 := by decide +kernel
  exact e4 j hj j' hj' e3
set_option maxRecDepth 20000 in
set_option maxHeartbeats 8000000 in
/-- THE LAW, from its entry, out of what level 2 gives -/
theorem whole_open {p : Program} {e : Env} {s : State} {m : MethodId} {below : List Frame} {meth : Method} {c : Code} (l : Launch) {b L : Nat} {xs : Nat → Int32} (hL : L ≤ 3584) (C0 : lw_At p s m meth c b L xs) {Inv : St → St → (Nat → Nat) → Prop} (SS : Sims Inv) (hI : Inv σ0 τ0 N0) : W p l e room_1 s m #[Value.ref b] below meth c s.heap [] 0 0 (lw_Z below #[Value.ref b] s) (entryFrame m ([Value.ref b] : List Value).toArray 4) := by
  obtain ⟨hx, hb, hr, hml, hown, hts0, hX, hbl, hlocks, hgv⟩ := id C0
  have hts : ∀ w ∈ wt, w.before #[Value.ref b] s = true := fun w hw => hts0 w (List.mem_filter.mp hw).1
  obtain ⟨D, hK⟩ := law_K hts
  obtain ⟨t0, z0, y0⟩ := law_s0 hts (hts0 _ (List.mem_of_getElem? (i := 507) (by decide +kernel))) hgv
  obtain ⟨t1, z1, y1⟩ := law_s1 hts (hts0 _ (List.mem_of_getElem? (i := 509) (by decide +kernel))) hgv
  obtain ⟨t2, z2, y2⟩ := law_s2 hts (hts0 _ (List.mem_of_getElem? (i := 1081) (by decide +kernel))) hgv
  obtain ⟨t3, z3, y3⟩ := law_s3 hts (hts0 _ (List.mem_of_getElem? (i := 1086) (by decide +kernel))) hgv
  obtain ⟨ta, hta⟩ : ∃ ta : Nat → Nat, ta = fun i => match i with | 0 => t0 | 1 => t1 | 2 => t2 | _ => t3 := ⟨_, rfl⟩
  obtain ⟨ca, hca⟩ : ∃ ca : Nat → ClassId, ca = fun t => (s.vm.findClass ("[" ++ (aty t).toString)).getD 0 := ⟨_, rfl⟩
  obtain ⟨A, hA⟩ : ∃ A : Nat → Prop, A = fun q => s.heap.size ≤ q := ⟨_, rfl⟩
  have hSF : ∀ fa : Nat → Nat, SF (D, fa, A, ca, ta) s s.heap := by
    intro fa i hi
    rw [hta, hA]
    match i, hi with
    | 0, _ => exact ⟨z0, y0⟩
    | 1, _ => exact ⟨z1, y1⟩
    | 2, _ => exact ⟨z2, y2⟩
    | 3, _ => exact ⟨z3, y3⟩
  have hNW : NW s := law_NW hts0
  have hCA : CAs (D, (fun _ => 0), A, ca, ta) s := fun t cA e => by
    show cA = ca t
    rw [hca]
    simp only [e, Option.getD_some]
  have ho1 : va_AO RX7 s := va_AO.of (hts0 _ (List.mem_of_getElem? (i := 112) (by decide +kernel)))
  have ho2 : va_AO RX5 s := va_AO.of (hts0 _ (List.mem_of_getElem? (i := 114) (by decide +kernel)))
  have ho3 : va_AO RX10 s := va_AO.of (hts0 _ (List.mem_of_getElem? (i := 116) (by decide +kernel)))
  have hAa : ∀ q : Nat, s.heap.size ≤ q → A q := fun q h => by rw [hA]; exact h
  have hS : va_S A s.heap s.heap [] := va_S.rf
  have hl := lv_entry ([.ref b]) (n := 4) (Nat.le_of_ble_eq_true rfl)
  rw [lg_entry_eq]
  generalize (lg_sl ([.ref b]) ++ List.replicate (4 - (lg_sl ([.ref b])).length) Slot.unset).toArray = ls at hl ⊢
  have hl : lv_has ls 4 [(0, .ref b)] := hl
  have hpre : ∀ (ws : va_W) (H : Heap) (locs : List Loc), WP D ws H → WD A ws → va_S A s.heap H locs → ∀ U : State, U.heap = H → s.WarmedH U.vm → PreL (D, (fun _ => 0), A, ca, ta) ws U := fun ws H locs hP hD hS U hU hW =>
    ⟨by rw [hU]; exact hP, hD, va_K.moved hW.alike hK, fun q hq => hAa q (Nat.le_trans hS.1 (by rw [← hU]; exact hq)), hCA.moved hW.alike, hNW.warm hW, ho1.moved hW.alike, ho2.moved hW.alike, ho3.moved hW.alike⟩
  refine va_new (ws := []) (ci := 11) (fs := [.null, .null, .null, .null, .null, .null, .null, .null]) (C := RX11) (T := TX11) (N := 8) hx hb hts uw_X11 tyX11 tyX11_ok hown (hts _ lw_c7) (hts _ ins_X11) (hts _ lw_i11) hK (fun k q h => by simp at h) ⟨fun i j p q h => by simp at h, fun k q h => by simp at h⟩ hS hAa rfl (fun j hj => by rcases (show j = 0 ∨ j = 1 ∨ j = 2 ∨ j = 3 ∨ j = 4 ∨ j = 5 ∨ j = 6 ∨ j = 7 by omega) with rfl | rfl | rfl | rfl | rfl | rfl | rfl | rfl <;> rfl) (Nat.le_of_ble_eq_true rfl) (Nat.le_of_ble_eq_true rfl) dL_law_0 (fun h0 H hP hD hS => ?_)
  refine lv_dup hx hb dL_law_3 rfl ?_
  refine w_ctor (Γ := (p, l, e, room_1, s, m, #[Value.ref b], below, meth, c)) (ω := (D, (fun _ => 0), A, ca, ta)) (st := [.ref h0]) (F := fun us => FCw (D, (fun _ => 0), A, ca, ta) h0 us) (ts := [0, 2, 3, 4]) (mc := 40) (ms := 4684) ?_ hS (fun us1 H1 locs1 hP1 hD1 hT1 hS1 => ?_)
  · exact va_runI (As := []) (rest := [.ref h0]) (n := 0) (rm := { frames := 2, cells := 40, slots := 4684, locals := 33 }) ⟨hx, hb, hml, hown, hts⟩ (k_PE l (D, (fun _ => 0), A, ca, ta) h0 []) ⟨callB_of 0 hts (wt_cons iw_X11_init.1.2.1) rfl rfl rfl (hts _ iw_X11_init.1.1) (hts _ lw_m9) iw_X11_init.1.2.2 ⟨Nat.le_of_ble_eq_true rfl, Nat.le_of_ble_eq_true rfl⟩, rfl, hts _ iw_X11_init.2⟩
      ⟨PreL.blind, fun U hU hW => ⟨rfl, hpre _ _ _ (WP.of hP) (WD.of hD) hS U hU hW⟩⟩ rfl rfl hl.1 rfl (lv_room (Nat.le_of_ble_eq_true rfl)) dL_law_4 ⟨Nat.le_of_ble_eq_true rfl, Nat.le_of_ble_eq_true rfl⟩
  refine lv_astore_n (lv' := [(1, .ref h0), (0, .ref b)]) hx hb dL_law_7 rfl hl (by decide) rfl (fun ls hl => ?_)
  refine va_new (ws := FCw (D, (fun _ => 0), A, ca, ta) h0 us1) (ci := 12) (fs := [.int 0, .int 0, .null, .null, .int 0, .null, .null, .null, .null, .null, .null, .int 0, .null, .null, .null, .null, .null, .null, .null, .null, .int 0, .int 0, .int 0, .null, .null, .int 0, .null, .null, .null, .null, .int 0, .null, .null, .null, .null, .null, .null, .null, .int 0, .null, .int 0, .int 0, .int 0, .int 0, .int 0, .int 0, .null, .null, .null, .null, .null, .int 0, .int 0, .int 0, .null, .null, .int 0, .null, .null, .int 0, .null, .null, .null, .null, .null, .null]) (C := RX12) (T := TX12) (N := 66) hx hb hts uw_X12 tyX12 tyX12_ok hown (hts _ lw_c10) (hts _ ins_X12) (hts _ lw_i12) hK hP1.to hD1.to hS1 hAa rfl (fun j hj => by rcases (show j = 0 ∨ j = 1 ∨ j = 2 ∨ j = 3 ∨ j = 4 ∨ j = 5 ∨ j = 6 ∨ j = 7 ∨ j = 8 ∨ j = 9 ∨ j = 10 ∨ j = 11 ∨ j = 12 ∨ j = 13 ∨ j = 14 ∨ j = 15 ∨ j = 16 ∨ j = 17 ∨ j = 18 ∨ j = 19 ∨ j = 20 ∨ j = 21 ∨ j = 22 ∨ j = 23 ∨ j = 24 ∨ j = 25 ∨ j = 26 ∨ j = 27 ∨ j = 28 ∨ j = 29 ∨ j = 30 ∨ j = 31 ∨ j = 32 ∨ j = 33 ∨ j = 34 ∨ j = 35 ∨ j = 36 ∨ j = 37 ∨ j = 38 ∨ j = 39 ∨ j = 40 ∨ j = 41 ∨ j = 42 ∨ j = 43 ∨ j = 44 ∨ j = 45 ∨ j = 46 ∨ j = 47 ∨ j = 48 ∨ j = 49 ∨ j = 50 ∨ j = 51 ∨ j = 52 ∨ j = 53 ∨ j = 54 ∨ j = 55 ∨ j = 56 ∨ j = 57 ∨ j = 58 ∨ j = 59 ∨ j = 60 ∨ j = 61 ∨ j = 62 ∨ j = 63 ∨ j = 64 ∨ j = 65 by omega) with rfl | rfl | rfl | rfl | rfl | rfl | rfl | rfl | rfl | rfl | rfl | rfl | rfl | rfl | rfl | rfl | rfl | rfl | rfl | rfl | rfl | rfl | rfl | rfl | rfl | rfl | rfl | rfl | rfl | rfl | rfl | rfl | rfl | rfl | rfl | rfl | rfl | rfl | rfl | rfl | rfl | rfl | rfl | rfl | rfl | rfl | rfl | rfl | rfl | rfl | rfl | rfl | rfl | rfl | rfl | rfl | rfl | rfl | rfl | rfl | rfl | rfl | rfl | rfl | rfl | rfl <;> rfl) (Nat.le_of_ble_eq_true rfl) (Nat.le_of_ble_eq_true rfl) dL_law_8 (fun g0 H hP hD hS => ?_)
  refine lv_dup hx hb dL_law_11 rfl ?_
  refine w_ctor (Γ := (p, l, e, room_1, s, m, #[Value.ref b], below, meth, c)) (ω := (D, (fun _ => 0), A, ca, ta)) (st := [.ref g0]) (F := fun us => FMw (D, (fun _ => 0), A, ca, ta) g0 (FCw (D, (fun _ => 0), A, ca, ta) h0 us1) us) (ts := [0, 1]) (mc := 45) (ms := 5566) ?_ hS (fun us2 H2 locs2 hP2 hD2 hT2 hS2 => ?_)
  · exact va_runI (As := []) (rest := [.ref g0]) (n := 0) (rm := { frames := 1, cells := 45, slots := 5566, locals := 12 }) ⟨hx, hb, hml, hown, hts⟩ (k_Model l (D, (fun _ => 0), A, ca, ta) g0 (FCw (D, (fun _ => 0), A, ca, ta) h0 us1)) ⟨callB_of 0 hts (wt_cons iw_X12_init.1.2.1) rfl rfl rfl (hts _ iw_X12_init.1.1) (hts _ lw_m12) iw_X12_init.1.2.2 ⟨Nat.le_of_ble_eq_true rfl, Nat.le_of_ble_eq_true rfl⟩, rfl, hts _ iw_X12_init.2⟩
      ⟨PreL.blind, fun U hU hW => ⟨rfl, hpre _ _ _ ((WP.of hP).perm (List.perm_append_singleton _ _)) ((WD.of hD).perm (List.perm_append_singleton _ _)) hS U hU hW⟩⟩ rfl rfl hl.1 rfl (lv_room (Nat.le_of_ble_eq_true rfl)) dL_law_12 ⟨Nat.le_of_ble_eq_true rfl, Nat.le_of_ble_eq_true rfl⟩
  refine lv_astore_n (lv' := [(2, .ref g0), (1, .ref h0), (0, .ref b)]) hx hb dL_law_15 rfl hl (by decide) rfl (fun ls hl => ?_)
  refine lv_iconst (v := 0) hx hb dL_law_16 (by decide) ?_
  refine lv_istore_n (lv' := [(3, .int 0), (2, .ref g0), (1, .ref h0), (0, .ref b)]) hx hb dL_law_17 rfl hl (by decide) rfl (fun ls hl => ?_)
  have hKt : va_K D vwCl (tys (D, facL h0 us1, A, ca, ta)) s := by
    refine ⟨hK.1, fun j q hq => ?_⟩
    have a0 := hT1 0 (by decide)
    have a1 := hT2 1 (by decide)
    have a2 := hT1 2 (by decide)
    have a3 := hT1 3 (by decide)
    have a4 := hT1 4 (by decide)
    match j, hq with
    | 0, hq => cases hq; exact a0
    | 1, hq => cases hq; exact a1
    | 2, hq => cases hq; exact a2
    | 3, hq => cases hq; exact a3
    | 4, hq => cases hq; exact a4
    | j + 5, hq => simp [tys] at hq
  have X : LX (p, l, e, room_1, s, m, #[Value.ref b], below, meth, c) b L xs (D, facL h0 us1, A, ca, ta) (D, famL g0 us2, A, ca, ta) :=
    ⟨hx, hb, hml, hown, hts, hX, hbl, hKt, hSF _, hNW, rfl, hA, rfl, rfl, rfl⟩
  have hJ : JJ (D, facL h0 us1, A, ca, ta) (D, famL g0 us2, A, ca, ta) σ0 τ0 ad0 N0 H2 := by
    refine ⟨repC_of hP2 hD2, repM_of hP2 hD2, fun d j hm j' hj' => ?_⟩
    rcases hm with ⟨rfl, hj⟩ | ⟨-, -, h⟩
    · exact apart_of hD2 j hj j' hj'
    · exact absurd h (Nat.not_lt_zero _)
  exact law_loop hr hlocks hL X SS (L + 1) 0 _ _ σ0 τ0 ad0 N0 (by omega) (by omega) (by decide) (by decide) hI H2 ls locs2 (lv_sub hl [3, 2, 1, 0] rfl) hJ hS2
