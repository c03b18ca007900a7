/-! ===== the law from its entry ===== -/
def σ0 : St := (fun d j => match d, j with
  | 0, 13 => (upd (upd (upd (upd (fun _ => 0) (Int32.toNatClampNeg (0 : Int32)) (4 : Int32)) (Int32.toNatClampNeg (1 : Int32)) (3 : Int32)) (Int32.toNatClampNeg (2 : Int32)) (2 : Int32)) (Int32.toNatClampNeg (3 : Int32)) (1 : Int32))
  | 0, 14 => (upd (upd (upd (fun _ => 0) (Int32.toNatClampNeg (0 : Int32)) (1 : Int32)) (Int32.toNatClampNeg (1 : Int32)) (0 : Int32)) (Int32.toNatClampNeg (2 : Int32)) (600 : Int32))
  | _, _ => fun _ => 0, fun _ _ _ => none)
def τ0 : St := (fun d j => match d, j with
  | 0, 0 => upd (upd (fun _ => 0) 20 1) 22 600
  | 0, 17 => (upd (upd (upd (upd (fun _ => 0) (Int32.toNatClampNeg (0 : Int32)) (4 : Int32)) (Int32.toNatClampNeg (1 : Int32)) (3 : Int32)) (Int32.toNatClampNeg (2 : Int32)) (2 : Int32)) (Int32.toNatClampNeg (3 : Int32)) (1 : Int32))
  | _, _ => fun _ => 0, fun _ _ _ => none)
def posC : List Nat := [1, 2, 9, 13, 18, 23, 26, 32, 41, 3, 4, 5, 6, 7, 8, 10, 11, 12, 14, 15, 16, 17, 19, 20, 21, 22, 24, 25, 27, 28, 29, 30, 31, 33, 34, 35, 36, 37, 38, 39, 40]
def posM : List Nat := [0, 42, 43, 44, 45, 46, 47, 48, 49, 50, 51, 52, 53, 54, 55, 56, 57, 58, 59, 60, 61, 62, 63, 64, 65, 66, 67, 68, 69, 70, 71, 72, 73, 74, 75, 76, 77, 78, 79, 80, 81, 82, 83, 84, 85, 86]
def facL (h0 : Nat) (us1 : List Nat) : Nat → Nat := fun j => [h0, us1.getD 0 0, us1.getD 7 0, us1.getD 11 0, us1.getD 16 0, us1.getD 21 0, us1.getD 24 0, us1.getD 30 0, us1.getD 39 0, us1.getD 1 0, us1.getD 2 0, us1.getD 3 0, us1.getD 4 0, us1.getD 5 0, us1.getD 6 0, us1.getD 8 0, us1.getD 9 0, us1.getD 10 0, us1.getD 12 0, us1.getD 13 0, us1.getD 14 0, us1.getD 15 0, us1.getD 17 0, us1.getD 18 0, us1.getD 19 0, us1.getD 20 0, us1.getD 22 0, us1.getD 23 0, us1.getD 25 0, us1.getD 26 0, us1.getD 27 0, us1.getD 28 0, us1.getD 29 0, us1.getD 31 0, us1.getD 32 0, us1.getD 33 0, us1.getD 34 0, us1.getD 35 0, us1.getD 36 0, us1.getD 37 0, us1.getD 38 0].getD j 0
def famL (g0 : Nat) (us2 : List Nat) : Nat → Nat := fun j => [g0, us2.getD 0 0, us2.getD 1 0, us2.getD 2 0, us2.getD 3 0, us2.getD 4 0, us2.getD 5 0, us2.getD 6 0, us2.getD 7 0, us2.getD 8 0, us2.getD 9 0, us2.getD 10 0, us2.getD 11 0, us2.getD 12 0, us2.getD 13 0, us2.getD 14 0, us2.getD 15 0, us2.getD 16 0, us2.getD 17 0, us2.getD 18 0, us2.getD 19 0, us2.getD 20 0, us2.getD 21 0, us2.getD 22 0, us2.getD 23 0, us2.getD 24 0, us2.getD 25 0, us2.getD 26 0, us2.getD 27 0, us2.getD 28 0, us2.getD 29 0, us2.getD 30 0, us2.getD 31 0, us2.getD 32 0, us2.getD 33 0, us2.getD 34 0, us2.getD 35 0, us2.getD 36 0, us2.getD 37 0, us2.getD 38 0, us2.getD 39 0, us2.getD 40 0, us2.getD 41 0, us2.getD 42 0, us2.getD 43 0, us2.getD 44 0].getD j 0
theorem rep_of {Λ : Ly} {ω : Wd} {ws : va_W} {H : Heap} {σ : St} (pos : List Nat) (hP : WP ω.1 ws H) (hD : WD ω.2.2.1 ws) (hget : ∀ j, j < Λ.1 → ws[pos.getD j 0]? = some (ω.2.1 j, cel ω ad0 σ 0 j (Λ.2 0 j))) (hinj : ∀ i, i < Λ.1 → ∀ j, j < Λ.1 → pos.getD i 0 = pos.getD j 0 → i = j) (hn : ∀ d j k, σ.2 d j k = none) : Rep Λ ω ad0 N0 σ H := by
  have h0 : ∀ d j, dm Λ N0 d j → d = 0 ∧ j < Λ.1 := by
    intro d j h
    rcases h with h | ⟨-, -, h⟩
    · exact h
    · exact absurd h (Nat.not_lt_zero _)
  refine ⟨fun d j hm => ?_, fun d j d' j' hm hm' e => ?_, fun d j hm => ?_, fun d j hm => ?_⟩
  · obtain ⟨rfl, hj⟩ := h0 d j hm
    exact hP.to _ _ (hget j hj)
  · obtain ⟨rfl, hj⟩ := h0 d j hm
    obtain ⟨rfl, hj'⟩ := h0 d' j' hm'
    exact ⟨rfl, hinj j hj j' hj' (hD.to.1 _ _ _ _ (hget j hj) (hget j' hj') e)⟩
  · obtain ⟨rfl, hj⟩ := h0 d j hm
    exact hD.to.2 _ _ (hget j hj)
  · generalize Λ.2 d j = sh
    match sh with
    | .inl (_, _) => intro k t z _ q hq; rw [hn] at hq; cases hq
    | .inr (0, _) => trivial
    | .inr (1, _) => trivial
    | .inr (t + 2, n) => intro i _ q hq; rw [hn] at hq; cases hq
theorem ins_X0 : Cond.instantiable RX0 4 ∈ wt := in_wt 281 (by decide +kernel) (by decide +kernel)
theorem ins_X1 : Cond.instantiable RX1 13 ∈ wt := in_wt 232 (by decide +kernel) (by decide +kernel)
theorem ins_X2 : Cond.instantiable RX2 13 ∈ wt := in_wt 336 (by decide +kernel) (by decide +kernel)
theorem ins_X3 : Cond.instantiable RX3 12 ∈ wt := in_wt 106 (by decide +kernel) (by decide +kernel)
theorem ins_X4 : Cond.instantiable RX4 8 ∈ wt := in_wt 302 (by decide +kernel) (by decide +kernel)
theorem ins_X5 : Cond.instantiable RX5 11 ∈ wt := in_wt 520 (by decide +kernel) (by decide +kernel)
theorem ins_X6 : Cond.instantiable RX6 7 ∈ wt := in_wt 172 (by decide +kernel) (by decide +kernel)
theorem ins_X7 : Cond.instantiable RX7 8 ∈ wt := in_wt 433 (by decide +kernel) (by decide +kernel)
theorem ins_X8 : Cond.instantiable RX8 6 ∈ wt := in_wt 206 (by decide +kernel) (by decide +kernel)
theorem ins_X9 : Cond.instantiable RX9 3 ∈ wt := in_wt 681 (by decide +kernel) (by decide +kernel)
theorem ins_X10 : Cond.instantiable RX10 7 ∈ wt := in_wt 627 (by decide +kernel) (by decide +kernel)
theorem ins_X11 : Cond.instantiable RX11 8 ∈ wt := in_wt 98 (by decide +kernel) (by decide +kernel)
theorem ins_X12 : Cond.instantiable RX12 66 ∈ wt := in_wt 1229 (by decide +kernel) (by decide +kernel)
theorem law_K {args : Array Value} {s : State} (hts : ∀ w ∈ wt, w.before args s = true) : ∃ (D : va_G), va_K D vwCl [] s := by
  obtain ⟨c0, i0, k0⟩ := u_known (C := RX0) (T := TX0) (N := 4) (n := 4) hts uw_X0 (hts _ ins_X0)
  obtain ⟨c1, i1, k1⟩ := u_known (C := RX1) (T := TX1) (N := 13) (n := 13) hts uw_X1 (hts _ ins_X1)
  obtain ⟨c2, i2, k2⟩ := u_known (C := RX2) (T := TX2) (N := 13) (n := 13) hts uw_X2 (hts _ ins_X2)
  obtain ⟨c3, i3, k3⟩ := u_known (C := RX3) (T := TX3) (N := 12) (n := 12) hts uw_X3 (hts _ ins_X3)
  obtain ⟨c4, i4, k4⟩ := u_known (C := RX4) (T := TX4) (N := 8) (n := 8) hts uw_X4 (hts _ ins_X4)
  obtain ⟨c5, i5, k5⟩ := u_known (C := RX5) (T := TX5) (N := 11) (n := 11) hts uw_X5 (hts _ ins_X5)
  obtain ⟨c6, i6, k6⟩ := u_known (C := RX6) (T := TX6) (N := 7) (n := 7) hts uw_X6 (hts _ ins_X6)
  obtain ⟨c7, i7, k7⟩ := u_known (C := RX7) (T := TX7) (N := 8) (n := 8) hts uw_X7 (hts _ ins_X7)
  obtain ⟨c8, i8, k8⟩ := u_known (C := RX8) (T := TX8) (N := 6) (n := 6) hts uw_X8 (hts _ ins_X8)
  obtain ⟨c9, i9, k9⟩ := u_known (C := RX9) (T := TX9) (N := 3) (n := 3) hts uw_X9 (hts _ ins_X9)
  obtain ⟨c10, i10, k10⟩ := u_known (C := RX10) (T := TX10) (N := 7) (n := 7) hts uw_X10 (hts _ ins_X10)
  obtain ⟨c11, i11, k11⟩ := u_known (C := RX11) (T := TX11) (N := 8) (n := 8) hts uw_X11 (hts _ ins_X11)
  obtain ⟨c12, i12, k12⟩ := u_known (C := RX12) (T := TX12) (N := 66) (n := 66) hts uw_X12 (hts _ ins_X12)
  refine ⟨(fun k => if k = 0 then c0 else if k = 1 then c1 else if k = 2 then c2 else if k = 3 then c3 else if k = 4 then c4 else if k = 5 then c5 else if k = 6 then c6 else if k = 7 then c7 else if k = 8 then c8 else if k = 9 then c9 else if k = 10 then c10 else if k = 11 then c11 else c12, fun k => if k = 0 then i0 else if k = 1 then i1 else if k = 2 then i2 else if k = 3 then i3 else if k = 4 then i4 else if k = 5 then i5 else if k = 6 then i6 else if k = 7 then i7 else if k = 8 then i8 else if k = 9 then i9 else if k = 10 then i10 else if k = 11 then i11 else i12), ?_, fun k q h => by simp at h⟩
  intro k q hq
  match k, hq with
  | 0, hq => cases hq; exact k0
  | 1, hq => cases hq; exact k1
  | 2, hq => cases hq; exact k2
  | 3, hq => cases hq; exact k3
  | 4, hq => cases hq; exact k4
  | 5, hq => cases hq; exact k5
  | 6, hq => cases hq; exact k6
  | 7, hq => cases hq; exact k7
  | 8, hq => cases hq; exact k8
  | 9, hq => cases hq; exact k9
  | 10, hq => cases hq; exact k10
  | 11, hq => cases hq; exact k11
  | 12, hq => cases hq; exact k12
  | k + 13, hq => simp [vwCl] at hq
theorem law_ne {A : Nat → Prop} {s : State} (hA : A = fun q => s.heap.size ≤ q) : ∀ a : Nat, a < s.heap.size → ¬ A a := fun a h => by rw [hA]; exact Nat.not_le.mpr h
theorem law_s0 {args : Array Value} {s : State} (hts : ∀ w ∈ wt, w.before args s = true) (hl : (Cond.laysStatic "PostsEnd" "LEAST_SETTING" "[I").before args s = true) (hg : (Jvm.Cond.and given_1 narrow_1).before args s = true) : ∃ t : Nat, va_Z "PostsEnd" (snm 0) "[I" (.ref t) (fun q => s.heap.size ≤ q) s s.heap ∧ va_T .int t 3 (fun j => .int (scon 0 j)) (fun q => s.heap.size ≤ q) s s.heap := by
  have hf := flat_of_before _ hg
  have hne : ∀ a : Nat, a < s.heap.size → ¬ (fun q => s.heap.size ≤ q) a := fun a h => Nat.not_le.mpr h
  have hel : ∀ j : Nat, j < 3 → (Term.elem (.static "PostsEnd" "LEAST_SETTING" "[I") (.int (Int32.ofNat j))).eval args s none [] s = some (.int (scon 0 j)) := by
    intro j hj
    rcases (show j = 0 ∨ j = 1 ∨ j = 2 by omega) with rfl | rfl | rfl
    · exact va_eqt (hf (.eq (.elem (.static "PostsEnd" "LEAST_SETTING" "[I") (.int 0)) (.int 0)) (by decide +kernel))
    · exact va_eqt (hf (.eq (.elem (.static "PostsEnd" "LEAST_SETTING" "[I") (.int 1)) (.int 0)) (by decide +kernel))
    · exact va_eqt (hf (.eq (.elem (.static "PostsEnd" "LEAST_SETTING" "[I") (.int 2)) (.int 100)) (by decide +kernel))
  obtain ⟨t, ht, hT⟩ := va_Tof (tm := .static "PostsEnd" "LEAST_SETTING" "[I") (ty := .int) (N := 3) (f := fun j => .int (scon 0 j)) (by decide) (hf _ (by decide +kernel)) (va_eqt (hf (.eq (.length (.static "PostsEnd" "LEAST_SETTING" "[I")) (.int 3)) (by decide +kernel))) hel hne
  exact ⟨t, va_Zof hl (hts _ (in_wt 80 (by decide +kernel) (by decide +kernel))) ht hne, hT⟩
theorem law_s1 {args : Array Value} {s : State} (hts : ∀ w ∈ wt, w.before args s = true) (hl : (Cond.laysStatic "PostsEnd" "MOST_SETTING" "[I").before args s = true) (hg : (Jvm.Cond.and given_1 narrow_1).before args s = true) : ∃ t : Nat, va_Z "PostsEnd" (snm 1) "[I" (.ref t) (fun q => s.heap.size ≤ q) s s.heap ∧ va_T .int t 3 (fun j => .int (scon 1 j)) (fun q => s.heap.size ≤ q) s s.heap := by
  have hf := flat_of_before _ hg
  have hne : ∀ a : Nat, a < s.heap.size → ¬ (fun q => s.heap.size ≤ q) a := fun a h => Nat.not_le.mpr h
  have hel : ∀ j : Nat, j < 3 → (Term.elem (.static "PostsEnd" "MOST_SETTING" "[I") (.int (Int32.ofNat j))).eval args s none [] s = some (.int (scon 1 j)) := by
    intro j hj
    rcases (show j = 0 ∨ j = 1 ∨ j = 2 by omega) with rfl | rfl | rfl
    · exact va_eqt (hf (.eq (.elem (.static "PostsEnd" "MOST_SETTING" "[I") (.int 0)) (.int 10)) (by decide +kernel))
    · exact va_eqt (hf (.eq (.elem (.static "PostsEnd" "MOST_SETTING" "[I") (.int 1)) (.int 5)) (by decide +kernel))
    · exact va_eqt (hf (.eq (.elem (.static "PostsEnd" "MOST_SETTING" "[I") (.int 2)) (.int 9999)) (by decide +kernel))
  obtain ⟨t, ht, hT⟩ := va_Tof (tm := .static "PostsEnd" "MOST_SETTING" "[I") (ty := .int) (N := 3) (f := fun j => .int (scon 1 j)) (by decide) (hf _ (by decide +kernel)) (va_eqt (hf (.eq (.length (.static "PostsEnd" "MOST_SETTING" "[I")) (.int 3)) (by decide +kernel))) hel hne
  exact ⟨t, va_Zof hl (hts _ (in_wt 80 (by decide +kernel) (by decide +kernel))) ht hne, hT⟩
theorem law_s2 {args : Array Value} {s : State} (hts : ∀ w ∈ wt, w.before args s = true) (hl : (Cond.laysStatic "PostsEnd" "LEAST_OF_BAND" "[I").before args s = true) (hg : (Jvm.Cond.and given_1 narrow_1).before args s = true) : ∃ t : Nat, va_Z "PostsEnd" (snm 2) "[I" (.ref t) (fun q => s.heap.size ≤ q) s s.heap ∧ va_T .int t 3 (fun j => .int (scon 2 j)) (fun q => s.heap.size ≤ q) s s.heap := by
  have hf := flat_of_before _ hg
  have hne : ∀ a : Nat, a < s.heap.size → ¬ (fun q => s.heap.size ≤ q) a := fun a h => Nat.not_le.mpr h
  have hel : ∀ j : Nat, j < 3 → (Term.elem (.static "PostsEnd" "LEAST_OF_BAND" "[I") (.int (Int32.ofNat j))).eval args s none [] s = some (.int (scon 2 j)) := by
    intro j hj
    rcases (show j = 0 ∨ j = 1 ∨ j = 2 by omega) with rfl | rfl | rfl
    · exact va_eqt (hf (.eq (.elem (.static "PostsEnd" "LEAST_OF_BAND" "[I") (.int 0)) (.int 0)) (by decide +kernel))
    · exact va_eqt (hf (.eq (.elem (.static "PostsEnd" "LEAST_OF_BAND" "[I") (.int 1)) (.int 20)) (by decide +kernel))
    · exact va_eqt (hf (.eq (.elem (.static "PostsEnd" "LEAST_OF_BAND" "[I") (.int 2)) (.int 100)) (by decide +kernel))
  obtain ⟨t, ht, hT⟩ := va_Tof (tm := .static "PostsEnd" "LEAST_OF_BAND" "[I") (ty := .int) (N := 3) (f := fun j => .int (scon 2 j)) (by decide) (hf _ (by decide +kernel)) (va_eqt (hf (.eq (.length (.static "PostsEnd" "LEAST_OF_BAND" "[I")) (.int 3)) (by decide +kernel))) hel hne
  exact ⟨t, va_Zof hl (hts _ (in_wt 80 (by decide +kernel) (by decide +kernel))) ht hne, hT⟩
theorem law_s3 {args : Array Value} {s : State} (hts : ∀ w ∈ wt, w.before args s = true) (hl : (Cond.laysStatic "PostsEnd" "NOTICE_OF_BAND" "[I").before args s = true) (hg : (Jvm.Cond.and given_1 narrow_1).before args s = true) : ∃ t : Nat, va_Z "PostsEnd" (snm 3) "[I" (.ref t) (fun q => s.heap.size ≤ q) s s.heap ∧ va_T .int t 3 (fun j => .int (scon 3 j)) (fun q => s.heap.size ≤ q) s s.heap := by
  have hf := flat_of_before _ hg
  have hne : ∀ a : Nat, a < s.heap.size → ¬ (fun q => s.heap.size ≤ q) a := fun a h => Nat.not_le.mpr h
  have hel : ∀ j : Nat, j < 3 → (Term.elem (.static "PostsEnd" "NOTICE_OF_BAND" "[I") (.int (Int32.ofNat j))).eval args s none [] s = some (.int (scon 3 j)) := by
    intro j hj
    rcases (show j = 0 ∨ j = 1 ∨ j = 2 by omega) with rfl | rfl | rfl
    · exact va_eqt (hf (.eq (.elem (.static "PostsEnd" "NOTICE_OF_BAND" "[I") (.int 0)) (.int 7)) (by decide +kernel))
    · exact va_eqt (hf (.eq (.elem (.static "PostsEnd" "NOTICE_OF_BAND" "[I") (.int 1)) (.int 30)) (by decide +kernel))
    · exact va_eqt (hf (.eq (.elem (.static "PostsEnd" "NOTICE_OF_BAND" "[I") (.int 2)) (.int 45)) (by decide +kernel))
  obtain ⟨t, ht, hT⟩ := va_Tof (tm := .static "PostsEnd" "NOTICE_OF_BAND" "[I") (ty := .int) (N := 3) (f := fun j => .int (scon 3 j)) (by decide) (hf _ (by decide +kernel)) (va_eqt (hf (.eq (.length (.static "PostsEnd" "NOTICE_OF_BAND" "[I")) (.int 3)) (by decide +kernel))) hel hne
  exact ⟨t, va_Zof hl (hts _ (in_wt 80 (by decide +kernel) (by decide +kernel))) ht hne, hT⟩
