theorem fa_ltq (a b : Int32) : a < b ↔ a.toInt < b.toInt := Int32.lt_iff_toInt_lt
set_option maxRecDepth 20000 in
set_option maxHeartbeats 4000000 in
/-- the loop's end -/
theorem law_exit {p : Program} {l : Launch} {e : Env} {s : State} {m : MethodId} {below : List Frame} {meth : Method} {c : Code} {b L : Nat} {xs : Nat → Int32} {ω1 ω2 : Wd} (hr : meth.sig.returnType = ret) (hlocks : meth.locks = false) (hL : L ≤ 3584) (X : LX (p, l, e, room_1, s, m, #[Value.ref b], below, meth, c) b L xs ω1 ω2) {i k z : Nat} {σ τ : St} {ad : Nat → Nat → Nat} {N : Nat → Nat} (hi : L < i + 7) (h2 : i ≤ L + 7) (h3 : k ≤ 1000 + i) (h4 : z ≤ 100000 + 11 * i) : WJ (p, l, e, room_1, s, m, #[Value.ref b], below, meth, c) b ω1 ω2 (lw_Z below #[Value.ref b] s) k z 18 (nI i) [] σ τ ad N := by
  intro H ls locs hl hJ hS
  refine lv_iload_n X.hx X.hb dL_law_18 rfl (lv_at hl 3 rfl) ?_
  refine lv_aload_n X.hx X.hb dL_law_19 rfl (lv_at hl 0 rfl) ?_
  refine va_slen X.hx X.hb X.hX X.hbl (by rw [X.hA]; exact Nat.not_le.mpr X.hbl) hS dL_law_20 ?_
  refine lv_bipush (v := 7) X.hx X.hb dL_law_21 (by decide) ?_
  refine lv_isub X.hx X.hb dL_law_23 ?_
  refine lv_icmp_gt (tgt := 1501) X.hx X.hb dL_law_24 (by decide) (fun hgt => ?_) (fun hgt => ?_)
  · refine lv_iconst (v := 1) X.hx X.hb dL_law_1501 (by decide) ?_
    refine va_forget (fun q hq => by have := hS.2.2 q hq; rw [X.hA] at this; exact this) ?_
    refine W.widen (k := 600000) (n := 7302250) (by omega) (by omega) ?_
    exact lw_ret X.hx X.hb hr hlocks dL_law_1502
  · exfalso
    apply hgt
    rw [fa_ltq]
    have e1 : (nI i).toInt = i := nI_toInt (by omega)
    have e2 : (Int32.ofNat L - 7).toInt = (L : Int) - 7 := by
      rw [show (7 : Int32) = nI 7 from rfl]
      exact pk_sub_toInt (by omega) (by omega)
    rw [e1, e2]
    omega
set_option maxRecDepth 20000 in
set_option maxHeartbeats 8000000 in
/-- the law's loop -/
theorem law_loop {p : Program} {l : Launch} {e : Env} {s : State} {m : MethodId} {below : List Frame} {meth : Method} {c : Code} {b L : Nat} {xs : Nat → Int32} {ω1 ω2 : Wd} (hr : meth.sig.returnType = ret) (hlocks : meth.locks = false) (hL : L ≤ 3584) (X : LX (p, l, e, room_1, s, m, #[Value.ref b], below, meth, c) b L xs ω1 ω2) {Inv : St → St → (Nat → Nat) → Prop} (SS : Sims Inv) :
    ∀ (n i k z : Nat) (σ τ : St) (ad : Nat → Nat → Nat) (N : Nat → Nat), L < i + n → i ≤ L + 7 → k ≤ 1000 + i → z ≤ 100000 + 11 * i → Inv σ τ N → WJ (p, l, e, room_1, s, m, #[Value.ref b], below, meth, c) b ω1 ω2 (lw_Z below #[Value.ref b] s) k z 18 (nI i) [] σ τ ad N := by
  intro n
  induction n with
  | zero =>
    intro i k z σ τ ad N h1 h2 h3 h4 hI H ls locs hl hJ hS
    exact law_exit hr hlocks hL X (by omega) h2 h3 h4 H ls locs hl hJ hS
  | succ n ih =>
    intro i k z σ τ ad N h1 h2 h3 h4 hI
    by_cases hi : i + 7 ≤ L
    · have next : ∀ σ' τ' ad' N', Inv σ' τ' N' → WJ (p, l, e, room_1, s, m, #[Value.ref b], below, meth, c) b ω1 ω2 (lw_Z below #[Value.ref b] s) (k + 1) (z + 11) 1495 (nI i) [] σ' τ' ad' N' := by
        intro σ' τ' ad' N' hI' H ls locs hl hJ hS
        refine lv_iinc (v := nI (i + 7)) (lv' := [(3, .int (nI (i + 7))), (0, .ref b), (1, .ref (ω1.2.1 0)), (2, .ref (ω2.2.1 0))]) X.hx X.hb dL_law_1495 hl (k := 3) rfl (by rw [← nI_add]; rfl) (by decide) rfl (fun ls hl => ?_)
        refine lv_goto (tgt := 18) X.hx X.hb dL_law_1498 (by decide) ?_
        exact ih (i + 7) (k + 1) (z + 11) σ' τ' ad' N' (by omega) (by omega) (by omega) (by omega) hI' H ls locs (lv_sub hl [1, 2, 3, 0] rfl) hJ hS
      intro H ls locs hl hJ hS
      refine lv_iload_n X.hx X.hb dL_law_18 rfl (lv_at hl 3 rfl) ?_
      refine lv_aload_n X.hx X.hb dL_law_19 rfl (lv_at hl 0 rfl) ?_
      refine va_slen X.hx X.hb X.hX X.hbl (by rw [X.hA]; exact Nat.not_le.mpr X.hbl) hS dL_law_20 ?_
      refine lv_bipush (v := 7) X.hx X.hb dL_law_21 (by decide) ?_
      refine lv_isub X.hx X.hb dL_law_23 ?_
      refine lv_icmp_gt (tgt := 1501) X.hx X.hb dL_law_24 (by decide) (fun hgt => ?_) (fun hgt => ?_)
      · exfalso
        have e7 : Int32.ofNat L - 7 = nI (L - 7) := by
          rw [show (7 : Int32) = nI 7 from rfl]
          exact pk_sub (by omega)
        rw [e7] at hgt
        rw [nI_ltI (by omega) (by omega)] at hgt
        omega
      · refine lv_aload_n X.hx X.hb dL_law_27 rfl (lv_at hl 0 rfl) ?_
        refine lv_iload_n X.hx X.hb dL_law_28 rfl (lv_at hl 3 rfl) ?_
        refine va_sld X.hx X.hb X.hX X.hbl (by rw [X.hA]; exact Nat.not_le.mpr X.hbl) hS (vp_in_nI (by omega) (by omega)) dL_law_29 ?_
        refine lv_bipush (v := 63) X.hx X.hb dL_law_30 (by decide) ?_
        refine lv_iand X.hx X.hb dL_law_32 ?_
        generalize xs (nI i).toNatClampNeg &&& 63 = v
        obtain ⟨s_days, s_unit, s_post, s_end, s_set, s_person, s_protect, s_move, s_leave, s_weight, s_tell, s_right, s_mark, s_pools, s_poolOf, s_cut, s_volunteer, s_severance, s_choice, s_chosen, s_chain, s_chainOf, s_leaver, s_clear, s_fit, s_offers, s_offered, s_ends, s_notice, s_weeks, s_weekOf, s_turning, s_moved, s_back, s_count⟩ := SS
        by_cases v0 : v = 0
        · rw [v0]
          refine lv_tableIn (tgt := 188) X.hx X.hb dL_law_33 (by decide) (by decide) rfl (by decide) ?_
          exact lc_days X s_days hi (by omega) hI (by omega) (by omega) next H ls locs hl hJ hS
        have v0 := tq_ne v0 (z := 0) (by decide)
        by_cases v1 : v = 1
        · rw [v1]
          refine lv_tableIn (tgt := 211) X.hx X.hb dL_law_33 (by decide) (by decide) rfl (by decide) ?_
          exact lc_unit X s_unit hi (by omega) hI (by omega) (by omega) next H ls locs hl hJ hS
        have v1 := tq_ne v1 (z := 1) (by decide)
        by_cases v2 : v = 2
        · rw [v2]
          refine lv_tableIn (tgt := 244) X.hx X.hb dL_law_33 (by decide) (by decide) rfl (by decide) ?_
          exact lc_post X s_post hi (by omega) hI (by omega) (by omega) next H ls locs hl hJ hS
        have v2 := tq_ne v2 (z := 2) (by decide)
        by_cases v3 : v = 3
        · rw [v3]
          refine lv_tableIn (tgt := 307) X.hx X.hb dL_law_33 (by decide) (by decide) rfl (by decide) ?_
          exact lc_end X s_end hi (by omega) hI (by omega) (by omega) next H ls locs hl hJ hS
        have v3 := tq_ne v3 (z := 3) (by decide)
        by_cases v4 : v = 4
        · rw [v4]
          refine lv_tableIn (tgt := 330) X.hx X.hb dL_law_33 (by decide) (by decide) rfl (by decide) ?_
          exact lc_set X s_set hi (by omega) hI (by omega) (by omega) next H ls locs hl hJ hS
        have v4 := tq_ne v4 (z := 4) (by decide)
        by_cases v5 : v = 5
        · rw [v5]
          refine lv_tableIn (tgt := 363) X.hx X.hb dL_law_33 (by decide) (by decide) rfl (by decide) ?_
          exact lc_person X s_person hi (by omega) hI (by omega) (by omega) next H ls locs hl hJ hS
        have v5 := tq_ne v5 (z := 5) (by decide)
        by_cases v6 : v = 6
        · rw [v6]
          refine lv_tableIn (tgt := 416) X.hx X.hb dL_law_33 (by decide) (by decide) rfl (by decide) ?_
          exact lc_protect X s_protect hi (by omega) hI (by omega) (by omega) next H ls locs hl hJ hS
        have v6 := tq_ne v6 (z := 6) (by decide)
        by_cases v7 : v = 7
        · rw [v7]
          refine lv_tableIn (tgt := 449) X.hx X.hb dL_law_33 (by decide) (by decide) rfl (by decide) ?_
          exact lc_move X s_move hi (by omega) hI (by omega) (by omega) next H ls locs hl hJ hS
        have v7 := tq_ne v7 (z := 7) (by decide)
        by_cases v8 : v = 8
        · rw [v8]
          refine lv_tableIn (tgt := 482) X.hx X.hb dL_law_33 (by decide) (by decide) rfl (by decide) ?_
          exact lc_leave X s_leave hi (by omega) hI (by omega) (by omega) next H ls locs hl hJ hS
        have v8 := tq_ne v8 (z := 8) (by decide)
        by_cases v9 : v = 9
        · rw [v9]
          refine lv_tableIn (tgt := 505) X.hx X.hb dL_law_33 (by decide) (by decide) rfl (by decide) ?_
          exact lc_weight X s_weight hi (by omega) hI (by omega) (by omega) next H ls locs hl hJ hS
        have v9 := tq_ne v9 (z := 9) (by decide)
        by_cases v10 : v = 10
        · rw [v10]
          refine lv_tableIn (tgt := 538) X.hx X.hb dL_law_33 (by decide) (by decide) rfl (by decide) ?_
          exact lc_tell X s_tell hi (by omega) hI (by omega) (by omega) next H ls locs hl hJ hS
        have v10 := tq_ne v10 (z := 10) (by decide)
        by_cases v11 : v = 11
        · rw [v11]
          refine lv_tableIn (tgt := 581) X.hx X.hb dL_law_33 (by decide) (by decide) rfl (by decide) ?_
          exact lc_right X s_right hi (by omega) hI (by omega) (by omega) next H ls locs hl hJ hS
        have v11 := tq_ne v11 (z := 11) (by decide)
        by_cases v12 : v = 12
        · rw [v12]
          refine lv_tableIn (tgt := 614) X.hx X.hb dL_law_33 (by decide) (by decide) rfl (by decide) ?_
          exact lc_mark X s_mark hi (by omega) hI (by omega) (by omega) next H ls locs hl hJ hS
        have v12 := tq_ne v12 (z := 12) (by decide)
        by_cases v13 : v = 13
        · rw [v13]
          refine lv_tableIn (tgt := 657) X.hx X.hb dL_law_33 (by decide) (by decide) rfl (by decide) ?_
          exact lc_pools X s_pools hi (by omega) hI (by omega) (by omega) next H ls locs hl hJ hS
        have v13 := tq_ne v13 (z := 13) (by decide)
        by_cases v14 : v = 14
        · rw [v14]
          refine lv_tableIn (tgt := 680) X.hx X.hb dL_law_33 (by decide) (by decide) rfl (by decide) ?_
          exact lc_poolOf X s_poolOf hi (by omega) hI (by omega) (by omega) next H ls locs hl hJ hS
        have v14 := tq_ne v14 (z := 14) (by decide)
        by_cases v15 : v = 15
        · rw [v15]
          refine lv_tableIn (tgt := 713) X.hx X.hb dL_law_33 (by decide) (by decide) rfl (by decide) ?_
          exact lc_cut X s_cut hi (by omega) hI (by omega) (by omega) next H ls locs hl hJ hS
        have v15 := tq_ne v15 (z := 15) (by decide)
        by_cases v16 : v = 16
        · rw [v16]
          refine lv_tableIn (tgt := 766) X.hx X.hb dL_law_33 (by decide) (by decide) rfl (by decide) ?_
          exact lc_volunteer X s_volunteer hi (by omega) hI (by omega) (by omega) next H ls locs hl hJ hS
        have v16 := tq_ne v16 (z := 16) (by decide)
        by_cases v17 : v = 17
        · rw [v17]
          refine lv_tableIn (tgt := 799) X.hx X.hb dL_law_33 (by decide) (by decide) rfl (by decide) ?_
          exact lc_severance X s_severance hi (by omega) hI (by omega) (by omega) next H ls locs hl hJ hS
        have v17 := tq_ne v17 (z := 17) (by decide)
        by_cases v18 : v = 18
        · rw [v18]
          refine lv_tableIn (tgt := 822) X.hx X.hb dL_law_33 (by decide) (by decide) rfl (by decide) ?_
          exact lc_choice X s_choice hi (by omega) hI (by omega) (by omega) next H ls locs hl hJ hS
        have v18 := tq_ne v18 (z := 18) (by decide)
        by_cases v19 : v = 19
        · rw [v19]
          refine lv_tableIn (tgt := 875) X.hx X.hb dL_law_33 (by decide) (by decide) rfl (by decide) ?_
          exact lc_chosen X s_chosen hi (by omega) hI (by omega) (by omega) next H ls locs hl hJ hS
        have v19 := tq_ne v19 (z := 19) (by decide)
        by_cases v20 : v = 20
        · rw [v20]
          refine lv_tableIn (tgt := 928) X.hx X.hb dL_law_33 (by decide) (by decide) rfl (by decide) ?_
          exact lc_chain X s_chain hi (by omega) hI (by omega) (by omega) next H ls locs hl hJ hS
        have v20 := tq_ne v20 (z := 20) (by decide)
        by_cases v21 : v = 21
        · rw [v21]
          refine lv_tableIn (tgt := 951) X.hx X.hb dL_law_33 (by decide) (by decide) rfl (by decide) ?_
          exact lc_chainOf X s_chainOf hi (by omega) hI (by omega) (by omega) next H ls locs hl hJ hS
        have v21 := tq_ne v21 (z := 21) (by decide)
        by_cases v22 : v = 22
        · rw [v22]
          refine lv_tableIn (tgt := 994) X.hx X.hb dL_law_33 (by decide) (by decide) rfl (by decide) ?_
          exact lc_leaver X s_leaver hi (by omega) hI (by omega) (by omega) next H ls locs hl hJ hS
        have v22 := tq_ne v22 (z := 22) (by decide)
        by_cases v23 : v = 23
        · rw [v23]
          refine lv_tableIn (tgt := 1017) X.hx X.hb dL_law_33 (by decide) (by decide) rfl (by decide) ?_
          exact lc_clear X s_clear hi (by omega) hI (by omega) (by omega) next H ls locs hl hJ hS
        have v23 := tq_ne v23 (z := 23) (by decide)
        by_cases v24 : v = 24
        · rw [v24]
          refine lv_tableIn (tgt := 1030) X.hx X.hb dL_law_33 (by decide) (by decide) rfl (by decide) ?_
          exact lc_fit X s_fit hi (by omega) hI (by omega) (by omega) next H ls locs hl hJ hS
        have v24 := tq_ne v24 (z := 24) (by decide)
        by_cases v25 : v = 25
        · rw [v25]
          refine lv_tableIn (tgt := 1063) X.hx X.hb dL_law_33 (by decide) (by decide) rfl (by decide) ?_
          exact lc_offers X s_offers hi (by omega) hI (by omega) (by omega) next H ls locs hl hJ hS
        have v25 := tq_ne v25 (z := 25) (by decide)
        by_cases v26 : v = 26
        · rw [v26]
          refine lv_tableIn (tgt := 1086) X.hx X.hb dL_law_33 (by decide) (by decide) rfl (by decide) ?_
          exact lc_offered X s_offered hi (by omega) hI (by omega) (by omega) next H ls locs hl hJ hS
        have v26 := tq_ne v26 (z := 26) (by decide)
        by_cases v27 : v = 27
        · rw [v27]
          refine lv_tableIn (tgt := 1109) X.hx X.hb dL_law_33 (by decide) (by decide) rfl (by decide) ?_
          exact lc_ends X s_ends hi (by omega) hI (by omega) (by omega) next H ls locs hl hJ hS
        have v27 := tq_ne v27 (z := 27) (by decide)
        by_cases v28 : v = 28
        · rw [v28]
          refine lv_tableIn (tgt := 1152) X.hx X.hb dL_law_33 (by decide) (by decide) rfl (by decide) ?_
          exact lc_notice X s_notice hi (by omega) hI (by omega) (by omega) next H ls locs hl hJ hS
        have v28 := tq_ne v28 (z := 28) (by decide)
        by_cases v29 : v = 29
        · rw [v29]
          refine lv_tableIn (tgt := 1185) X.hx X.hb dL_law_33 (by decide) (by decide) rfl (by decide) ?_
          exact lc_weeks X s_weeks hi (by omega) hI (by omega) (by omega) next H ls locs hl hJ hS
        have v29 := tq_ne v29 (z := 29) (by decide)
        by_cases v30 : v = 30
        · rw [v30]
          refine lv_tableIn (tgt := 1248) X.hx X.hb dL_law_33 (by decide) (by decide) rfl (by decide) ?_
          exact lc_weekOf X s_weekOf hi (by omega) hI (by omega) (by omega) next H ls locs hl hJ hS
        have v30 := tq_ne v30 (z := 30) (by decide)
        by_cases v31 : v = 31
        · rw [v31]
          refine lv_tableIn (tgt := 1323) X.hx X.hb dL_law_33 (by decide) (by decide) rfl (by decide) ?_
          exact lc_turning X s_turning hi (by omega) hI (by omega) (by omega) next H ls locs hl hJ hS
        have v31 := tq_ne v31 (z := 31) (by decide)
        by_cases v32 : v = 32
        · rw [v32]
          refine lv_tableIn (tgt := 1386) X.hx X.hb dL_law_33 (by decide) (by decide) rfl (by decide) ?_
          exact lc_moved X s_moved hi (by omega) hI (by omega) (by omega) next H ls locs hl hJ hS
        have v32 := tq_ne v32 (z := 32) (by decide)
        by_cases v33 : v = 33
        · rw [v33]
          refine lv_tableIn (tgt := 1449) X.hx X.hb dL_law_33 (by decide) (by decide) rfl (by decide) ?_
          exact lc_back X s_back hi (by omega) hI (by omega) (by omega) next H ls locs hl hJ hS
        have v33 := tq_ne v33 (z := 33) (by decide)
        by_cases v34 : v = 34
        · rw [v34]
          refine lv_tableIn (tgt := 1472) X.hx X.hb dL_law_33 (by decide) (by decide) rfl (by decide) ?_
          exact lc_count X s_count hi (by omega) hI (by omega) (by omega) next H ls locs hl hJ hS
        have v34 := tq_ne v34 (z := 34) (by decide)
        refine lv_tableOut (tgt := 1495) X.hx X.hb dL_law_33 (by omega) (by decide) ?_
        exact WJ.wide (by omega) (by omega) (next σ τ ad N hI) H ls locs hl hJ hS
    · intro H ls locs hl hJ hS
      exact law_exit hr hlocks hL X (by omega) h2 h3 h4 H ls locs hl hJ hS
