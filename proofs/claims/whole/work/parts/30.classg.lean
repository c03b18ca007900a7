theorem vw_X3_addPost : VW yX3_addPost cX3_addPost 3 (some .int) 1 := ⟨⟨(in_wt 81 (by decide +kernel) (by decide +kernel)), (in_wt 481 (by decide +kernel) (by decide +kernel)), by decide +kernel⟩, (in_wt 479 (by decide +kernel) (by decide +kernel)), (in_wt 480 (by decide +kernel) (by decide +kernel))⟩
theorem iw_X7_init : MW yX7_init cX7_init 7 none 6 ∧ Cond.instanceMethod yX7_init ∈ wt := ⟨⟨(in_wt 89 (by decide +kernel) (by decide +kernel)), (in_wt 436 (by decide +kernel) (by decide +kernel)), by decide +kernel⟩, (in_wt 435 (by decide +kernel) (by decide +kernel))⟩
theorem fg_X11_82 : FG LC RX11 82 0 1 2 (0, 0) := ⟨_, _, _, _, _, rfl, rfl, rfl, by decide, uw_X3, (in_wt 126 (by decide +kernel) (by decide +kernel))⟩
theorem ml_X11_87 : Cond.methodLink RX11 87 yX7_init ∈ wt := in_wt 434 (by decide +kernel) (by decide +kernel)
theorem ml_X11_90 : Cond.methodLink RX11 90 yX3_addPost ∈ wt := in_wt 478 (by decide +kernel) (by decide +kernel)
theorem nw_X11_85 : NWd LC RX11 85 1 8 := ⟨_, _, _, _, tyX7, fun _ => rfl, rfl, uw_X7, (in_wt 432 (by decide +kernel) (by decide +kernel)), (in_wt 433 (by decide +kernel) (by decide +kernel)), (in_wt 89 (by decide +kernel) (by decide +kernel)), tyX7_ok, (fun k hk => by rcases (show k = 0 ∨ k = 1 ∨ k = 2 ∨ k = 3 ∨ k = 4 ∨ k = 5 ∨ k = 6 ∨ k = 7 by omega) with rfl | rfl | rfl | rfl | rfl | rfl | rfl | rfl <;> rfl), rfl, rfl⟩
/-- PostsEnd.public int post(int, int, int, int, int) -/
def p_PE_post (σ : St) (n : Nat) (a1 : Int32) (a2 : Int32) (a3 : Int32) (a4 : Int32) (a5 : Int32) : Option ((Int32 × St) × Nat) := (Option.bind (p_Firm_isUnit σ a1) fun r1 => (if r1 = 0 then (Option.bind (p_PE_refuse σ (-1 : Int32)) fun r26 => some ((r26.1, r26.2), n)) else (if a2 < 0 then (Option.bind (p_PE_refuse σ (-4 : Int32)) fun r3 => some ((r3.1, r3.2), n)) else (if a3 < (1 : Int32) then (Option.bind (p_PE_refuse σ (-4 : Int32)) fun r5 => some ((r5.1, r5.2), n)) else (if a4 < (1 : Int32) then (Option.bind (p_PE_refuse σ (-4 : Int32)) fun r7 => some ((r7.1, r7.2), n)) else (if a5 < 0 then (Option.bind (p_PE_refuse σ (-4 : Int32)) fun r24 => some ((r24.1, r24.2), n)) else (if (7 : Int32) < a2 then (Option.bind (p_PE_refuse σ (-6 : Int32)) fun r9 => some ((r9.1, r9.2), n)) else (if (9 : Int32) < a3 then (Option.bind (p_PE_refuse σ (-6 : Int32)) fun r11 => some ((r11.1, r11.2), n)) else (if (40 : Int32) < a4 then (Option.bind (p_PE_refuse σ (-6 : Int32)) fun r13 => some ((r13.1, r13.2), n)) else (if (1023 : Int32) < a5 then (Option.bind (p_PE_refuse σ (-6 : Int32)) fun r15 => some ((r15.1, r15.2), n)) else (if σ.1 0 1 2 < (40 : Int32) then (lt1 (clr σ 1 n) fun σ17 => (Option.bind (p_Post_init σ17 n (σ17.1 0 1 2) a1 a2 a3 a4 a5) fun r18 => (Option.bind (p_Firm_addPost r18 n) fun r20 => some ((r20.1, r20.2), n + 1)))) else (Option.bind (p_PE_refuse σ (-6 : Int32)) fun r22 => some ((r22.1, r22.2), n)))))))))))))
set_option maxRecDepth 20000 in
set_option maxHeartbeats 4000000 in
theorem w_p_PE_post (Θ : TT) (σ : St) (n : Nat) (a1 : Int32) (a2 : Int32) (a3 : Int32) (a4 : Int32) (a5 : Int32) (bn : cN Θ 1 = n) (hc0 : cC Θ = (0, 0)) (C : CX Θ cX11_post RX11 (some .int) ({ frames := 2, cells := 1, slots := 8, locals := 38 } : Room) 6) : WA LC Θ (fun r : (Int32 × St) × Nat => QmA LC Θ 1 1 8 (some (.int r.1.1)) r.1.2 r.2 True) 0 [some (.ref (cF Θ 0)), some (.int a1), some (.int a2), some (.int a3), some (.int a4), some (.int a5)] [] σ (p_PE_post σ n a1 a2 a3 a4 a5) := by
  unfold p_PE_post
  refine r_aload_n C dX11_post_0 rfl ?_
  refine r_getF0 C dX11_post_1 fg_X11_10 (by decide) ?_
  refine r_iload_n C dX11_post_4 rfl ?_
  refine r_callV C (st := []) (As := [.int a1]) (d := 0) (j := 1) dX11_post_5 ml_X11_72 vw_X3_isUnit ⟨_, _, _, _, rfl, rfl⟩ (dm0 (by decide)) (fun r1 e => c_p_Firm_isUnit Θ.1.2.1 (cW Θ) (cAd Θ) (cN Θ) σ a1 r1 e) rfl rfl (Nat.le_of_ble_eq_true rfl) ⟨rfl, rfl, by decide, by decide⟩ (fun r1 h2 => ?_)
  refine r_if_ne C 17 dX11_post_8 (by decide) ?_ ?_
  · refine r_iload_n C dX11_post_17 rfl ?_
    refine r_if_lt C 37 dX11_post_18 (by decide) ?_ ?_
    · refine r_aload_n C dX11_post_37 rfl ?_
      refine r_bipush C (-4 : Int32) dX11_post_38 (by decide) ?_
      refine r_callV C (st := []) (As := [.int (-4 : Int32)]) (d := 0) (j := 0) dX11_post_40 ml_X11_64 vw_X11_refuse ⟨_, _, _, _, rfl, rfl⟩ (dm0 (by decide)) (fun r3 e => c_p_PE_refuse Θ.1.2.1 (cW Θ) (cAd Θ) (cN Θ) σ (-4 : Int32) r3 e) rfl rfl (Nat.le_of_ble_eq_true rfl) ⟨rfl, rfl, by decide, by decide⟩ (fun r3 h4 => ?_)
      exact r_iretA C (Ext.refl Θ bn) (by rw [hc0]; decide) (by rw [hc0]; decide) dX11_post_43 rfl rfl rfl trivial
    · refine r_iload_n C dX11_post_21 rfl ?_
      refine r_iconst C (1 : Int32) dX11_post_22 (by decide) ?_
      refine r_icmp_lt C 37 dX11_post_23 (by decide) ?_ ?_
      · refine r_aload_n C dX11_post_37 rfl ?_
        refine r_bipush C (-4 : Int32) dX11_post_38 (by decide) ?_
        refine r_callV C (st := []) (As := [.int (-4 : Int32)]) (d := 0) (j := 0) dX11_post_40 ml_X11_64 vw_X11_refuse ⟨_, _, _, _, rfl, rfl⟩ (dm0 (by decide)) (fun r5 e => c_p_PE_refuse Θ.1.2.1 (cW Θ) (cAd Θ) (cN Θ) σ (-4 : Int32) r5 e) rfl rfl (Nat.le_of_ble_eq_true rfl) ⟨rfl, rfl, by decide, by decide⟩ (fun r5 h6 => ?_)
        exact r_iretA C (Ext.refl Θ bn) (by rw [hc0]; decide) (by rw [hc0]; decide) dX11_post_43 rfl rfl rfl trivial
      · refine r_iload C dX11_post_26 rfl ?_
        refine r_iconst C (1 : Int32) dX11_post_28 (by decide) ?_
        refine r_icmp_lt C 37 dX11_post_29 (by decide) ?_ ?_
        · refine r_aload_n C dX11_post_37 rfl ?_
          refine r_bipush C (-4 : Int32) dX11_post_38 (by decide) ?_
          refine r_callV C (st := []) (As := [.int (-4 : Int32)]) (d := 0) (j := 0) dX11_post_40 ml_X11_64 vw_X11_refuse ⟨_, _, _, _, rfl, rfl⟩ (dm0 (by decide)) (fun r7 e => c_p_PE_refuse Θ.1.2.1 (cW Θ) (cAd Θ) (cN Θ) σ (-4 : Int32) r7 e) rfl rfl (Nat.le_of_ble_eq_true rfl) ⟨rfl, rfl, by decide, by decide⟩ (fun r7 h8 => ?_)
          exact r_iretA C (Ext.refl Θ bn) (by rw [hc0]; decide) (by rw [hc0]; decide) dX11_post_43 rfl rfl rfl trivial
        · refine r_iload C dX11_post_32 rfl ?_
          refine r_if_ge C 44 dX11_post_34 (by decide) ?_ ?_
          · refine r_iload_n C dX11_post_44 rfl ?_
            refine r_bipush C (7 : Int32) dX11_post_45 (by decide) ?_
            refine r_icmp_gt C 83 dX11_post_47 (by decide) ?_ ?_
            · refine r_aload_n C dX11_post_83 rfl ?_
              refine r_bipush C (-6 : Int32) dX11_post_84 (by decide) ?_
              refine r_callV C (st := []) (As := [.int (-6 : Int32)]) (d := 0) (j := 0) dX11_post_86 ml_X11_64 vw_X11_refuse ⟨_, _, _, _, rfl, rfl⟩ (dm0 (by decide)) (fun r9 e => c_p_PE_refuse Θ.1.2.1 (cW Θ) (cAd Θ) (cN Θ) σ (-6 : Int32) r9 e) rfl rfl (Nat.le_of_ble_eq_true rfl) ⟨rfl, rfl, by decide, by decide⟩ (fun r9 h10 => ?_)
              exact r_iretA C (Ext.refl Θ bn) (by rw [hc0]; decide) (by rw [hc0]; decide) dX11_post_89 rfl rfl rfl trivial
            · refine r_iload_n C dX11_post_50 rfl ?_
              refine r_bipush C (9 : Int32) dX11_post_51 (by decide) ?_
              refine r_icmp_gt C 83 dX11_post_53 (by decide) ?_ ?_
              · refine r_aload_n C dX11_post_83 rfl ?_
                refine r_bipush C (-6 : Int32) dX11_post_84 (by decide) ?_
                refine r_callV C (st := []) (As := [.int (-6 : Int32)]) (d := 0) (j := 0) dX11_post_86 ml_X11_64 vw_X11_refuse ⟨_, _, _, _, rfl, rfl⟩ (dm0 (by decide)) (fun r11 e => c_p_PE_refuse Θ.1.2.1 (cW Θ) (cAd Θ) (cN Θ) σ (-6 : Int32) r11 e) rfl rfl (Nat.le_of_ble_eq_true rfl) ⟨rfl, rfl, by decide, by decide⟩ (fun r11 h12 => ?_)
                exact r_iretA C (Ext.refl Θ bn) (by rw [hc0]; decide) (by rw [hc0]; decide) dX11_post_89 rfl rfl rfl trivial
              · refine r_iload C dX11_post_56 rfl ?_
                refine r_bipush C (40 : Int32) dX11_post_58 (by decide) ?_
                refine r_icmp_gt C 83 dX11_post_60 (by decide) ?_ ?_
                · refine r_aload_n C dX11_post_83 rfl ?_
                  refine r_bipush C (-6 : Int32) dX11_post_84 (by decide) ?_
                  refine r_callV C (st := []) (As := [.int (-6 : Int32)]) (d := 0) (j := 0) dX11_post_86 ml_X11_64 vw_X11_refuse ⟨_, _, _, _, rfl, rfl⟩ (dm0 (by decide)) (fun r13 e => c_p_PE_refuse Θ.1.2.1 (cW Θ) (cAd Θ) (cN Θ) σ (-6 : Int32) r13 e) rfl rfl (Nat.le_of_ble_eq_true rfl) ⟨rfl, rfl, by decide, by decide⟩ (fun r13 h14 => ?_)
                  exact r_iretA C (Ext.refl Θ bn) (by rw [hc0]; decide) (by rw [hc0]; decide) dX11_post_89 rfl rfl rfl trivial
                · refine r_iload C dX11_post_63 rfl ?_
                  refine r_sipush C (1023 : Int32) dX11_post_65 (by decide) ?_
                  refine r_icmp_gt C 83 dX11_post_68 (by decide) ?_ ?_
                  · refine r_aload_n C dX11_post_83 rfl ?_
                    refine r_bipush C (-6 : Int32) dX11_post_84 (by decide) ?_
                    refine r_callV C (st := []) (As := [.int (-6 : Int32)]) (d := 0) (j := 0) dX11_post_86 ml_X11_64 vw_X11_refuse ⟨_, _, _, _, rfl, rfl⟩ (dm0 (by decide)) (fun r15 e => c_p_PE_refuse Θ.1.2.1 (cW Θ) (cAd Θ) (cN Θ) σ (-6 : Int32) r15 e) rfl rfl (Nat.le_of_ble_eq_true rfl) ⟨rfl, rfl, by decide, by decide⟩ (fun r15 h16 => ?_)
                    exact r_iretA C (Ext.refl Θ bn) (by rw [hc0]; decide) (by rw [hc0]; decide) dX11_post_89 rfl rfl rfl trivial
                  · refine r_aload_n C dX11_post_71 rfl ?_
                    refine r_getF0 C dX11_post_72 fg_X11_10 (by decide) ?_
                    refine r_getI0 C dX11_post_75 fg_X11_82 (by decide) ?_
                    refine r_bipush C (40 : Int32) dX11_post_78 (by decide) ?_
                    refine r_icmp_lt C 90 dX11_post_80 (by decide) ?_ ?_
                    · refine r_aload_n C dX11_post_90 rfl ?_
                      refine r_getF0 C dX11_post_91 fg_X11_10 (by decide) ?_
                      refine r_new C dX11_post_94 nw_X11_85 (by decide) bn (by rw [hc0]; decide) (by rw [hc0]; decide) (fun Θ1 C1 E => ?_)
                      have hnn : n < cN Θ1 1 := by rw [E.hN]; exact Nat.lt_succ_self n
                      refine WA.rl (lv' := [some (.ref (cF Θ1 0)), some (.int a1), some (.int a2), some (.int a3), some (.int a4), some (.int a5)]) (st' := [.ref (cAd Θ1 1 n), .ref (cF Θ1 1)]) (by simp [va_rf, E.hF]) (by simp [va_rf, E.hF]) ?_
                      refine WA.gen (fun σ17 => ?_)
                      refine r_dup C1 dX11_post_97 rfl ?_
                      refine r_aload_n C1 dX11_post_98 rfl ?_
                      refine r_getF0 C1 dX11_post_99 fg_X11_10 (by decide) ?_
                      refine r_getI0 C1 dX11_post_102 fg_X11_82 (by decide) ?_
                      refine r_iload_n C1 dX11_post_105 rfl ?_
                      refine r_iload_n C1 dX11_post_106 rfl ?_
                      refine r_iload_n C1 dX11_post_107 rfl ?_
                      refine r_iload C1 dX11_post_108 rfl ?_
                      refine r_iload C1 dX11_post_110 rfl ?_
                      refine r_callI C1 (st := [.ref (cAd Θ1 1 n), .ref (cF Θ1 1)]) (As := [.int (σ17.1 0 1 2), .int a1, .int a2, .int a3, .int a4, .int a5]) (b := (cAd Θ1 1 n)) dX11_post_112 ml_X11_87 iw_X7_init rfl (fun r18 e => c_p_Post_init Θ1.1.2.1 (cW Θ1) (cAd Θ1) (cN Θ1) σ17 n (σ17.1 0 1 2) a1 a2 a3 a4 a5 hnn r18 e) rfl rfl (Nat.le_of_ble_eq_true rfl) ⟨rfl, rfl, by decide, by decide⟩ (fun r18 h19 => ?_)
                      refine r_callV C1 (st := []) (As := [.ref (cAd Θ1 1 n)]) (d := 0) (j := 1) dX11_post_115 ml_X11_90 vw_X3_addPost ⟨_, _, _, _, rfl, rfl⟩ (dm0 (by decide)) (fun r20 e => c_p_Firm_addPost Θ1.1.2.1 (cW Θ1) (cAd Θ1) (cN Θ1) r18 n hnn r20 e) rfl rfl (Nat.le_of_ble_eq_true rfl) ⟨rfl, rfl, by decide, by decide⟩ (fun r20 h21 => ?_)
                      exact r_iretA C1 E (by rw [hc0]; decide) (by rw [hc0]; decide) dX11_post_118 rfl rfl rfl trivial
                    · refine r_aload_n C dX11_post_83 rfl ?_
                      refine r_bipush C (-6 : Int32) dX11_post_84 (by decide) ?_
                      refine r_callV C (st := []) (As := [.int (-6 : Int32)]) (d := 0) (j := 0) dX11_post_86 ml_X11_64 vw_X11_refuse ⟨_, _, _, _, rfl, rfl⟩ (dm0 (by decide)) (fun r22 e => c_p_PE_refuse Θ.1.2.1 (cW Θ) (cAd Θ) (cN Θ) σ (-6 : Int32) r22 e) rfl rfl (Nat.le_of_ble_eq_true rfl) ⟨rfl, rfl, by decide, by decide⟩ (fun r22 h23 => ?_)
                      exact r_iretA C (Ext.refl Θ bn) (by rw [hc0]; decide) (by rw [hc0]; decide) dX11_post_89 rfl rfl rfl trivial
          · refine r_aload_n C dX11_post_37 rfl ?_
            refine r_bipush C (-4 : Int32) dX11_post_38 (by decide) ?_
            refine r_callV C (st := []) (As := [.int (-4 : Int32)]) (d := 0) (j := 0) dX11_post_40 ml_X11_64 vw_X11_refuse ⟨_, _, _, _, rfl, rfl⟩ (dm0 (by decide)) (fun r24 e => c_p_PE_refuse Θ.1.2.1 (cW Θ) (cAd Θ) (cN Θ) σ (-4 : Int32) r24 e) rfl rfl (Nat.le_of_ble_eq_true rfl) ⟨rfl, rfl, by decide, by decide⟩ (fun r24 h25 => ?_)
            exact r_iretA C (Ext.refl Θ bn) (by rw [hc0]; decide) (by rw [hc0]; decide) dX11_post_43 rfl rfl rfl trivial
  · refine r_aload_n C dX11_post_11 rfl ?_
    refine r_iconst C (-1 : Int32) dX11_post_12 (by decide) ?_
    refine r_callV C (st := []) (As := [.int (-1 : Int32)]) (d := 0) (j := 0) dX11_post_13 ml_X11_64 vw_X11_refuse ⟨_, _, _, _, rfl, rfl⟩ (dm0 (by decide)) (fun r26 e => c_p_PE_refuse Θ.1.2.1 (cW Θ) (cAd Θ) (cN Θ) σ (-1 : Int32) r26 e) rfl rfl (Nat.le_of_ble_eq_true rfl) ⟨rfl, rfl, by decide, by decide⟩ (fun r26 h27 => ?_)
    exact r_iretA C (Ext.refl Θ bn) (by rw [hc0]; decide) (by rw [hc0]; decide) dX11_post_16 rfl rfl rfl trivial
theorem c_p_PE_post (l : Launch) (ω : Wd) (ad : Nat → Nat → Nat) (N : Nat → Nat) (σ : St) (n : Nat) (a1 : Int32) (a2 : Int32) (a3 : Int32) (a4 : Int32) (a5 : Int32) (bn : N 1 = n) : ∀ r : (Int32 × St) × Nat, p_PE_post σ n a1 a2 a3 a4 a5 = some r → CtA l yX11_post cX11_post 6 (some .int) ({ frames := 2, cells := 1, slots := 8, locals := 38 } : Room) LC ω ad N [.ref (ω.2.1 0), .int a1, .int a2, .int a3, .int a4, .int a5] σ 1 1 8 (some (.int r.1.1)) r.1.2 r.2 True :=
  ct_ofA (o := fun r : (Int32 × St) × Nat => some (.int r.1.1)) (s' := fun r => r.1.2) (n' := fun r => r.2) (P := fun _ => True) [some (.ref (ω.2.1 0)), some (.int a1), some (.int a2), some (.int a3), some (.int a4), some (.int a5)] (by decide) rfl (Nat.le_of_ble_eq_true rfl) (fun Γ C _ => w_p_PE_post (Γ, ω, 6, ad, N, 0, 0) σ n a1 a2 a3 a4 a5 bn rfl C)
theorem vw_X7_finish : VW yX7_finish cX7_finish 3 none 1 := ⟨⟨(in_wt 89 (by decide +kernel) (by decide +kernel)), (in_wt 497 (by decide +kernel) (by decide +kernel)), by decide +kernel⟩, (in_wt 495 (by decide +kernel) (by decide +kernel)), (in_wt 496 (by decide +kernel) (by decide +kernel))⟩
theorem ml_X11_102 : Cond.methodLink RX11 102 yX7_finish ∈ wt := in_wt 494 (by decide +kernel) (by decide +kernel)
theorem ml_X11_94 : Cond.methodLink RX11 94 yX3_postAt ∈ wt := in_wt 486 (by decide +kernel) (by decide +kernel)
theorem ml_X11_98 : Cond.methodLink RX11 98 yX7_isOpen ∈ wt := in_wt 490 (by decide +kernel) (by decide +kernel)
/-- PostsEnd.public int end(int) -/
def p_PE_end (σ : St) (a1 : Int32) : Option (Int32 × St) := (Option.bind (p_Firm_postAt σ a1) fun r1 => (Option.elim r1 ((Option.bind (p_PE_refuse σ (-1 : Int32)) fun r5 => some (r5.1, r5.2))) fun q3 => (Option.bind (p_Post_isOpen σ q3) fun r7 => (if r7 = 0 then (Option.bind (p_PE_refuse σ (-3 : Int32)) fun r11 => some (r11.1, r11.2)) else (Option.bind (p_Post_finish σ q3 (σ.1 0 1 0)) fun r9 => some ((1 : Int32), r9))))))
set_option maxRecDepth 20000 in
set_option maxHeartbeats 4000000 in
theorem w_p_PE_end (Θ : TT) (σ : St) (a1 : Int32) (C : CX Θ cX11_end RX11 (some .int) ({ frames := 2, cells := 0, slots := 0, locals := 44 } : Room) 3) : WA LC Θ (fun r : Int32 × St => Qm LC Θ (some (.int r.1)) r.2 (True)) 0 [some (.ref (cF Θ 0)), some (.int a1), none] [] σ (p_PE_end σ a1) := by
  unfold p_PE_end
  refine r_aload_n C dX11_end_0 rfl ?_
  refine r_getF0 C dX11_end_1 fg_X11_10 (by decide) ?_
  refine r_iload_n C dX11_end_4 rfl ?_
  refine r_callV C (st := []) (As := [.int a1]) (d := 0) (j := 1) dX11_end_5 ml_X11_94 vw_X3_postAt ⟨_, _, _, _, rfl, rfl⟩ (dm0 (by decide)) (fun r1 e => c_p_Firm_postAt Θ.1.2.1 (cW Θ) (cAd Θ) (cN Θ) σ a1 r1 e) rfl rfl (Nat.le_of_ble_eq_true rfl) ⟨rfl, rfl, by decide, by decide⟩ (fun r1 h2 => ?_)
  refine r_astore_n C (x := Option.map (cAd Θ 1) r1) [some (.ref (cF Θ 0)), some (.int a1), some (va_rf (Option.map (cAd Θ 1) r1))] dX11_end_8 rfl (by decide) rfl ?_
  refine r_aload_nQ C (x := Option.map (cAd Θ 1) r1) dX11_end_9 rfl ?_
  rcases r1 with _ | q3
  · refine r_ifnonnullN C dX11_end_10 ?_
    refine r_aload_n C dX11_end_13 rfl ?_
    refine r_iconst C (-1 : Int32) dX11_end_14 (by decide) ?_
    refine r_callV C (st := []) (As := [.int (-1 : Int32)]) (d := 0) (j := 0) dX11_end_15 ml_X11_64 vw_X11_refuse ⟨_, _, _, _, rfl, rfl⟩ (dm0 (by decide)) (fun r5 e => c_p_PE_refuse Θ.1.2.1 (cW Θ) (cAd Θ) (cN Θ) σ (-1 : Int32) r5 e) rfl rfl (Nat.le_of_ble_eq_true rfl) ⟨rfl, rfl, by decide, by decide⟩ (fun r5 h6 => ?_)
    exact r_iret C dX11_end_18 rfl rfl trivial
  · have h4 := h2 q3 rfl
    refine r_ifnonnullS C 19 dX11_end_10 (by decide) ?_
    refine r_aload_n C dX11_end_19 rfl ?_
    refine r_callV C (st := []) (As := []) (d := 1) (j := q3) dX11_end_20 ml_X11_98 vw_X7_isOpen ⟨_, _, _, _, rfl, rfl⟩ (dmk (by decide) (by decide) h4) (fun r7 e => c_p_Post_isOpen Θ.1.2.1 (cW Θ) (cAd Θ) (cN Θ) σ q3 h4 r7 e) rfl rfl (Nat.le_of_ble_eq_true rfl) ⟨rfl, rfl, by decide, by decide⟩ (fun r7 h8 => ?_)
    refine r_if_ne C 33 dX11_end_23 (by decide) ?_ ?_
    · refine r_aload_n C dX11_end_33 rfl ?_
      refine r_aload_n C dX11_end_34 rfl ?_
      refine r_getF0 C dX11_end_35 fg_X11_10 (by decide) ?_
      refine r_getI0 C dX11_end_38 fg_X11_68 (by decide) ?_
      refine r_callV C (st := []) (As := [.int (σ.1 0 1 0)]) (d := 1) (j := q3) dX11_end_41 ml_X11_102 vw_X7_finish ⟨_, _, _, _, rfl, rfl⟩ (dmk (by decide) (by decide) h4) (fun r9 e => c_p_Post_finish Θ.1.2.1 (cW Θ) (cAd Θ) (cN Θ) σ q3 (σ.1 0 1 0) h4 r9 e) rfl rfl (Nat.le_of_ble_eq_true rfl) ⟨rfl, rfl, by decide, by decide⟩ (fun r9 h10 => ?_)
      refine r_iconst C (1 : Int32) dX11_end_44 (by decide) ?_
      exact r_iret C dX11_end_45 rfl rfl trivial
    · refine r_aload_n C dX11_end_26 rfl ?_
      refine r_bipush C (-3 : Int32) dX11_end_27 (by decide) ?_
      refine r_callV C (st := []) (As := [.int (-3 : Int32)]) (d := 0) (j := 0) dX11_end_29 ml_X11_64 vw_X11_refuse ⟨_, _, _, _, rfl, rfl⟩ (dm0 (by decide)) (fun r11 e => c_p_PE_refuse Θ.1.2.1 (cW Θ) (cAd Θ) (cN Θ) σ (-3 : Int32) r11 e) rfl rfl (Nat.le_of_ble_eq_true rfl) ⟨rfl, rfl, by decide, by decide⟩ (fun r11 h12 => ?_)
      exact r_iret C dX11_end_32 rfl rfl trivial
theorem c_p_PE_end (l : Launch) (ω : Wd) (ad : Nat → Nat → Nat) (N : Nat → Nat) (σ : St) (a1 : Int32) : ∀ r : Int32 × St, p_PE_end σ a1 = some r → Ct l yX11_end cX11_end 3 (some .int) ({ frames := 2, cells := 0, slots := 0, locals := 44 } : Room) LC ω ad N [.ref (ω.2.1 0), .int a1] σ (some (.int r.1)) r.2 (True) :=
  ct_of (o := fun r : Int32 × St => (some (.int r.1))) (s' := fun r => r.2) (P := fun r => True) [some (.ref (ω.2.1 0)), some (.int a1), none] (by decide) rfl (Nat.le_of_ble_eq_true rfl) (fun Γ C _ _ => w_p_PE_end (Γ, ω, 3, ad, N, 0, 0) σ a1 C)
theorem fg_X11_112 : FG LC RX11 112 0 1 11 (1, 14) := ⟨_, _, _, _, _, rfl, rfl, rfl, by decide, uw_X3, (in_wt 144 (by decide +kernel) (by decide +kernel))⟩
theorem gs_X11_106 : Cond.fieldLink RX11 106 "PostsEnd" (snm 0) "[I" ∈ wt := in_wt 506 (by decide +kernel) (by decide +kernel)
theorem gs_X11_109 : Cond.fieldLink RX11 109 "PostsEnd" (snm 1) "[I" ∈ wt := in_wt 508 (by decide +kernel) (by decide +kernel)
/-- PostsEnd.public int set(int, int) -/
def p_PE_set (σ : St) (a1 : Int32) (a2 : Int32) : Option (Int32 × St) := (if a1 < 0 then (Option.bind (p_PE_refuse σ (-2 : Int32)) fun r1 => some (r1.1, r1.2)) else (if (2 : Int32) < a1 then (Option.bind (p_PE_refuse σ (-2 : Int32)) fun r12 => some (r12.1, r12.2)) else (Option.bind (ix 3 a1) fun i3 => (if a2 < scon 0 i3 then (Option.bind (p_PE_refuse σ (-4 : Int32)) fun r10 => some (r10.1, r10.2)) else (Option.bind (ix 3 a1) fun i4 => (if scon 1 i4 < a2 then (Option.bind (p_PE_refuse σ (-6 : Int32)) fun r8 => some (r8.1, r8.2)) else (Option.bind (ix 3 a1) fun i5 => (Option.bind (ix 3 a1) fun i6 => (lt1 (sx σ 0 14 i6 a2) fun σ7 => some (σ.1 0 14 i5, σ7))))))))))
set_option maxRecDepth 20000 in
set_option maxHeartbeats 4000000 in
theorem w_p_PE_set (Θ : TT) (σ : St) (a1 : Int32) (a2 : Int32) (C : CX Θ cX11_set RX11 (some .int) ({ frames := 1, cells := 0, slots := 0, locals := 22 } : Room) 4) : WA LC Θ (fun r : Int32 × St => Qm LC Θ (some (.int r.1)) r.2 (True)) 0 [some (.ref (cF Θ 0)), some (.int a1), some (.int a2), none] [] σ (p_PE_set σ a1 a2) := by
  unfold p_PE_set
  refine r_iload_n C dX11_set_0 rfl ?_
  refine r_if_lt C 9 dX11_set_1 (by decide) ?_ ?_
  · refine r_aload_n C dX11_set_9 rfl ?_
    refine r_bipush C (-2 : Int32) dX11_set_10 (by decide) ?_
    refine r_callV C (st := []) (As := [.int (-2 : Int32)]) (d := 0) (j := 0) dX11_set_12 ml_X11_64 vw_X11_refuse ⟨_, _, _, _, rfl, rfl⟩ (dm0 (by decide)) (fun r1 e => c_p_PE_refuse Θ.1.2.1 (cW Θ) (cAd Θ) (cN Θ) σ (-2 : Int32) r1 e) rfl rfl (Nat.le_of_ble_eq_true rfl) ⟨rfl, rfl, by decide, by decide⟩ (fun r1 h2 => ?_)
    exact r_iret C dX11_set_15 rfl rfl trivial
  · refine r_iload_n C dX11_set_4 rfl ?_
    refine r_iconst C (2 : Int32) dX11_set_5 (by decide) ?_
    refine r_icmp_le C 16 dX11_set_6 (by decide) ?_ ?_
    · refine r_iload_n C dX11_set_16 rfl ?_
      refine r_gets C 0 (by decide) dX11_set_17 gs_X11_106 ?_
      refine r_iload_n C dX11_set_20 rfl ?_
      refine r_sald C dX11_set_21 (by decide) (fun i3 => ?_)
      refine r_icmp_ge C 32 dX11_set_22 (by decide) ?_ ?_
      · refine r_iload_n C dX11_set_32 rfl ?_
        refine r_gets C 1 (by decide) dX11_set_33 gs_X11_109 ?_
        refine r_iload_n C dX11_set_36 rfl ?_
        refine r_sald C dX11_set_37 (by decide) (fun i4 => ?_)
        refine r_icmp_le C 48 dX11_set_38 (by decide) ?_ ?_
        · refine r_aload_n C dX11_set_48 rfl ?_
          refine r_getF0 C dX11_set_49 fg_X11_10 (by decide) ?_
          refine r_getF0 C dX11_set_52 fg_X11_112 (by decide) ?_
          refine r_iload_n C dX11_set_55 rfl ?_
          refine r_iald (α := Unit) C dX11_set_56 ag_LC_14 (fun i5 => ?_)
          refine r_istore_n C [some (.ref (cF Θ 0)), some (.int a1), some (.int a2), some (.int (σ.1 0 14 i5))] dX11_set_57 rfl (by decide) rfl ?_
          refine r_aload_n C dX11_set_58 rfl ?_
          refine r_getF0 C dX11_set_59 fg_X11_10 (by decide) ?_
          refine r_getF0 C dX11_set_62 fg_X11_112 (by decide) ?_
          refine r_iload_n C dX11_set_65 rfl ?_
          refine r_iload_n C dX11_set_66 rfl ?_
          refine r_iast C dX11_set_67 ag_LC_14 (fun i6 => ?_)
          refine WA.gen (fun σ7 => ?_)
          refine r_iload_n C dX11_set_68 rfl ?_
          exact r_iret C dX11_set_69 rfl rfl trivial
        · refine r_aload_n C dX11_set_41 rfl ?_
          refine r_bipush C (-6 : Int32) dX11_set_42 (by decide) ?_
          refine r_callV C (st := []) (As := [.int (-6 : Int32)]) (d := 0) (j := 0) dX11_set_44 ml_X11_64 vw_X11_refuse ⟨_, _, _, _, rfl, rfl⟩ (dm0 (by decide)) (fun r8 e => c_p_PE_refuse Θ.1.2.1 (cW Θ) (cAd Θ) (cN Θ) σ (-6 : Int32) r8 e) rfl rfl (Nat.le_of_ble_eq_true rfl) ⟨rfl, rfl, by decide, by decide⟩ (fun r8 h9 => ?_)
          exact r_iret C dX11_set_47 rfl rfl trivial
      · refine r_aload_n C dX11_set_25 rfl ?_
        refine r_bipush C (-4 : Int32) dX11_set_26 (by decide) ?_
        refine r_callV C (st := []) (As := [.int (-4 : Int32)]) (d := 0) (j := 0) dX11_set_28 ml_X11_64 vw_X11_refuse ⟨_, _, _, _, rfl, rfl⟩ (dm0 (by decide)) (fun r10 e => c_p_PE_refuse Θ.1.2.1 (cW Θ) (cAd Θ) (cN Θ) σ (-4 : Int32) r10 e) rfl rfl (Nat.le_of_ble_eq_true rfl) ⟨rfl, rfl, by decide, by decide⟩ (fun r10 h11 => ?_)
        exact r_iret C dX11_set_31 rfl rfl trivial
    · refine r_aload_n C dX11_set_9 rfl ?_
      refine r_bipush C (-2 : Int32) dX11_set_10 (by decide) ?_
      refine r_callV C (st := []) (As := [.int (-2 : Int32)]) (d := 0) (j := 0) dX11_set_12 ml_X11_64 vw_X11_refuse ⟨_, _, _, _, rfl, rfl⟩ (dm0 (by decide)) (fun r12 e => c_p_PE_refuse Θ.1.2.1 (cW Θ) (cAd Θ) (cN Θ) σ (-2 : Int32) r12 e) rfl rfl (Nat.le_of_ble_eq_true rfl) ⟨rfl, rfl, by decide, by decide⟩ (fun r12 h13 => ?_)
      exact r_iret C dX11_set_15 rfl rfl trivial
theorem c_p_PE_set (l : Launch) (ω : Wd) (ad : Nat → Nat → Nat) (N : Nat → Nat) (σ : St) (a1 : Int32) (a2 : Int32) : ∀ r : Int32 × St, p_PE_set σ a1 a2 = some r → Ct l yX11_set cX11_set 4 (some .int) ({ frames := 1, cells := 0, slots := 0, locals := 22 } : Room) LC ω ad N [.ref (ω.2.1 0), .int a1, .int a2] σ (some (.int r.1)) r.2 (True) :=
  ct_of (o := fun r : Int32 × St => (some (.int r.1))) (s' := fun r => r.2) (P := fun r => True) [some (.ref (ω.2.1 0)), some (.int a1), some (.int a2), none] (by decide) rfl (Nat.le_of_ble_eq_true rfl) (fun Γ C _ _ => w_p_PE_set (Γ, ω, 4, ad, N, 0, 0) σ a1 a2 C)
theorem vw_X3_addPerson : VW yX3_addPerson cX3_addPerson 3 (some .int) 1 := ⟨⟨(in_wt 81 (by decide +kernel) (by decide +kernel)), (in_wt 582 (by decide +kernel) (by decide +kernel)), by decide +kernel⟩, (in_wt 580 (by decide +kernel) (by decide +kernel)), (in_wt 581 (by decide +kernel) (by decide +kernel))⟩
theorem iw_X5_init : MW yX5_init cX5_init 5 none 4 ∧ Cond.instanceMethod yX5_init ∈ wt := ⟨⟨(in_wt 90 (by decide +kernel) (by decide +kernel)), (in_wt 523 (by decide +kernel) (by decide +kernel)), by decide +kernel⟩, (in_wt 522 (by decide +kernel) (by decide +kernel))⟩
theorem fg_X11_118 : FG LC RX11 118 0 1 3 (0, 0) := ⟨_, _, _, _, _, rfl, rfl, rfl, by decide, uw_X3, (in_wt 130 (by decide +kernel) (by decide +kernel))⟩
theorem ml_X11_115 : Cond.methodLink RX11 115 yX7_isVacant ∈ wt := in_wt 514 (by decide +kernel) (by decide +kernel)
theorem ml_X11_123 : Cond.methodLink RX11 123 yX5_init ∈ wt := in_wt 521 (by decide +kernel) (by decide +kernel)
theorem ml_X11_126 : Cond.methodLink RX11 126 yX5_hold ∈ wt := in_wt 578 (by decide +kernel) (by decide +kernel)
theorem ml_X11_130 : Cond.methodLink RX11 130 yX3_addPerson ∈ wt := in_wt 579 (by decide +kernel) (by decide +kernel)
theorem nw_X11_121 : NWd LC RX11 121 2 11 := ⟨_, _, _, _, tyX5, fun _ => rfl, rfl, uw_X5, (in_wt 519 (by decide +kernel) (by decide +kernel)), (in_wt 520 (by decide +kernel) (by decide +kernel)), (in_wt 90 (by decide +kernel) (by decide +kernel)), tyX5_ok, (fun k hk => by rcases (show k = 0 ∨ k = 1 ∨ k = 2 ∨ k = 3 ∨ k = 4 ∨ k = 5 ∨ k = 6 ∨ k = 7 ∨ k = 8 ∨ k = 9 ∨ k = 10 by omega) with rfl | rfl | rfl | rfl | rfl | rfl | rfl | rfl | rfl | rfl | rfl <;> rfl), rfl, rfl⟩
/-- PostsEnd.public int person(int, int, int, int) -/
def p_PE_person (σ : St) (n : Nat) (a1 : Int32) (a2 : Int32) (a3 : Int32) (a4 : Int32) : Option ((Int32 × St) × Nat) := (Option.bind (p_Firm_postAt σ a1) fun r1 => (if a1 = (-1 : Int32) then (Option.elim r1 ((if a2 < 0 then (Option.bind (p_PE_refuse σ (-4 : Int32)) fun r5 => some ((r5.1, r5.2), n)) else (if a3 < (-20000 : Int32) then (Option.bind (p_PE_refuse σ (-4 : Int32)) fun r7 => some ((r7.1, r7.2), n)) else (if a4 < (100 : Int32) then (Option.bind (p_PE_refuse σ (-4 : Int32)) fun r24 => some ((r24.1, r24.2), n)) else (if (1023 : Int32) < a2 then (Option.bind (p_PE_refuse σ (-6 : Int32)) fun r9 => some ((r9.1, r9.2), n)) else (if σ.1 0 1 0 < a3 then (Option.bind (p_PE_refuse σ (-6 : Int32)) fun r11 => some ((r11.1, r11.2), n)) else (if (9999 : Int32) < a4 then (Option.bind (p_PE_refuse σ (-6 : Int32)) fun r13 => some ((r13.1, r13.2), n)) else (if σ.1 0 1 3 < (40 : Int32) then (lt1 (clr σ 2 n) fun σ15 => (Option.bind (p_Person_init σ15 n (σ15.1 0 1 3) a2 a3 a4) fun r16 => (Option.bind (p_Person_hold r16 n none) fun r18 => (Option.bind (p_Firm_addPerson r18 n) fun r20 => some ((r20.1, r20.2), n + 1))))) else (Option.bind (p_PE_refuse σ (-6 : Int32)) fun r22 => some ((r22.1, r22.2), n)))))))))) fun q3 => (Option.bind (p_Post_isVacant σ q3) fun r26 => (if r26 = 0 then (Option.bind (p_PE_refuse σ (-3 : Int32)) fun r49 => some ((r49.1, r49.2), n)) else (if a2 < 0 then (Option.bind (p_PE_refuse σ (-4 : Int32)) fun r28 => some ((r28.1, r28.2), n)) else (if a3 < (-20000 : Int32) then (Option.bind (p_PE_refuse σ (-4 : Int32)) fun r30 => some ((r30.1, r30.2), n)) else (if a4 < (100 : Int32) then (Option.bind (p_PE_refuse σ (-4 : Int32)) fun r47 => some ((r47.1, r47.2), n)) else (if (1023 : Int32) < a2 then (Option.bind (p_PE_refuse σ (-6 : Int32)) fun r32 => some ((r32.1, r32.2), n)) else (if σ.1 0 1 0 < a3 then (Option.bind (p_PE_refuse σ (-6 : Int32)) fun r34 => some ((r34.1, r34.2), n)) else (if (9999 : Int32) < a4 then (Option.bind (p_PE_refuse σ (-6 : Int32)) fun r36 => some ((r36.1, r36.2), n)) else (if σ.1 0 1 3 < (40 : Int32) then (lt1 (clr σ 2 n) fun σ38 => (Option.bind (p_Person_init σ38 n (σ38.1 0 1 3) a2 a3 a4) fun r39 => (Option.bind (p_Person_hold r39 n (some q3)) fun r41 => (Option.bind (p_Firm_addPerson r41 n) fun r43 => some ((r43.1, r43.2), n + 1))))) else (Option.bind (p_PE_refuse σ (-6 : Int32)) fun r45 => some ((r45.1, r45.2), n)))))))))))) else (Option.elim r1 ((Option.bind (p_PE_refuse σ (-1 : Int32)) fun r53 => some ((r53.1, r53.2), n))) fun q51 => (Option.bind (p_Post_isVacant σ q51) fun r55 => (if r55 = 0 then (Option.bind (p_PE_refuse σ (-3 : Int32)) fun r78 => some ((r78.1, r78.2), n)) else (if a2 < 0 then (Option.bind (p_PE_refuse σ (-4 : Int32)) fun r57 => some ((r57.1, r57.2), n)) else (if a3 < (-20000 : Int32) then (Option.bind (p_PE_refuse σ (-4 : Int32)) fun r59 => some ((r59.1, r59.2), n)) else (if a4 < (100 : Int32) then (Option.bind (p_PE_refuse σ (-4 : Int32)) fun r76 => some ((r76.1, r76.2), n)) else (if (1023 : Int32) < a2 then (Option.bind (p_PE_refuse σ (-6 : Int32)) fun r61 => some ((r61.1, r61.2), n)) else (if σ.1 0 1 0 < a3 then (Option.bind (p_PE_refuse σ (-6 : Int32)) fun r63 => some ((r63.1, r63.2), n)) else (if (9999 : Int32) < a4 then (Option.bind (p_PE_refuse σ (-6 : Int32)) fun r65 => some ((r65.1, r65.2), n)) else (if σ.1 0 1 3 < (40 : Int32) then (lt1 (clr σ 2 n) fun σ67 => (Option.bind (p_Person_init σ67 n (σ67.1 0 1 3) a2 a3 a4) fun r68 => (Option.bind (p_Person_hold r68 n (some q51)) fun r70 => (Option.bind (p_Firm_addPerson r70 n) fun r72 => some ((r72.1, r72.2), n + 1))))) else (Option.bind (p_PE_refuse σ (-6 : Int32)) fun r74 => some ((r74.1, r74.2), n))))))))))))))
set_option maxRecDepth 20000 in
set_option maxHeartbeats 4000000 in
theorem w_p_PE_person (Θ : TT) (σ : St) (n : Nat) (a1 : Int32) (a2 : Int32) (a3 : Int32) (a4 : Int32) (bn : cN Θ 2 = n) (hc0 : cC Θ = (0, 0)) (C : CX Θ cX11_person RX11 (some .int) ({ frames := 2, cells := 1, slots := 11, locals := 40 } : Room) 7) : WA LC Θ (fun r : (Int32 × St) × Nat => QmA LC Θ 2 1 11 (some (.int r.1.1)) r.1.2 r.2 True) 0 [some (.ref (cF Θ 0)), some (.int a1), some (.int a2), some (.int a3), some (.int a4), none, none] [] σ (p_PE_person σ n a1 a2 a3 a4) := by
  unfold p_PE_person
  refine r_aload_n C dX11_person_0 rfl ?_
  refine r_getF0 C dX11_person_1 fg_X11_10 (by decide) ?_
  refine r_iload_n C dX11_person_4 rfl ?_
  refine r_callV C (st := []) (As := [.int a1]) (d := 0) (j := 1) dX11_person_5 ml_X11_94 vw_X3_postAt ⟨_, _, _, _, rfl, rfl⟩ (dm0 (by decide)) (fun r1 e => c_p_Firm_postAt Θ.1.2.1 (cW Θ) (cAd Θ) (cN Θ) σ a1 r1 e) rfl rfl (Nat.le_of_ble_eq_true rfl) ⟨rfl, rfl, by decide, by decide⟩ (fun r1 h2 => ?_)
  refine r_astore C (x := Option.map (cAd Θ 1) r1) [some (.ref (cF Θ 0)), some (.int a1), some (.int a2), some (.int a3), some (.int a4), some (va_rf (Option.map (cAd Θ 1) r1)), none] dX11_person_8 rfl (by decide) rfl ?_
  refine r_iload_n C dX11_person_10 rfl ?_
  refine r_iconst C (-1 : Int32) dX11_person_11 (by decide) ?_
  refine r_icmp_eq C 26 dX11_person_12 (by decide) ?_ ?_
  · refine r_aloadQ C (x := Option.map (cAd Θ 1) r1) dX11_person_26 rfl ?_
    rcases r1 with _ | q3
    · refine r_ifnullN C 46 dX11_person_28 (by decide) ?_
      refine r_iload_n C dX11_person_46 rfl ?_
      refine r_if_lt C 64 dX11_person_47 (by decide) ?_ ?_
      · refine r_aload_n C dX11_person_64 rfl ?_
        refine r_bipush C (-4 : Int32) dX11_person_65 (by decide) ?_
        refine r_callV C (st := []) (As := [.int (-4 : Int32)]) (d := 0) (j := 0) dX11_person_67 ml_X11_64 vw_X11_refuse ⟨_, _, _, _, rfl, rfl⟩ (dm0 (by decide)) (fun r5 e => c_p_PE_refuse Θ.1.2.1 (cW Θ) (cAd Θ) (cN Θ) σ (-4 : Int32) r5 e) rfl rfl (Nat.le_of_ble_eq_true rfl) ⟨rfl, rfl, by decide, by decide⟩ (fun r5 h6 => ?_)
        exact r_iretA C (Ext.refl Θ bn) (by rw [hc0]; decide) (by rw [hc0]; decide) dX11_person_70 rfl rfl rfl trivial
      · refine r_iload_n C dX11_person_50 rfl ?_
        refine r_sipush C (-20000 : Int32) dX11_person_51 (by decide) ?_
        refine r_icmp_lt C 64 dX11_person_54 (by decide) ?_ ?_
        · refine r_aload_n C dX11_person_64 rfl ?_
          refine r_bipush C (-4 : Int32) dX11_person_65 (by decide) ?_
          refine r_callV C (st := []) (As := [.int (-4 : Int32)]) (d := 0) (j := 0) dX11_person_67 ml_X11_64 vw_X11_refuse ⟨_, _, _, _, rfl, rfl⟩ (dm0 (by decide)) (fun r7 e => c_p_PE_refuse Θ.1.2.1 (cW Θ) (cAd Θ) (cN Θ) σ (-4 : Int32) r7 e) rfl rfl (Nat.le_of_ble_eq_true rfl) ⟨rfl, rfl, by decide, by decide⟩ (fun r7 h8 => ?_)
          exact r_iretA C (Ext.refl Θ bn) (by rw [hc0]; decide) (by rw [hc0]; decide) dX11_person_70 rfl rfl rfl trivial
        · refine r_iload C dX11_person_57 rfl ?_
          refine r_bipush C (100 : Int32) dX11_person_59 (by decide) ?_
          refine r_icmp_ge C 71 dX11_person_61 (by decide) ?_ ?_
          · refine r_iload_n C dX11_person_71 rfl ?_
            refine r_sipush C (1023 : Int32) dX11_person_72 (by decide) ?_
            refine r_icmp_gt C 109 dX11_person_75 (by decide) ?_ ?_
            · refine r_aload_n C dX11_person_109 rfl ?_
              refine r_bipush C (-6 : Int32) dX11_person_110 (by decide) ?_
              refine r_callV C (st := []) (As := [.int (-6 : Int32)]) (d := 0) (j := 0) dX11_person_112 ml_X11_64 vw_X11_refuse ⟨_, _, _, _, rfl, rfl⟩ (dm0 (by decide)) (fun r9 e => c_p_PE_refuse Θ.1.2.1 (cW Θ) (cAd Θ) (cN Θ) σ (-6 : Int32) r9 e) rfl rfl (Nat.le_of_ble_eq_true rfl) ⟨rfl, rfl, by decide, by decide⟩ (fun r9 h10 => ?_)
              exact r_iretA C (Ext.refl Θ bn) (by rw [hc0]; decide) (by rw [hc0]; decide) dX11_person_115 rfl rfl rfl trivial
            · refine r_iload_n C dX11_person_78 rfl ?_
              refine r_aload_n C dX11_person_79 rfl ?_
              refine r_getF0 C dX11_person_80 fg_X11_10 (by decide) ?_
              refine r_getI0 C dX11_person_83 fg_X11_68 (by decide) ?_
              refine r_icmp_gt C 109 dX11_person_86 (by decide) ?_ ?_
              · refine r_aload_n C dX11_person_109 rfl ?_
                refine r_bipush C (-6 : Int32) dX11_person_110 (by decide) ?_
                refine r_callV C (st := []) (As := [.int (-6 : Int32)]) (d := 0) (j := 0) dX11_person_112 ml_X11_64 vw_X11_refuse ⟨_, _, _, _, rfl, rfl⟩ (dm0 (by decide)) (fun r11 e => c_p_PE_refuse Θ.1.2.1 (cW Θ) (cAd Θ) (cN Θ) σ (-6 : Int32) r11 e) rfl rfl (Nat.le_of_ble_eq_true rfl) ⟨rfl, rfl, by decide, by decide⟩ (fun r11 h12 => ?_)
                exact r_iretA C (Ext.refl Θ bn) (by rw [hc0]; decide) (by rw [hc0]; decide) dX11_person_115 rfl rfl rfl trivial
              · refine r_iload C dX11_person_89 rfl ?_
                refine r_sipush C (9999 : Int32) dX11_person_91 (by decide) ?_
                refine r_icmp_gt C 109 dX11_person_94 (by decide) ?_ ?_
                · refine r_aload_n C dX11_person_109 rfl ?_
                  refine r_bipush C (-6 : Int32) dX11_person_110 (by decide) ?_
                  refine r_callV C (st := []) (As := [.int (-6 : Int32)]) (d := 0) (j := 0) dX11_person_112 ml_X11_64 vw_X11_refuse ⟨_, _, _, _, rfl, rfl⟩ (dm0 (by decide)) (fun r13 e => c_p_PE_refuse Θ.1.2.1 (cW Θ) (cAd Θ) (cN Θ) σ (-6 : Int32) r13 e) rfl rfl (Nat.le_of_ble_eq_true rfl) ⟨rfl, rfl, by decide, by decide⟩ (fun r13 h14 => ?_)
                  exact r_iretA C (Ext.refl Θ bn) (by rw [hc0]; decide) (by rw [hc0]; decide) dX11_person_115 rfl rfl rfl trivial
                · refine r_aload_n C dX11_person_97 rfl ?_
                  refine r_getF0 C dX11_person_98 fg_X11_10 (by decide) ?_
                  refine r_getI0 C dX11_person_101 fg_X11_118 (by decide) ?_
                  refine r_bipush C (40 : Int32) dX11_person_104 (by decide) ?_
                  refine r_icmp_lt C 116 dX11_person_106 (by decide) ?_ ?_
                  · refine r_new C dX11_person_116 nw_X11_121 (by decide) bn (by rw [hc0]; decide) (by rw [hc0]; decide) (fun Θ1 C1 E => ?_)
                    have hnn : n < cN Θ1 2 := by rw [E.hN]; exact Nat.lt_succ_self n
                    refine WA.rl (lv' := [some (.ref (cF Θ1 0)), some (.int a1), some (.int a2), some (.int a3), some (.int a4), some (.null), none]) (st' := [.ref (cAd Θ1 2 n)]) (by simp [va_rf, E.hF]) (by simp [va_rf, E.hF]) ?_
                    refine WA.gen (fun σ15 => ?_)
                    refine r_dup C1 dX11_person_119 rfl ?_
                    refine r_aload_n C1 dX11_person_120 rfl ?_
                    refine r_getF0 C1 dX11_person_121 fg_X11_10 (by decide) ?_
                    refine r_getI0 C1 dX11_person_124 fg_X11_118 (by decide) ?_
                    refine r_iload_n C1 dX11_person_127 rfl ?_
                    refine r_iload_n C1 dX11_person_128 rfl ?_
                    refine r_iload C1 dX11_person_129 rfl ?_
                    refine r_callI C1 (st := [.ref (cAd Θ1 2 n)]) (As := [.int (σ15.1 0 1 3), .int a2, .int a3, .int a4]) (b := (cAd Θ1 2 n)) dX11_person_131 ml_X11_123 iw_X5_init rfl (fun r16 e => c_p_Person_init Θ1.1.2.1 (cW Θ1) (cAd Θ1) (cN Θ1) σ15 n (σ15.1 0 1 3) a2 a3 a4 hnn r16 e) rfl rfl (Nat.le_of_ble_eq_true rfl) ⟨rfl, rfl, by decide, by decide⟩ (fun r16 h17 => ?_)
                    refine r_astore C1 (x := some (cAd Θ1 2 n)) [some (.ref (cF Θ1 0)), some (.int a1), some (.int a2), some (.int a3), some (.int a4), some (.null), some (.ref (cAd Θ1 2 n))] dX11_person_134 rfl (by decide) rfl ?_
                    refine r_aload C1 dX11_person_136 rfl ?_
                    refine r_aloadQ C1 (x := none) dX11_person_138 rfl ?_
                    refine r_callV C1 (st := []) (As := [.null]) (d := 2) (j := n) dX11_person_140 ml_X11_126 vw_X5_hold ⟨_, _, _, _, rfl, rfl⟩ (dmk (by decide) (by decide) hnn) (fun r18 e => c_p_Person_hold Θ1.1.2.1 (cW Θ1) (cAd Θ1) (cN Θ1) r16 n none hnn (fun q e => nomatch e) r18 e) rfl rfl (Nat.le_of_ble_eq_true rfl) ⟨rfl, rfl, by decide, by decide⟩ (fun r18 h19 => ?_)
                    refine r_aload_n C1 dX11_person_143 rfl ?_
                    refine r_getF0 C1 dX11_person_144 fg_X11_10 (by decide) ?_
                    refine r_aload C1 dX11_person_147 rfl ?_
                    refine r_callV C1 (st := []) (As := [.ref (cAd Θ1 2 n)]) (d := 0) (j := 1) dX11_person_149 ml_X11_130 vw_X3_addPerson ⟨_, _, _, _, rfl, rfl⟩ (dm0 (by decide)) (fun r20 e => c_p_Firm_addPerson Θ1.1.2.1 (cW Θ1) (cAd Θ1) (cN Θ1) r18 n hnn r20 e) rfl rfl (Nat.le_of_ble_eq_true rfl) ⟨rfl, rfl, by decide, by decide⟩ (fun r20 h21 => ?_)
                    exact r_iretA C1 E (by rw [hc0]; decide) (by rw [hc0]; decide) dX11_person_152 rfl rfl rfl trivial
                  · refine r_aload_n C dX11_person_109 rfl ?_
                    refine r_bipush C (-6 : Int32) dX11_person_110 (by decide) ?_
                    refine r_callV C (st := []) (As := [.int (-6 : Int32)]) (d := 0) (j := 0) dX11_person_112 ml_X11_64 vw_X11_refuse ⟨_, _, _, _, rfl, rfl⟩ (dm0 (by decide)) (fun r22 e => c_p_PE_refuse Θ.1.2.1 (cW Θ) (cAd Θ) (cN Θ) σ (-6 : Int32) r22 e) rfl rfl (Nat.le_of_ble_eq_true rfl) ⟨rfl, rfl, by decide, by decide⟩ (fun r22 h23 => ?_)
                    exact r_iretA C (Ext.refl Θ bn) (by rw [hc0]; decide) (by rw [hc0]; decide) dX11_person_115 rfl rfl rfl trivial
          · refine r_aload_n C dX11_person_64 rfl ?_
            refine r_bipush C (-4 : Int32) dX11_person_65 (by decide) ?_
            refine r_callV C (st := []) (As := [.int (-4 : Int32)]) (d := 0) (j := 0) dX11_person_67 ml_X11_64 vw_X11_refuse ⟨_, _, _, _, rfl, rfl⟩ (dm0 (by decide)) (fun r24 e => c_p_PE_refuse Θ.1.2.1 (cW Θ) (cAd Θ) (cN Θ) σ (-4 : Int32) r24 e) rfl rfl (Nat.le_of_ble_eq_true rfl) ⟨rfl, rfl, by decide, by decide⟩ (fun r24 h25 => ?_)
            exact r_iretA C (Ext.refl Θ bn) (by rw [hc0]; decide) (by rw [hc0]; decide) dX11_person_70 rfl rfl rfl trivial
    · have h4 := h2 q3 rfl
      refine r_ifnullS C dX11_person_28 ?_
      refine r_aload C dX11_person_31 rfl ?_
      refine r_callV C (st := []) (As := []) (d := 1) (j := q3) dX11_person_33 ml_X11_115 vw_X7_isVacant ⟨_, _, _, _, rfl, rfl⟩ (dmk (by decide) (by decide) h4) (fun r26 e => c_p_Post_isVacant Θ.1.2.1 (cW Θ) (cAd Θ) (cN Θ) σ q3 h4 r26 e) rfl rfl (Nat.le_of_ble_eq_true rfl) ⟨rfl, rfl, by decide, by decide⟩ (fun r26 h27 => ?_)
      refine r_if_ne C 46 dX11_person_36 (by decide) ?_ ?_
      · refine r_iload_n C dX11_person_46 rfl ?_
        refine r_if_lt C 64 dX11_person_47 (by decide) ?_ ?_
        · refine r_aload_n C dX11_person_64 rfl ?_
          refine r_bipush C (-4 : Int32) dX11_person_65 (by decide) ?_
          refine r_callV C (st := []) (As := [.int (-4 : Int32)]) (d := 0) (j := 0) dX11_person_67 ml_X11_64 vw_X11_refuse ⟨_, _, _, _, rfl, rfl⟩ (dm0 (by decide)) (fun r28 e => c_p_PE_refuse Θ.1.2.1 (cW Θ) (cAd Θ) (cN Θ) σ (-4 : Int32) r28 e) rfl rfl (Nat.le_of_ble_eq_true rfl) ⟨rfl, rfl, by decide, by decide⟩ (fun r28 h29 => ?_)
          exact r_iretA C (Ext.refl Θ bn) (by rw [hc0]; decide) (by rw [hc0]; decide) dX11_person_70 rfl rfl rfl trivial
        · refine r_iload_n C dX11_person_50 rfl ?_
          refine r_sipush C (-20000 : Int32) dX11_person_51 (by decide) ?_
          refine r_icmp_lt C 64 dX11_person_54 (by decide) ?_ ?_
          · refine r_aload_n C dX11_person_64 rfl ?_
            refine r_bipush C (-4 : Int32) dX11_person_65 (by decide) ?_
            refine r_callV C (st := []) (As := [.int (-4 : Int32)]) (d := 0) (j := 0) dX11_person_67 ml_X11_64 vw_X11_refuse ⟨_, _, _, _, rfl, rfl⟩ (dm0 (by decide)) (fun r30 e => c_p_PE_refuse Θ.1.2.1 (cW Θ) (cAd Θ) (cN Θ) σ (-4 : Int32) r30 e) rfl rfl (Nat.le_of_ble_eq_true rfl) ⟨rfl, rfl, by decide, by decide⟩ (fun r30 h31 => ?_)
            exact r_iretA C (Ext.refl Θ bn) (by rw [hc0]; decide) (by rw [hc0]; decide) dX11_person_70 rfl rfl rfl trivial
          · refine r_iload C dX11_person_57 rfl ?_
            refine r_bipush C (100 : Int32) dX11_person_59 (by decide) ?_
            refine r_icmp_ge C 71 dX11_person_61 (by decide) ?_ ?_
            · refine r_iload_n C dX11_person_71 rfl ?_
              refine r_sipush C (1023 : Int32) dX11_person_72 (by decide) ?_
              refine r_icmp_gt C 109 dX11_person_75 (by decide) ?_ ?_
              · refine r_aload_n C dX11_person_109 rfl ?_
                refine r_bipush C (-6 : Int32) dX11_person_110 (by decide) ?_
                refine r_callV C (st := []) (As := [.int (-6 : Int32)]) (d := 0) (j := 0) dX11_person_112 ml_X11_64 vw_X11_refuse ⟨_, _, _, _, rfl, rfl⟩ (dm0 (by decide)) (fun r32 e => c_p_PE_refuse Θ.1.2.1 (cW Θ) (cAd Θ) (cN Θ) σ (-6 : Int32) r32 e) rfl rfl (Nat.le_of_ble_eq_true rfl) ⟨rfl, rfl, by decide, by decide⟩ (fun r32 h33 => ?_)
                exact r_iretA C (Ext.refl Θ bn) (by rw [hc0]; decide) (by rw [hc0]; decide) dX11_person_115 rfl rfl rfl trivial
              · refine r_iload_n C dX11_person_78 rfl ?_
                refine r_aload_n C dX11_person_79 rfl ?_
                refine r_getF0 C dX11_person_80 fg_X11_10 (by decide) ?_
                refine r_getI0 C dX11_person_83 fg_X11_68 (by decide) ?_
                refine r_icmp_gt C 109 dX11_person_86 (by decide) ?_ ?_
                · refine r_aload_n C dX11_person_109 rfl ?_
                  refine r_bipush C (-6 : Int32) dX11_person_110 (by decide) ?_
                  refine r_callV C (st := []) (As := [.int (-6 : Int32)]) (d := 0) (j := 0) dX11_person_112 ml_X11_64 vw_X11_refuse ⟨_, _, _, _, rfl, rfl⟩ (dm0 (by decide)) (fun r34 e => c_p_PE_refuse Θ.1.2.1 (cW Θ) (cAd Θ) (cN Θ) σ (-6 : Int32) r34 e) rfl rfl (Nat.le_of_ble_eq_true rfl) ⟨rfl, rfl, by decide, by decide⟩ (fun r34 h35 => ?_)
                  exact r_iretA C (Ext.refl Θ bn) (by rw [hc0]; decide) (by rw [hc0]; decide) dX11_person_115 rfl rfl rfl trivial
                · refine r_iload C dX11_person_89 rfl ?_
                  refine r_sipush C (9999 : Int32) dX11_person_91 (by decide) ?_
                  refine r_icmp_gt C 109 dX11_person_94 (by decide) ?_ ?_
                  · refine r_aload_n C dX11_person_109 rfl ?_
                    refine r_bipush C (-6 : Int32) dX11_person_110 (by decide) ?_
                    refine r_callV C (st := []) (As := [.int (-6 : Int32)]) (d := 0) (j := 0) dX11_person_112 ml_X11_64 vw_X11_refuse ⟨_, _, _, _, rfl, rfl⟩ (dm0 (by decide)) (fun r36 e => c_p_PE_refuse Θ.1.2.1 (cW Θ) (cAd Θ) (cN Θ) σ (-6 : Int32) r36 e) rfl rfl (Nat.le_of_ble_eq_true rfl) ⟨rfl, rfl, by decide, by decide⟩ (fun r36 h37 => ?_)
                    exact r_iretA C (Ext.refl Θ bn) (by rw [hc0]; decide) (by rw [hc0]; decide) dX11_person_115 rfl rfl rfl trivial
                  · refine r_aload_n C dX11_person_97 rfl ?_
                    refine r_getF0 C dX11_person_98 fg_X11_10 (by decide) ?_
                    refine r_getI0 C dX11_person_101 fg_X11_118 (by decide) ?_
                    refine r_bipush C (40 : Int32) dX11_person_104 (by decide) ?_
                    refine r_icmp_lt C 116 dX11_person_106 (by decide) ?_ ?_
                    · refine r_new C dX11_person_116 nw_X11_121 (by decide) bn (by rw [hc0]; decide) (by rw [hc0]; decide) (fun Θ1 C1 E => ?_)
                      have h4 := E.lt h4
                      have hnn : n < cN Θ1 2 := by rw [E.hN]; exact Nat.lt_succ_self n
                      refine WA.rl (lv' := [some (.ref (cF Θ1 0)), some (.int a1), some (.int a2), some (.int a3), some (.int a4), some (.ref (cAd Θ1 1 q3)), none]) (st' := [.ref (cAd Θ1 2 n)]) (by simp [va_rf, E.hF, E.hA (show 1 ≠ 2 by decide)]) (by simp [va_rf, E.hF, E.hA (show 1 ≠ 2 by decide)]) ?_
                      refine WA.gen (fun σ38 => ?_)
                      refine r_dup C1 dX11_person_119 rfl ?_
                      refine r_aload_n C1 dX11_person_120 rfl ?_
                      refine r_getF0 C1 dX11_person_121 fg_X11_10 (by decide) ?_
                      refine r_getI0 C1 dX11_person_124 fg_X11_118 (by decide) ?_
                      refine r_iload_n C1 dX11_person_127 rfl ?_
                      refine r_iload_n C1 dX11_person_128 rfl ?_
                      refine r_iload C1 dX11_person_129 rfl ?_
                      refine r_callI C1 (st := [.ref (cAd Θ1 2 n)]) (As := [.int (σ38.1 0 1 3), .int a2, .int a3, .int a4]) (b := (cAd Θ1 2 n)) dX11_person_131 ml_X11_123 iw_X5_init rfl (fun r39 e => c_p_Person_init Θ1.1.2.1 (cW Θ1) (cAd Θ1) (cN Θ1) σ38 n (σ38.1 0 1 3) a2 a3 a4 hnn r39 e) rfl rfl (Nat.le_of_ble_eq_true rfl) ⟨rfl, rfl, by decide, by decide⟩ (fun r39 h40 => ?_)
                      refine r_astore C1 (x := some (cAd Θ1 2 n)) [some (.ref (cF Θ1 0)), some (.int a1), some (.int a2), some (.int a3), some (.int a4), some (.ref (cAd Θ1 1 q3)), some (.ref (cAd Θ1 2 n))] dX11_person_134 rfl (by decide) rfl ?_
                      refine r_aload C1 dX11_person_136 rfl ?_
                      refine r_aload C1 dX11_person_138 rfl ?_
                      refine r_callV C1 (st := []) (As := [.ref (cAd Θ1 1 q3)]) (d := 2) (j := n) dX11_person_140 ml_X11_126 vw_X5_hold ⟨_, _, _, _, rfl, rfl⟩ (dmk (by decide) (by decide) hnn) (fun r41 e => c_p_Person_hold Θ1.1.2.1 (cW Θ1) (cAd Θ1) (cN Θ1) r39 n (some q3) hnn (fun q e => (Option.some.inj e) ▸ h4) r41 e) rfl rfl (Nat.le_of_ble_eq_true rfl) ⟨rfl, rfl, by decide, by decide⟩ (fun r41 h42 => ?_)
                      refine r_aload_n C1 dX11_person_143 rfl ?_
                      refine r_getF0 C1 dX11_person_144 fg_X11_10 (by decide) ?_
                      refine r_aload C1 dX11_person_147 rfl ?_
                      refine r_callV C1 (st := []) (As := [.ref (cAd Θ1 2 n)]) (d := 0) (j := 1) dX11_person_149 ml_X11_130 vw_X3_addPerson ⟨_, _, _, _, rfl, rfl⟩ (dm0 (by decide)) (fun r43 e => c_p_Firm_addPerson Θ1.1.2.1 (cW Θ1) (cAd Θ1) (cN Θ1) r41 n hnn r43 e) rfl rfl (Nat.le_of_ble_eq_true rfl) ⟨rfl, rfl, by decide, by decide⟩ (fun r43 h44 => ?_)
                      exact r_iretA C1 E (by rw [hc0]; decide) (by rw [hc0]; decide) dX11_person_152 rfl rfl rfl trivial
                    · refine r_aload_n C dX11_person_109 rfl ?_
                      refine r_bipush C (-6 : Int32) dX11_person_110 (by decide) ?_
                      refine r_callV C (st := []) (As := [.int (-6 : Int32)]) (d := 0) (j := 0) dX11_person_112 ml_X11_64 vw_X11_refuse ⟨_, _, _, _, rfl, rfl⟩ (dm0 (by decide)) (fun r45 e => c_p_PE_refuse Θ.1.2.1 (cW Θ) (cAd Θ) (cN Θ) σ (-6 : Int32) r45 e) rfl rfl (Nat.le_of_ble_eq_true rfl) ⟨rfl, rfl, by decide, by decide⟩ (fun r45 h46 => ?_)
                      exact r_iretA C (Ext.refl Θ bn) (by rw [hc0]; decide) (by rw [hc0]; decide) dX11_person_115 rfl rfl rfl trivial
            · refine r_aload_n C dX11_person_64 rfl ?_
              refine r_bipush C (-4 : Int32) dX11_person_65 (by decide) ?_
              refine r_callV C (st := []) (As := [.int (-4 : Int32)]) (d := 0) (j := 0) dX11_person_67 ml_X11_64 vw_X11_refuse ⟨_, _, _, _, rfl, rfl⟩ (dm0 (by decide)) (fun r47 e => c_p_PE_refuse Θ.1.2.1 (cW Θ) (cAd Θ) (cN Θ) σ (-4 : Int32) r47 e) rfl rfl (Nat.le_of_ble_eq_true rfl) ⟨rfl, rfl, by decide, by decide⟩ (fun r47 h48 => ?_)
              exact r_iretA C (Ext.refl Θ bn) (by rw [hc0]; decide) (by rw [hc0]; decide) dX11_person_70 rfl rfl rfl trivial
      · refine r_aload_n C dX11_person_39 rfl ?_
        refine r_bipush C (-3 : Int32) dX11_person_40 (by decide) ?_
        refine r_callV C (st := []) (As := [.int (-3 : Int32)]) (d := 0) (j := 0) dX11_person_42 ml_X11_64 vw_X11_refuse ⟨_, _, _, _, rfl, rfl⟩ (dm0 (by decide)) (fun r49 e => c_p_PE_refuse Θ.1.2.1 (cW Θ) (cAd Θ) (cN Θ) σ (-3 : Int32) r49 e) rfl rfl (Nat.le_of_ble_eq_true rfl) ⟨rfl, rfl, by decide, by decide⟩ (fun r49 h50 => ?_)
        exact r_iretA C (Ext.refl Θ bn) (by rw [hc0]; decide) (by rw [hc0]; decide) dX11_person_45 rfl rfl rfl trivial
  · refine r_aloadQ C (x := Option.map (cAd Θ 1) r1) dX11_person_15 rfl ?_
    rcases r1 with _ | q51
    · refine r_ifnonnullN C dX11_person_17 ?_
      refine r_aload_n C dX11_person_20 rfl ?_
      refine r_iconst C (-1 : Int32) dX11_person_21 (by decide) ?_
      refine r_callV C (st := []) (As := [.int (-1 : Int32)]) (d := 0) (j := 0) dX11_person_22 ml_X11_64 vw_X11_refuse ⟨_, _, _, _, rfl, rfl⟩ (dm0 (by decide)) (fun r53 e => c_p_PE_refuse Θ.1.2.1 (cW Θ) (cAd Θ) (cN Θ) σ (-1 : Int32) r53 e) rfl rfl (Nat.le_of_ble_eq_true rfl) ⟨rfl, rfl, by decide, by decide⟩ (fun r53 h54 => ?_)
      exact r_iretA C (Ext.refl Θ bn) (by rw [hc0]; decide) (by rw [hc0]; decide) dX11_person_25 rfl rfl rfl trivial
    · have h52 := h2 q51 rfl
      refine r_ifnonnullS C 26 dX11_person_17 (by decide) ?_
      refine r_aload C dX11_person_26 rfl ?_
      refine r_ifnullK C dX11_person_28 ?_
      refine r_aload C dX11_person_31 rfl ?_
      refine r_callV C (st := []) (As := []) (d := 1) (j := q51) dX11_person_33 ml_X11_115 vw_X7_isVacant ⟨_, _, _, _, rfl, rfl⟩ (dmk (by decide) (by decide) h52) (fun r55 e => c_p_Post_isVacant Θ.1.2.1 (cW Θ) (cAd Θ) (cN Θ) σ q51 h52 r55 e) rfl rfl (Nat.le_of_ble_eq_true rfl) ⟨rfl, rfl, by decide, by decide⟩ (fun r55 h56 => ?_)
      refine r_if_ne C 46 dX11_person_36 (by decide) ?_ ?_
      · refine r_iload_n C dX11_person_46 rfl ?_
        refine r_if_lt C 64 dX11_person_47 (by decide) ?_ ?_
        · refine r_aload_n C dX11_person_64 rfl ?_
          refine r_bipush C (-4 : Int32) dX11_person_65 (by decide) ?_
          refine r_callV C (st := []) (As := [.int (-4 : Int32)]) (d := 0) (j := 0) dX11_person_67 ml_X11_64 vw_X11_refuse ⟨_, _, _, _, rfl, rfl⟩ (dm0 (by decide)) (fun r57 e => c_p_PE_refuse Θ.1.2.1 (cW Θ) (cAd Θ) (cN Θ) σ (-4 : Int32) r57 e) rfl rfl (Nat.le_of_ble_eq_true rfl) ⟨rfl, rfl, by decide, by decide⟩ (fun r57 h58 => ?_)
          exact r_iretA C (Ext.refl Θ bn) (by rw [hc0]; decide) (by rw [hc0]; decide) dX11_person_70 rfl rfl rfl trivial
        · refine r_iload_n C dX11_person_50 rfl ?_
          refine r_sipush C (-20000 : Int32) dX11_person_51 (by decide) ?_
          refine r_icmp_lt C 64 dX11_person_54 (by decide) ?_ ?_
          · refine r_aload_n C dX11_person_64 rfl ?_
            refine r_bipush C (-4 : Int32) dX11_person_65 (by decide) ?_
            refine r_callV C (st := []) (As := [.int (-4 : Int32)]) (d := 0) (j := 0) dX11_person_67 ml_X11_64 vw_X11_refuse ⟨_, _, _, _, rfl, rfl⟩ (dm0 (by decide)) (fun r59 e => c_p_PE_refuse Θ.1.2.1 (cW Θ) (cAd Θ) (cN Θ) σ (-4 : Int32) r59 e) rfl rfl (Nat.le_of_ble_eq_true rfl) ⟨rfl, rfl, by decide, by decide⟩ (fun r59 h60 => ?_)
            exact r_iretA C (Ext.refl Θ bn) (by rw [hc0]; decide) (by rw [hc0]; decide) dX11_person_70 rfl rfl rfl trivial
          · refine r_iload C dX11_person_57 rfl ?_
            refine r_bipush C (100 : Int32) dX11_person_59 (by decide) ?_
            refine r_icmp_ge C 71 dX11_person_61 (by decide) ?_ ?_
            · refine r_iload_n C dX11_person_71 rfl ?_
              refine r_sipush C (1023 : Int32) dX11_person_72 (by decide) ?_
              refine r_icmp_gt C 109 dX11_person_75 (by decide) ?_ ?_
              · refine r_aload_n C dX11_person_109 rfl ?_
                refine r_bipush C (-6 : Int32) dX11_person_110 (by decide) ?_
                refine r_callV C (st := []) (As := [.int (-6 : Int32)]) (d := 0) (j := 0) dX11_person_112 ml_X11_64 vw_X11_refuse ⟨_, _, _, _, rfl, rfl⟩ (dm0 (by decide)) (fun r61 e => c_p_PE_refuse Θ.1.2.1 (cW Θ) (cAd Θ) (cN Θ) σ (-6 : Int32) r61 e) rfl rfl (Nat.le_of_ble_eq_true rfl) ⟨rfl, rfl, by decide, by decide⟩ (fun r61 h62 => ?_)
                exact r_iretA C (Ext.refl Θ bn) (by rw [hc0]; decide) (by rw [hc0]; decide) dX11_person_115 rfl rfl rfl trivial
              · refine r_iload_n C dX11_person_78 rfl ?_
                refine r_aload_n C dX11_person_79 rfl ?_
                refine r_getF0 C dX11_person_80 fg_X11_10 (by decide) ?_
                refine r_getI0 C dX11_person_83 fg_X11_68 (by decide) ?_
                refine r_icmp_gt C 109 dX11_person_86 (by decide) ?_ ?_
                · refine r_aload_n C dX11_person_109 rfl ?_
                  refine r_bipush C (-6 : Int32) dX11_person_110 (by decide) ?_
                  refine r_callV C (st := []) (As := [.int (-6 : Int32)]) (d := 0) (j := 0) dX11_person_112 ml_X11_64 vw_X11_refuse ⟨_, _, _, _, rfl, rfl⟩ (dm0 (by decide)) (fun r63 e => c_p_PE_refuse Θ.1.2.1 (cW Θ) (cAd Θ) (cN Θ) σ (-6 : Int32) r63 e) rfl rfl (Nat.le_of_ble_eq_true rfl) ⟨rfl, rfl, by decide, by decide⟩ (fun r63 h64 => ?_)
                  exact r_iretA C (Ext.refl Θ bn) (by rw [hc0]; decide) (by rw [hc0]; decide) dX11_person_115 rfl rfl rfl trivial
                · refine r_iload C dX11_person_89 rfl ?_
                  refine r_sipush C (9999 : Int32) dX11_person_91 (by decide) ?_
                  refine r_icmp_gt C 109 dX11_person_94 (by decide) ?_ ?_
                  · refine r_aload_n C dX11_person_109 rfl ?_
                    refine r_bipush C (-6 : Int32) dX11_person_110 (by decide) ?_
                    refine r_callV C (st := []) (As := [.int (-6 : Int32)]) (d := 0) (j := 0) dX11_person_112 ml_X11_64 vw_X11_refuse ⟨_, _, _, _, rfl, rfl⟩ (dm0 (by decide)) (fun r65 e => c_p_PE_refuse Θ.1.2.1 (cW Θ) (cAd Θ) (cN Θ) σ (-6 : Int32) r65 e) rfl rfl (Nat.le_of_ble_eq_true rfl) ⟨rfl, rfl, by decide, by decide⟩ (fun r65 h66 => ?_)
                    exact r_iretA C (Ext.refl Θ bn) (by rw [hc0]; decide) (by rw [hc0]; decide) dX11_person_115 rfl rfl rfl trivial
                  · refine r_aload_n C dX11_person_97 rfl ?_
                    refine r_getF0 C dX11_person_98 fg_X11_10 (by decide) ?_
                    refine r_getI0 C dX11_person_101 fg_X11_118 (by decide) ?_
                    refine r_bipush C (40 : Int32) dX11_person_104 (by decide) ?_
                    refine r_icmp_lt C 116 dX11_person_106 (by decide) ?_ ?_
                    · refine r_new C dX11_person_116 nw_X11_121 (by decide) bn (by rw [hc0]; decide) (by rw [hc0]; decide) (fun Θ1 C1 E => ?_)
                      have h52 := E.lt h52
                      have hnn : n < cN Θ1 2 := by rw [E.hN]; exact Nat.lt_succ_self n
                      refine WA.rl (lv' := [some (.ref (cF Θ1 0)), some (.int a1), some (.int a2), some (.int a3), some (.int a4), some (.ref (cAd Θ1 1 q51)), none]) (st' := [.ref (cAd Θ1 2 n)]) (by simp [va_rf, E.hF, E.hA (show 1 ≠ 2 by decide)]) (by simp [va_rf, E.hF, E.hA (show 1 ≠ 2 by decide)]) ?_
                      refine WA.gen (fun σ67 => ?_)
                      refine r_dup C1 dX11_person_119 rfl ?_
                      refine r_aload_n C1 dX11_person_120 rfl ?_
                      refine r_getF0 C1 dX11_person_121 fg_X11_10 (by decide) ?_
                      refine r_getI0 C1 dX11_person_124 fg_X11_118 (by decide) ?_
                      refine r_iload_n C1 dX11_person_127 rfl ?_
                      refine r_iload_n C1 dX11_person_128 rfl ?_
                      refine r_iload C1 dX11_person_129 rfl ?_
                      refine r_callI C1 (st := [.ref (cAd Θ1 2 n)]) (As := [.int (σ67.1 0 1 3), .int a2, .int a3, .int a4]) (b := (cAd Θ1 2 n)) dX11_person_131 ml_X11_123 iw_X5_init rfl (fun r68 e => c_p_Person_init Θ1.1.2.1 (cW Θ1) (cAd Θ1) (cN Θ1) σ67 n (σ67.1 0 1 3) a2 a3 a4 hnn r68 e) rfl rfl (Nat.le_of_ble_eq_true rfl) ⟨rfl, rfl, by decide, by decide⟩ (fun r68 h69 => ?_)
                      refine r_astore C1 (x := some (cAd Θ1 2 n)) [some (.ref (cF Θ1 0)), some (.int a1), some (.int a2), some (.int a3), some (.int a4), some (.ref (cAd Θ1 1 q51)), some (.ref (cAd Θ1 2 n))] dX11_person_134 rfl (by decide) rfl ?_
                      refine r_aload C1 dX11_person_136 rfl ?_
                      refine r_aload C1 dX11_person_138 rfl ?_
                      refine r_callV C1 (st := []) (As := [.ref (cAd Θ1 1 q51)]) (d := 2) (j := n) dX11_person_140 ml_X11_126 vw_X5_hold ⟨_, _, _, _, rfl, rfl⟩ (dmk (by decide) (by decide) hnn) (fun r70 e => c_p_Person_hold Θ1.1.2.1 (cW Θ1) (cAd Θ1) (cN Θ1) r68 n (some q51) hnn (fun q e => (Option.some.inj e) ▸ h52) r70 e) rfl rfl (Nat.le_of_ble_eq_true rfl) ⟨rfl, rfl, by decide, by decide⟩ (fun r70 h71 => ?_)
                      refine r_aload_n C1 dX11_person_143 rfl ?_
                      refine r_getF0 C1 dX11_person_144 fg_X11_10 (by decide) ?_
                      refine r_aload C1 dX11_person_147 rfl ?_
                      refine r_callV C1 (st := []) (As := [.ref (cAd Θ1 2 n)]) (d := 0) (j := 1) dX11_person_149 ml_X11_130 vw_X3_addPerson ⟨_, _, _, _, rfl, rfl⟩ (dm0 (by decide)) (fun r72 e => c_p_Firm_addPerson Θ1.1.2.1 (cW Θ1) (cAd Θ1) (cN Θ1) r70 n hnn r72 e) rfl rfl (Nat.le_of_ble_eq_true rfl) ⟨rfl, rfl, by decide, by decide⟩ (fun r72 h73 => ?_)
                      exact r_iretA C1 E (by rw [hc0]; decide) (by rw [hc0]; decide) dX11_person_152 rfl rfl rfl trivial
                    · refine r_aload_n C dX11_person_109 rfl ?_
                      refine r_bipush C (-6 : Int32) dX11_person_110 (by decide) ?_
                      refine r_callV C (st := []) (As := [.int (-6 : Int32)]) (d := 0) (j := 0) dX11_person_112 ml_X11_64 vw_X11_refuse ⟨_, _, _, _, rfl, rfl⟩ (dm0 (by decide)) (fun r74 e => c_p_PE_refuse Θ.1.2.1 (cW Θ) (cAd Θ) (cN Θ) σ (-6 : Int32) r74 e) rfl rfl (Nat.le_of_ble_eq_true rfl) ⟨rfl, rfl, by decide, by decide⟩ (fun r74 h75 => ?_)
                      exact r_iretA C (Ext.refl Θ bn) (by rw [hc0]; decide) (by rw [hc0]; decide) dX11_person_115 rfl rfl rfl trivial
            · refine r_aload_n C dX11_person_64 rfl ?_
              refine r_bipush C (-4 : Int32) dX11_person_65 (by decide) ?_
              refine r_callV C (st := []) (As := [.int (-4 : Int32)]) (d := 0) (j := 0) dX11_person_67 ml_X11_64 vw_X11_refuse ⟨_, _, _, _, rfl, rfl⟩ (dm0 (by decide)) (fun r76 e => c_p_PE_refuse Θ.1.2.1 (cW Θ) (cAd Θ) (cN Θ) σ (-4 : Int32) r76 e) rfl rfl (Nat.le_of_ble_eq_true rfl) ⟨rfl, rfl, by decide, by decide⟩ (fun r76 h77 => ?_)
              exact r_iretA C (Ext.refl Θ bn) (by rw [hc0]; decide) (by rw [hc0]; decide) dX11_person_70 rfl rfl rfl trivial
      · refine r_aload_n C dX11_person_39 rfl ?_
        refine r_bipush C (-3 : Int32) dX11_person_40 (by decide) ?_
        refine r_callV C (st := []) (As := [.int (-3 : Int32)]) (d := 0) (j := 0) dX11_person_42 ml_X11_64 vw_X11_refuse ⟨_, _, _, _, rfl, rfl⟩ (dm0 (by decide)) (fun r78 e => c_p_PE_refuse Θ.1.2.1 (cW Θ) (cAd Θ) (cN Θ) σ (-3 : Int32) r78 e) rfl rfl (Nat.le_of_ble_eq_true rfl) ⟨rfl, rfl, by decide, by decide⟩ (fun r78 h79 => ?_)
        exact r_iretA C (Ext.refl Θ bn) (by rw [hc0]; decide) (by rw [hc0]; decide) dX11_person_45 rfl rfl rfl trivial
theorem c_p_PE_person (l : Launch) (ω : Wd) (ad : Nat → Nat → Nat) (N : Nat → Nat) (σ : St) (n : Nat) (a1 : Int32) (a2 : Int32) (a3 : Int32) (a4 : Int32) (bn : N 2 = n) : ∀ r : (Int32 × St) × Nat, p_PE_person σ n a1 a2 a3 a4 = some r → CtA l yX11_person cX11_person 7 (some .int) ({ frames := 2, cells := 1, slots := 11, locals := 40 } : Room) LC ω ad N [.ref (ω.2.1 0), .int a1, .int a2, .int a3, .int a4] σ 2 1 11 (some (.int r.1.1)) r.1.2 r.2 True :=
  ct_ofA (o := fun r : (Int32 × St) × Nat => some (.int r.1.1)) (s' := fun r => r.1.2) (n' := fun r => r.2) (P := fun _ => True) [some (.ref (ω.2.1 0)), some (.int a1), some (.int a2), some (.int a3), some (.int a4), none, none] (by decide) rfl (Nat.le_of_ble_eq_true rfl) (fun Γ C _ => w_p_PE_person (Γ, ω, 7, ad, N, 0, 0) σ n a1 a2 a3 a4 bn rfl C)
theorem kc_X11_346 : Cond.constant RX11 346 (1000000000) ∈ wt := in_wt 595 (by decide +kernel) (by decide +kernel)
/-- PostsEnd.private int refuseFar(int) -/
def p_PE_refuseFar (σ : St) (a1 : Int32) : Option (Int32 × St) := (Option.bind (p_PE_refuse σ a1) fun r1 => some ((1000000000 : Int32) - r1.1, r1.2))
set_option maxRecDepth 20000 in
set_option maxHeartbeats 4000000 in
theorem w_p_PE_refuseFar (Θ : TT) (σ : St) (a1 : Int32) (C : CX Θ cX11_refuseFar RX11 (some .int) ({ frames := 1, cells := 0, slots := 0, locals := 22 } : Room) 2) : WA LC Θ (fun r : Int32 × St => Qm LC Θ (some (.int r.1)) r.2 (True)) 0 [some (.ref (cF Θ 0)), some (.int a1)] [] σ (p_PE_refuseFar σ a1) := by
  unfold p_PE_refuseFar
  refine r_ldcw C dX11_refuseFar_0 kc_X11_346 ?_
  refine r_aload_n C dX11_refuseFar_3 rfl ?_
  refine r_iload_n C dX11_refuseFar_4 rfl ?_
  refine r_callV C (st := [.int (1000000000 : Int32)]) (As := [.int a1]) (d := 0) (j := 0) dX11_refuseFar_5 ml_X11_64 vw_X11_refuse ⟨_, _, _, _, rfl, rfl⟩ (dm0 (by decide)) (fun r1 e => c_p_PE_refuse Θ.1.2.1 (cW Θ) (cAd Θ) (cN Θ) σ a1 r1 e) rfl rfl (Nat.le_of_ble_eq_true rfl) ⟨rfl, rfl, by decide, by decide⟩ (fun r1 h2 => ?_)
  refine r_isub C dX11_refuseFar_8 ?_
  exact r_iret C dX11_refuseFar_9 rfl rfl trivial
theorem c_p_PE_refuseFar (l : Launch) (ω : Wd) (ad : Nat → Nat → Nat) (N : Nat → Nat) (σ : St) (a1 : Int32) : ∀ r : Int32 × St, p_PE_refuseFar σ a1 = some r → Ct l yX11_refuseFar cX11_refuseFar 2 (some .int) ({ frames := 1, cells := 0, slots := 0, locals := 22 } : Room) LC ω ad N [.ref (ω.2.1 0), .int a1] σ (some (.int r.1)) r.2 (True) :=
  ct_of (o := fun r : Int32 × St => (some (.int r.1))) (s' := fun r => r.2) (P := fun r => True) [some (.ref (ω.2.1 0)), some (.int a1)] (by decide) rfl (Nat.le_of_ble_eq_true rfl) (fun Γ C _ _ => w_p_PE_refuseFar (Γ, ω, 2, ad, N, 0, 0) σ a1 C)
theorem vw_X11_refuseFar : VW yX11_refuseFar cX11_refuseFar 2 (some .int) 1 := ⟨⟨(in_wt 80 (by decide +kernel) (by decide +kernel)), (in_wt 594 (by decide +kernel) (by decide +kernel)), by decide +kernel⟩, (in_wt 593 (by decide +kernel) (by decide +kernel)), (in_wt 1 (by decide +kernel) (by decide +kernel))⟩
theorem fg_X11_141 (j : Nat) : FG LC RX11 141 2 j 7 (0, 0) := ⟨_, _, _, _, _, rfl, rfl, rfl, by decide, uw_X5, (in_wt 548 (by decide +kernel) (by decide +kernel))⟩
theorem fp_X11_141 (j : Nat) : FP LC RX11 141 2 j 7 (0, 0) .int := ⟨_, _, _, _, _, tyX5, rfl, rfl, rfl, by decide, uw_X5, (in_wt 548 (by decide +kernel) (by decide +kernel)), tyX5_ok, nmX5, rfl, by decide +kernel⟩
theorem ml_X11_134 : Cond.methodLink RX11 134 yX3_personAt ∈ wt := in_wt 587 (by decide +kernel) (by decide +kernel)
theorem ml_X11_138 : Cond.methodLink RX11 138 yX11_refuseFar ∈ wt := in_wt 591 (by decide +kernel) (by decide +kernel)
/-- PostsEnd.public int protect(int, int) -/
def p_PE_protect (σ : St) (a1 : Int32) (a2 : Int32) : Option (Int32 × St) := (Option.bind (p_Firm_personAt σ a1) fun r1 => (Option.elim r1 ((Option.bind (p_PE_refuseFar σ (-1 : Int32)) fun r5 => some (r5.1, r5.2))) fun q3 => (if a2 < (-1 : Int32) then (Option.bind (p_PE_refuseFar σ (-4 : Int32)) fun r10 => some (r10.1, r10.2)) else (if (9000 : Int32) < a2 then (Option.bind (p_PE_refuseFar σ (-6 : Int32)) fun r8 => some (r8.1, r8.2)) else (lt1 (sx σ 2 q3 7 a2) fun σ7 => some (σ.1 2 q3 7, σ7))))))
set_option maxRecDepth 20000 in
set_option maxHeartbeats 4000000 in
theorem w_p_PE_protect (Θ : TT) (σ : St) (a1 : Int32) (a2 : Int32) (C : CX Θ cX11_protect RX11 (some .int) ({ frames := 2, cells := 0, slots := 0, locals := 43 } : Room) 5) : WA LC Θ (fun r : Int32 × St => Qm LC Θ (some (.int r.1)) r.2 (True)) 0 [some (.ref (cF Θ 0)), some (.int a1), some (.int a2), none, none] [] σ (p_PE_protect σ a1 a2) := by
  unfold p_PE_protect
  refine r_aload_n C dX11_protect_0 rfl ?_
  refine r_getF0 C dX11_protect_1 fg_X11_10 (by decide) ?_
  refine r_iload_n C dX11_protect_4 rfl ?_
  refine r_callV C (st := []) (As := [.int a1]) (d := 0) (j := 1) dX11_protect_5 ml_X11_134 vw_X3_personAt ⟨_, _, _, _, rfl, rfl⟩ (dm0 (by decide)) (fun r1 e => c_p_Firm_personAt Θ.1.2.1 (cW Θ) (cAd Θ) (cN Θ) σ a1 r1 e) rfl rfl (Nat.le_of_ble_eq_true rfl) ⟨rfl, rfl, by decide, by decide⟩ (fun r1 h2 => ?_)
  refine r_astore_n C (x := Option.map (cAd Θ 2) r1) [some (.ref (cF Θ 0)), some (.int a1), some (.int a2), some (va_rf (Option.map (cAd Θ 2) r1)), none] dX11_protect_8 rfl (by decide) rfl ?_
  refine r_aload_nQ C (x := Option.map (cAd Θ 2) r1) dX11_protect_9 rfl ?_
  rcases r1 with _ | q3
  · refine r_ifnonnullN C dX11_protect_10 ?_
    refine r_aload_n C dX11_protect_13 rfl ?_
    refine r_iconst C (-1 : Int32) dX11_protect_14 (by decide) ?_
    refine r_callV C (st := []) (As := [.int (-1 : Int32)]) (d := 0) (j := 0) dX11_protect_15 ml_X11_138 vw_X11_refuseFar ⟨_, _, _, _, rfl, rfl⟩ (dm0 (by decide)) (fun r5 e => c_p_PE_refuseFar Θ.1.2.1 (cW Θ) (cAd Θ) (cN Θ) σ (-1 : Int32) r5 e) rfl rfl (Nat.le_of_ble_eq_true rfl) ⟨rfl, rfl, by decide, by decide⟩ (fun r5 h6 => ?_)
    exact r_iret C dX11_protect_18 rfl rfl trivial
  · have h4 := h2 q3 rfl
    refine r_ifnonnullS C 19 dX11_protect_10 (by decide) ?_
    refine r_iload_n C dX11_protect_19 rfl ?_
    refine r_iconst C (-1 : Int32) dX11_protect_20 (by decide) ?_
    refine r_icmp_ge C 31 dX11_protect_21 (by decide) ?_ ?_
    · refine r_iload_n C dX11_protect_31 rfl ?_
      refine r_sipush C (9000 : Int32) dX11_protect_32 (by decide) ?_
      refine r_icmp_le C 45 dX11_protect_35 (by decide) ?_ ?_
      · refine r_aload_n C dX11_protect_45 rfl ?_
        refine r_getI C dX11_protect_46 (fg_X11_141 _) (by decide) h4 ?_
        refine r_istore C [some (.ref (cF Θ 0)), some (.int a1), some (.int a2), some (.ref (cAd Θ 2 q3)), some (.int (σ.1 2 q3 7))] dX11_protect_49 rfl (by decide) rfl ?_
        refine r_aload_n C dX11_protect_51 rfl ?_
        refine r_iload_n C dX11_protect_52 rfl ?_
        refine r_putI C dX11_protect_53 (fp_X11_141 _) (by decide) h4 ?_
        refine WA.gen (fun σ7 => ?_)
        refine r_iload C dX11_protect_56 rfl ?_
        exact r_iret C dX11_protect_58 rfl rfl trivial
      · refine r_aload_n C dX11_protect_38 rfl ?_
        refine r_bipush C (-6 : Int32) dX11_protect_39 (by decide) ?_
        refine r_callV C (st := []) (As := [.int (-6 : Int32)]) (d := 0) (j := 0) dX11_protect_41 ml_X11_138 vw_X11_refuseFar ⟨_, _, _, _, rfl, rfl⟩ (dm0 (by decide)) (fun r8 e => c_p_PE_refuseFar Θ.1.2.1 (cW Θ) (cAd Θ) (cN Θ) σ (-6 : Int32) r8 e) rfl rfl (Nat.le_of_ble_eq_true rfl) ⟨rfl, rfl, by decide, by decide⟩ (fun r8 h9 => ?_)
        exact r_iret C dX11_protect_44 rfl rfl trivial
    · refine r_aload_n C dX11_protect_24 rfl ?_
      refine r_bipush C (-4 : Int32) dX11_protect_25 (by decide) ?_
      refine r_callV C (st := []) (As := [.int (-4 : Int32)]) (d := 0) (j := 0) dX11_protect_27 ml_X11_138 vw_X11_refuseFar ⟨_, _, _, _, rfl, rfl⟩ (dm0 (by decide)) (fun r10 e => c_p_PE_refuseFar Θ.1.2.1 (cW Θ) (cAd Θ) (cN Θ) σ (-4 : Int32) r10 e) rfl rfl (Nat.le_of_ble_eq_true rfl) ⟨rfl, rfl, by decide, by decide⟩ (fun r10 h11 => ?_)
      exact r_iret C dX11_protect_30 rfl rfl trivial
theorem c_p_PE_protect (l : Launch) (ω : Wd) (ad : Nat → Nat → Nat) (N : Nat → Nat) (σ : St) (a1 : Int32) (a2 : Int32) : ∀ r : Int32 × St, p_PE_protect σ a1 a2 = some r → Ct l yX11_protect cX11_protect 5 (some .int) ({ frames := 2, cells := 0, slots := 0, locals := 43 } : Room) LC ω ad N [.ref (ω.2.1 0), .int a1, .int a2] σ (some (.int r.1)) r.2 (True) :=
  ct_of (o := fun r : Int32 × St => (some (.int r.1))) (s' := fun r => r.2) (P := fun r => True) [some (.ref (ω.2.1 0)), some (.int a1), some (.int a2), none, none] (by decide) rfl (Nat.le_of_ble_eq_true rfl) (fun Γ C _ _ => w_p_PE_protect (Γ, ω, 5, ad, N, 0, 0) σ a1 a2 C)
theorem vw_X7_mayBeHeldBy : VW yX7_mayBeHeldBy cX7_mayBeHeldBy 2 (some .boolean) 1 := ⟨⟨(in_wt 89 (by decide +kernel) (by decide +kernel)), (in_wt 607 (by decide +kernel) (by decide +kernel)), by decide +kernel⟩, (in_wt 605 (by decide +kernel) (by decide +kernel)), (in_wt 606 (by decide +kernel) (by decide +kernel))⟩
theorem fg_X11_151 (j : Nat) : FG LC RX11 151 2 j 4 (2, 0) := ⟨_, _, _, _, _, rfl, rfl, rfl, by decide, uw_X5, (in_wt 540 (by decide +kernel) (by decide +kernel))⟩
theorem fg_X11_155 (j : Nat) : FG LC RX11 155 1 j 0 (0, 0) := ⟨_, _, _, _, _, rfl, rfl, rfl, by decide, uw_X7, (in_wt 440 (by decide +kernel) (by decide +kernel))⟩
theorem ml_X11_144 : Cond.methodLink RX11 144 yX5_isHere ∈ wt := in_wt 600 (by decide +kernel) (by decide +kernel)
theorem ml_X11_147 : Cond.methodLink RX11 147 yX7_mayBeHeldBy ∈ wt := in_wt 604 (by decide +kernel) (by decide +kernel)
/-- PostsEnd.public int move(int, int) -/
def p_PE_move (σ : St) (a1 : Int32) (a2 : Int32) : Option (Int32 × St) := (Option.bind (p_Firm_personAt σ a1) fun r1 => (Option.bind (p_Firm_postAt σ a2) fun r3 => (Option.elim r1 ((Option.bind (p_PE_refuseFar σ (-1 : Int32)) fun r7 => some (r7.1, r7.2))) fun q5 => (if a2 = (-1 : Int32) then (Option.bind (p_Person_isHere σ q5) fun r9 => (if r9 = 0 then (Option.bind (p_PE_refuseFar σ (-3 : Int32)) fun r11 => some (r11.1, r11.2)) else (Option.elim r3 ((lt1 (σ.2 2 q5 4) fun x15 => (Option.bind (p_Person_hold σ q5 none) fun r17 => (Option.elim x15 (some ((-1 : Int32), r17)) fun q19 => some (r17.1 1 q19 0, r17))))) fun q13 => (Option.bind (p_Post_mayBeHeldBy σ q13 q5) fun r21 => (if r21 = 0 then (Option.bind (p_PE_refuseFar σ (-3 : Int32)) fun r29 => some (r29.1, r29.2)) else (lt1 (σ.2 2 q5 4) fun x23 => (Option.bind (p_Person_hold σ q5 (some q13)) fun r25 => (Option.elim x23 (some ((-1 : Int32), r25)) fun q27 => some (r25.1 1 q27 0, r25))))))))) else (Option.elim r3 ((Option.bind (p_PE_refuseFar σ (-1 : Int32)) fun r33 => some (r33.1, r33.2))) fun q31 => (Option.bind (p_Person_isHere σ q5) fun r35 => (if r35 = 0 then (Option.bind (p_PE_refuseFar σ (-3 : Int32)) fun r37 => some (r37.1, r37.2)) else (Option.bind (p_Post_mayBeHeldBy σ q31 q5) fun r39 => (if r39 = 0 then (Option.bind (p_PE_refuseFar σ (-3 : Int32)) fun r47 => some (r47.1, r47.2)) else (lt1 (σ.2 2 q5 4) fun x41 => (Option.bind (p_Person_hold σ q5 (some q31)) fun r43 => (Option.elim x41 (some ((-1 : Int32), r43)) fun q45 => some (r43.1 1 q45 0, r43)))))))))))))
set_option maxRecDepth 20000 in
set_option maxHeartbeats 4000000 in
theorem w_p_PE_move (Θ : TT) (σ : St) (a1 : Int32) (a2 : Int32) (C : CX Θ cX11_move RX11 (some .int) ({ frames := 2, cells := 0, slots := 0, locals := 43 } : Room) 6) : WA LC Θ (fun r : Int32 × St => Qm LC Θ (some (.int r.1)) r.2 (True)) 0 [some (.ref (cF Θ 0)), some (.int a1), some (.int a2), none, none, none] [] σ (p_PE_move σ a1 a2) := by
  unfold p_PE_move
  refine r_aload_n C dX11_move_0 rfl ?_
  refine r_getF0 C dX11_move_1 fg_X11_10 (by decide) ?_
  refine r_iload_n C dX11_move_4 rfl ?_
  refine r_callV C (st := []) (As := [.int a1]) (d := 0) (j := 1) dX11_move_5 ml_X11_134 vw_X3_personAt ⟨_, _, _, _, rfl, rfl⟩ (dm0 (by decide)) (fun r1 e => c_p_Firm_personAt Θ.1.2.1 (cW Θ) (cAd Θ) (cN Θ) σ a1 r1 e) rfl rfl (Nat.le_of_ble_eq_true rfl) ⟨rfl, rfl, by decide, by decide⟩ (fun r1 h2 => ?_)
  refine r_astore_n C (x := Option.map (cAd Θ 2) r1) [some (.ref (cF Θ 0)), some (.int a1), some (.int a2), some (va_rf (Option.map (cAd Θ 2) r1)), none, none] dX11_move_8 rfl (by decide) rfl ?_
  refine r_aload_n C dX11_move_9 rfl ?_
  refine r_getF0 C dX11_move_10 fg_X11_10 (by decide) ?_
  refine r_iload_n C dX11_move_13 rfl ?_
  refine r_callV C (st := []) (As := [.int a2]) (d := 0) (j := 1) dX11_move_14 ml_X11_94 vw_X3_postAt ⟨_, _, _, _, rfl, rfl⟩ (dm0 (by decide)) (fun r3 e => c_p_Firm_postAt Θ.1.2.1 (cW Θ) (cAd Θ) (cN Θ) σ a2 r3 e) rfl rfl (Nat.le_of_ble_eq_true rfl) ⟨rfl, rfl, by decide, by decide⟩ (fun r3 h4 => ?_)
  refine r_astore C (x := Option.map (cAd Θ 1) r3) [some (.ref (cF Θ 0)), some (.int a1), some (.int a2), some (va_rf (Option.map (cAd Θ 2) r1)), some (va_rf (Option.map (cAd Θ 1) r3)), none] dX11_move_17 rfl (by decide) (lvok_q (x := Option.map (cAd Θ 2) r1) rfl) ?_
  refine r_aload_nQ C (x := Option.map (cAd Θ 2) r1) dX11_move_19 rfl ?_
  rcases r1 with _ | q5
  · refine r_ifnullN C 33 dX11_move_20 (by decide) ?_
    refine r_aload_n C dX11_move_33 rfl ?_
    refine r_iconst C (-1 : Int32) dX11_move_34 (by decide) ?_
    refine r_callV C (st := []) (As := [.int (-1 : Int32)]) (d := 0) (j := 0) dX11_move_35 ml_X11_138 vw_X11_refuseFar ⟨_, _, _, _, rfl, rfl⟩ (dm0 (by decide)) (fun r7 e => c_p_PE_refuseFar Θ.1.2.1 (cW Θ) (cAd Θ) (cN Θ) σ (-1 : Int32) r7 e) rfl rfl (Nat.le_of_ble_eq_true rfl) ⟨rfl, rfl, by decide, by decide⟩ (fun r7 h8 => ?_)
    exact r_iret C dX11_move_38 rfl rfl trivial
  · have h6 := h2 q5 rfl
    refine r_ifnullS C dX11_move_20 ?_
    refine r_iload_n C dX11_move_23 rfl ?_
    refine r_iconst C (-1 : Int32) dX11_move_24 (by decide) ?_
    refine r_icmp_eq C 39 dX11_move_25 (by decide) ?_ ?_
    · refine r_aload_n C dX11_move_39 rfl ?_
      refine r_callV C (st := []) (As := []) (d := 2) (j := q5) dX11_move_40 ml_X11_144 vw_X5_isHere ⟨_, _, _, _, rfl, rfl⟩ (dmk (by decide) (by decide) h6) (fun r9 e => c_p_Person_isHere Θ.1.2.1 (cW Θ) (cAd Θ) (cN Θ) σ q5 h6 r9 e) rfl rfl (Nat.le_of_ble_eq_true rfl) ⟨rfl, rfl, by decide, by decide⟩ (fun r9 h10 => ?_)
      refine r_if_eq C 60 dX11_move_43 (by decide) ?_ ?_
      · refine r_aload_n C dX11_move_60 rfl ?_
        refine r_bipush C (-3 : Int32) dX11_move_61 (by decide) ?_
        refine r_callV C (st := []) (As := [.int (-3 : Int32)]) (d := 0) (j := 0) dX11_move_63 ml_X11_138 vw_X11_refuseFar ⟨_, _, _, _, rfl, rfl⟩ (dm0 (by decide)) (fun r11 e => c_p_PE_refuseFar Θ.1.2.1 (cW Θ) (cAd Θ) (cN Θ) σ (-3 : Int32) r11 e) rfl rfl (Nat.le_of_ble_eq_true rfl) ⟨rfl, rfl, by decide, by decide⟩ (fun r11 h12 => ?_)
        exact r_iret C dX11_move_66 rfl rfl trivial
      · refine r_aloadQ C (x := Option.map (cAd Θ 1) r3) dX11_move_46 rfl ?_
        rcases r3 with _ | q13
        · refine r_ifnullN C 67 dX11_move_48 (by decide) ?_
          refine r_aload_n C dX11_move_67 rfl ?_
          refine r_getQ C dX11_move_68 (fg_X11_151 _) (by decide) h6 (fun x15 h16 => ?_)
          refine r_astore C (x := Option.map (cAd Θ 1) x15) [some (.ref (cF Θ 0)), some (.int a1), some (.int a2), some (.ref (cAd Θ 2 q5)), some (.null), some (va_rf (Option.map (cAd Θ 1) x15))] dX11_move_71 rfl (by decide) rfl ?_
          refine r_aload_n C dX11_move_73 rfl ?_
          refine r_aloadQ C (x := none) dX11_move_74 rfl ?_
          refine r_callV C (st := []) (As := [.null]) (d := 2) (j := q5) dX11_move_76 ml_X11_126 vw_X5_hold ⟨_, _, _, _, rfl, rfl⟩ (dmk (by decide) (by decide) h6) (fun r17 e => c_p_Person_hold Θ.1.2.1 (cW Θ) (cAd Θ) (cN Θ) σ q5 none h6 (fun q e => nomatch e) r17 e) rfl rfl (Nat.le_of_ble_eq_true rfl) ⟨rfl, rfl, by decide, by decide⟩ (fun r17 h18 => ?_)
          refine r_aloadQ C (x := Option.map (cAd Θ 1) x15) dX11_move_79 rfl ?_
          rcases x15 with _ | q19
          · refine r_ifnonnullN C dX11_move_81 ?_
            refine r_iconst C (-1 : Int32) dX11_move_84 (by decide) ?_
            refine r_goto C 93 dX11_move_85 (by decide) ?_
            exact r_iret C dX11_move_93 rfl rfl trivial
          · have h20 := h16 q19 rfl
            refine r_ifnonnullS C 88 dX11_move_81 (by decide) ?_
            refine r_aload C dX11_move_88 rfl ?_
            refine r_getI C dX11_move_90 (fg_X11_155 _) (by decide) h20 ?_
            exact r_iret C dX11_move_93 rfl rfl trivial
        · have h14 := h4 q13 rfl
          refine r_ifnullS C dX11_move_48 ?_
          refine r_aload C dX11_move_51 rfl ?_
          refine r_aload_n C dX11_move_53 rfl ?_
          refine r_callV C (st := []) (As := [.ref (cAd Θ 2 q5)]) (d := 1) (j := q13) dX11_move_54 ml_X11_147 vw_X7_mayBeHeldBy ⟨_, _, _, _, rfl, rfl⟩ (dmk (by decide) (by decide) h14) (fun r21 e => c_p_Post_mayBeHeldBy Θ.1.2.1 (cW Θ) (cAd Θ) (cN Θ) σ q13 q5 h14 h6 r21 e) rfl rfl (Nat.le_of_ble_eq_true rfl) ⟨rfl, rfl, by decide, by decide⟩ (fun r21 h22 => ?_)
          refine r_if_ne C 67 dX11_move_57 (by decide) ?_ ?_
          · refine r_aload_n C dX11_move_67 rfl ?_
            refine r_getQ C dX11_move_68 (fg_X11_151 _) (by decide) h6 (fun x23 h24 => ?_)
            refine r_astore C (x := Option.map (cAd Θ 1) x23) [some (.ref (cF Θ 0)), some (.int a1), some (.int a2), some (.ref (cAd Θ 2 q5)), some (.ref (cAd Θ 1 q13)), some (va_rf (Option.map (cAd Θ 1) x23))] dX11_move_71 rfl (by decide) rfl ?_
            refine r_aload_n C dX11_move_73 rfl ?_
            refine r_aload C dX11_move_74 rfl ?_
            refine r_callV C (st := []) (As := [.ref (cAd Θ 1 q13)]) (d := 2) (j := q5) dX11_move_76 ml_X11_126 vw_X5_hold ⟨_, _, _, _, rfl, rfl⟩ (dmk (by decide) (by decide) h6) (fun r25 e => c_p_Person_hold Θ.1.2.1 (cW Θ) (cAd Θ) (cN Θ) σ q5 (some q13) h6 (fun q e => (Option.some.inj e) ▸ h14) r25 e) rfl rfl (Nat.le_of_ble_eq_true rfl) ⟨rfl, rfl, by decide, by decide⟩ (fun r25 h26 => ?_)
            refine r_aloadQ C (x := Option.map (cAd Θ 1) x23) dX11_move_79 rfl ?_
            rcases x23 with _ | q27
            · refine r_ifnonnullN C dX11_move_81 ?_
              refine r_iconst C (-1 : Int32) dX11_move_84 (by decide) ?_
              refine r_goto C 93 dX11_move_85 (by decide) ?_
              exact r_iret C dX11_move_93 rfl rfl trivial
            · have h28 := h24 q27 rfl
              refine r_ifnonnullS C 88 dX11_move_81 (by decide) ?_
              refine r_aload C dX11_move_88 rfl ?_
              refine r_getI C dX11_move_90 (fg_X11_155 _) (by decide) h28 ?_
              exact r_iret C dX11_move_93 rfl rfl trivial
          · refine r_aload_n C dX11_move_60 rfl ?_
            refine r_bipush C (-3 : Int32) dX11_move_61 (by decide) ?_
            refine r_callV C (st := []) (As := [.int (-3 : Int32)]) (d := 0) (j := 0) dX11_move_63 ml_X11_138 vw_X11_refuseFar ⟨_, _, _, _, rfl, rfl⟩ (dm0 (by decide)) (fun r29 e => c_p_PE_refuseFar Θ.1.2.1 (cW Θ) (cAd Θ) (cN Θ) σ (-3 : Int32) r29 e) rfl rfl (Nat.le_of_ble_eq_true rfl) ⟨rfl, rfl, by decide, by decide⟩ (fun r29 h30 => ?_)
            exact r_iret C dX11_move_66 rfl rfl trivial
    · refine r_aloadQ C (x := Option.map (cAd Θ 1) r3) dX11_move_28 rfl ?_
      rcases r3 with _ | q31
      · refine r_ifnonnullN C dX11_move_30 ?_
        refine r_aload_n C dX11_move_33 rfl ?_
        refine r_iconst C (-1 : Int32) dX11_move_34 (by decide) ?_
        refine r_callV C (st := []) (As := [.int (-1 : Int32)]) (d := 0) (j := 0) dX11_move_35 ml_X11_138 vw_X11_refuseFar ⟨_, _, _, _, rfl, rfl⟩ (dm0 (by decide)) (fun r33 e => c_p_PE_refuseFar Θ.1.2.1 (cW Θ) (cAd Θ) (cN Θ) σ (-1 : Int32) r33 e) rfl rfl (Nat.le_of_ble_eq_true rfl) ⟨rfl, rfl, by decide, by decide⟩ (fun r33 h34 => ?_)
        exact r_iret C dX11_move_38 rfl rfl trivial
      · have h32 := h4 q31 rfl
        refine r_ifnonnullS C 39 dX11_move_30 (by decide) ?_
        refine r_aload_n C dX11_move_39 rfl ?_
        refine r_callV C (st := []) (As := []) (d := 2) (j := q5) dX11_move_40 ml_X11_144 vw_X5_isHere ⟨_, _, _, _, rfl, rfl⟩ (dmk (by decide) (by decide) h6) (fun r35 e => c_p_Person_isHere Θ.1.2.1 (cW Θ) (cAd Θ) (cN Θ) σ q5 h6 r35 e) rfl rfl (Nat.le_of_ble_eq_true rfl) ⟨rfl, rfl, by decide, by decide⟩ (fun r35 h36 => ?_)
        refine r_if_eq C 60 dX11_move_43 (by decide) ?_ ?_
        · refine r_aload_n C dX11_move_60 rfl ?_
          refine r_bipush C (-3 : Int32) dX11_move_61 (by decide) ?_
          refine r_callV C (st := []) (As := [.int (-3 : Int32)]) (d := 0) (j := 0) dX11_move_63 ml_X11_138 vw_X11_refuseFar ⟨_, _, _, _, rfl, rfl⟩ (dm0 (by decide)) (fun r37 e => c_p_PE_refuseFar Θ.1.2.1 (cW Θ) (cAd Θ) (cN Θ) σ (-3 : Int32) r37 e) rfl rfl (Nat.le_of_ble_eq_true rfl) ⟨rfl, rfl, by decide, by decide⟩ (fun r37 h38 => ?_)
          exact r_iret C dX11_move_66 rfl rfl trivial
        · refine r_aload C dX11_move_46 rfl ?_
          refine r_ifnullK C dX11_move_48 ?_
          refine r_aload C dX11_move_51 rfl ?_
          refine r_aload_n C dX11_move_53 rfl ?_
          refine r_callV C (st := []) (As := [.ref (cAd Θ 2 q5)]) (d := 1) (j := q31) dX11_move_54 ml_X11_147 vw_X7_mayBeHeldBy ⟨_, _, _, _, rfl, rfl⟩ (dmk (by decide) (by decide) h32) (fun r39 e => c_p_Post_mayBeHeldBy Θ.1.2.1 (cW Θ) (cAd Θ) (cN Θ) σ q31 q5 h32 h6 r39 e) rfl rfl (Nat.le_of_ble_eq_true rfl) ⟨rfl, rfl, by decide, by decide⟩ (fun r39 h40 => ?_)
          refine r_if_ne C 67 dX11_move_57 (by decide) ?_ ?_
          · refine r_aload_n C dX11_move_67 rfl ?_
            refine r_getQ C dX11_move_68 (fg_X11_151 _) (by decide) h6 (fun x41 h42 => ?_)
            refine r_astore C (x := Option.map (cAd Θ 1) x41) [some (.ref (cF Θ 0)), some (.int a1), some (.int a2), some (.ref (cAd Θ 2 q5)), some (.ref (cAd Θ 1 q31)), some (va_rf (Option.map (cAd Θ 1) x41))] dX11_move_71 rfl (by decide) rfl ?_
            refine r_aload_n C dX11_move_73 rfl ?_
            refine r_aload C dX11_move_74 rfl ?_
            refine r_callV C (st := []) (As := [.ref (cAd Θ 1 q31)]) (d := 2) (j := q5) dX11_move_76 ml_X11_126 vw_X5_hold ⟨_, _, _, _, rfl, rfl⟩ (dmk (by decide) (by decide) h6) (fun r43 e => c_p_Person_hold Θ.1.2.1 (cW Θ) (cAd Θ) (cN Θ) σ q5 (some q31) h6 (fun q e => (Option.some.inj e) ▸ h32) r43 e) rfl rfl (Nat.le_of_ble_eq_true rfl) ⟨rfl, rfl, by decide, by decide⟩ (fun r43 h44 => ?_)
            refine r_aloadQ C (x := Option.map (cAd Θ 1) x41) dX11_move_79 rfl ?_
            rcases x41 with _ | q45
            · refine r_ifnonnullN C dX11_move_81 ?_
              refine r_iconst C (-1 : Int32) dX11_move_84 (by decide) ?_
              refine r_goto C 93 dX11_move_85 (by decide) ?_
              exact r_iret C dX11_move_93 rfl rfl trivial
            · have h46 := h42 q45 rfl
              refine r_ifnonnullS C 88 dX11_move_81 (by decide) ?_
              refine r_aload C dX11_move_88 rfl ?_
              refine r_getI C dX11_move_90 (fg_X11_155 _) (by decide) h46 ?_
              exact r_iret C dX11_move_93 rfl rfl trivial
          · refine r_aload_n C dX11_move_60 rfl ?_
            refine r_bipush C (-3 : Int32) dX11_move_61 (by decide) ?_
            refine r_callV C (st := []) (As := [.int (-3 : Int32)]) (d := 0) (j := 0) dX11_move_63 ml_X11_138 vw_X11_refuseFar ⟨_, _, _, _, rfl, rfl⟩ (dm0 (by decide)) (fun r47 e => c_p_PE_refuseFar Θ.1.2.1 (cW Θ) (cAd Θ) (cN Θ) σ (-3 : Int32) r47 e) rfl rfl (Nat.le_of_ble_eq_true rfl) ⟨rfl, rfl, by decide, by decide⟩ (fun r47 h48 => ?_)
            exact r_iret C dX11_move_66 rfl rfl trivial
theorem c_p_PE_move (l : Launch) (ω : Wd) (ad : Nat → Nat → Nat) (N : Nat → Nat) (σ : St) (a1 : Int32) (a2 : Int32) : ∀ r : Int32 × St, p_PE_move σ a1 a2 = some r → Ct l yX11_move cX11_move 6 (some .int) ({ frames := 2, cells := 0, slots := 0, locals := 43 } : Room) LC ω ad N [.ref (ω.2.1 0), .int a1, .int a2] σ (some (.int r.1)) r.2 (True) :=
  ct_of (o := fun r : Int32 × St => (some (.int r.1))) (s' := fun r => r.2) (P := fun r => True) [some (.ref (ω.2.1 0)), some (.int a1), some (.int a2), none, none, none] (by decide) rfl (Nat.le_of_ble_eq_true rfl) (fun Γ C _ _ => w_p_PE_move (Γ, ω, 6, ad, N, 0, 0) σ a1 a2 C)
theorem fp_X11_158 (j : Nat) : FP LC RX11 158 2 j 6 (0, 0) .int := ⟨_, _, _, _, _, tyX5, rfl, rfl, rfl, by decide, uw_X5, (in_wt 545 (by decide +kernel) (by decide +kernel)), tyX5_ok, nmX5, rfl, by decide +kernel⟩
/-- PostsEnd.public int leave(int) -/
def p_PE_leave (σ : St) (a1 : Int32) : Option (Int32 × St) := (Option.bind (p_Firm_personAt σ a1) fun r1 => (Option.elim r1 ((Option.bind (p_PE_refuse σ (-1 : Int32)) fun r5 => some (r5.1, r5.2))) fun q3 => (Option.bind (p_Person_isHere σ q3) fun r7 => (if r7 = 0 then (Option.bind (p_PE_refuse σ (-3 : Int32)) fun r12 => some (r12.1, r12.2)) else (Option.bind (p_Person_hold σ q3 none) fun r9 => (lt1 (sx r9 2 q3 6 (r9.1 0 1 0)) fun σ11 => some ((1 : Int32), σ11)))))))
set_option maxRecDepth 20000 in
set_option maxHeartbeats 4000000 in
theorem w_p_PE_leave (Θ : TT) (σ : St) (a1 : Int32) (C : CX Θ cX11_leave RX11 (some .int) ({ frames := 1, cells := 0, slots := 0, locals := 22 } : Room) 3) : WA LC Θ (fun r : Int32 × St => Qm LC Θ (some (.int r.1)) r.2 (True)) 0 [some (.ref (cF Θ 0)), some (.int a1), none] [] σ (p_PE_leave σ a1) := by
  unfold p_PE_leave
  refine r_aload_n C dX11_leave_0 rfl ?_
  refine r_getF0 C dX11_leave_1 fg_X11_10 (by decide) ?_
  refine r_iload_n C dX11_leave_4 rfl ?_
  refine r_callV C (st := []) (As := [.int a1]) (d := 0) (j := 1) dX11_leave_5 ml_X11_134 vw_X3_personAt ⟨_, _, _, _, rfl, rfl⟩ (dm0 (by decide)) (fun r1 e => c_p_Firm_personAt Θ.1.2.1 (cW Θ) (cAd Θ) (cN Θ) σ a1 r1 e) rfl rfl (Nat.le_of_ble_eq_true rfl) ⟨rfl, rfl, by decide, by decide⟩ (fun r1 h2 => ?_)
  refine r_astore_n C (x := Option.map (cAd Θ 2) r1) [some (.ref (cF Θ 0)), some (.int a1), some (va_rf (Option.map (cAd Θ 2) r1))] dX11_leave_8 rfl (by decide) rfl ?_
  refine r_aload_nQ C (x := Option.map (cAd Θ 2) r1) dX11_leave_9 rfl ?_
  rcases r1 with _ | q3
  · refine r_ifnonnullN C dX11_leave_10 ?_
    refine r_aload_n C dX11_leave_13 rfl ?_
    refine r_iconst C (-1 : Int32) dX11_leave_14 (by decide) ?_
    refine r_callV C (st := []) (As := [.int (-1 : Int32)]) (d := 0) (j := 0) dX11_leave_15 ml_X11_64 vw_X11_refuse ⟨_, _, _, _, rfl, rfl⟩ (dm0 (by decide)) (fun r5 e => c_p_PE_refuse Θ.1.2.1 (cW Θ) (cAd Θ) (cN Θ) σ (-1 : Int32) r5 e) rfl rfl (Nat.le_of_ble_eq_true rfl) ⟨rfl, rfl, by decide, by decide⟩ (fun r5 h6 => ?_)
    exact r_iret C dX11_leave_18 rfl rfl trivial
  · have h4 := h2 q3 rfl
    refine r_ifnonnullS C 19 dX11_leave_10 (by decide) ?_
    refine r_aload_n C dX11_leave_19 rfl ?_
    refine r_callV C (st := []) (As := []) (d := 2) (j := q3) dX11_leave_20 ml_X11_144 vw_X5_isHere ⟨_, _, _, _, rfl, rfl⟩ (dmk (by decide) (by decide) h4) (fun r7 e => c_p_Person_isHere Θ.1.2.1 (cW Θ) (cAd Θ) (cN Θ) σ q3 h4 r7 e) rfl rfl (Nat.le_of_ble_eq_true rfl) ⟨rfl, rfl, by decide, by decide⟩ (fun r7 h8 => ?_)
    refine r_if_ne C 33 dX11_leave_23 (by decide) ?_ ?_
    · refine r_aload_n C dX11_leave_33 rfl ?_
      refine r_null C dX11_leave_34 ?_
      refine r_callV C (st := []) (As := [.null]) (d := 2) (j := q3) dX11_leave_35 ml_X11_126 vw_X5_hold ⟨_, _, _, _, rfl, rfl⟩ (dmk (by decide) (by decide) h4) (fun r9 e => c_p_Person_hold Θ.1.2.1 (cW Θ) (cAd Θ) (cN Θ) σ q3 none h4 (fun q e => nomatch e) r9 e) rfl rfl (Nat.le_of_ble_eq_true rfl) ⟨rfl, rfl, by decide, by decide⟩ (fun r9 h10 => ?_)
      refine r_aload_n C dX11_leave_38 rfl ?_
      refine r_aload_n C dX11_leave_39 rfl ?_
      refine r_getF0 C dX11_leave_40 fg_X11_10 (by decide) ?_
      refine r_getI0 C dX11_leave_43 fg_X11_68 (by decide) ?_
      refine r_putI C dX11_leave_46 (fp_X11_158 _) (by decide) h4 ?_
      refine WA.gen (fun σ11 => ?_)
      refine r_iconst C (1 : Int32) dX11_leave_49 (by decide) ?_
      exact r_iret C dX11_leave_50 rfl rfl trivial
    · refine r_aload_n C dX11_leave_26 rfl ?_
      refine r_bipush C (-3 : Int32) dX11_leave_27 (by decide) ?_
      refine r_callV C (st := []) (As := [.int (-3 : Int32)]) (d := 0) (j := 0) dX11_leave_29 ml_X11_64 vw_X11_refuse ⟨_, _, _, _, rfl, rfl⟩ (dm0 (by decide)) (fun r12 e => c_p_PE_refuse Θ.1.2.1 (cW Θ) (cAd Θ) (cN Θ) σ (-3 : Int32) r12 e) rfl rfl (Nat.le_of_ble_eq_true rfl) ⟨rfl, rfl, by decide, by decide⟩ (fun r12 h13 => ?_)
      exact r_iret C dX11_leave_32 rfl rfl trivial
theorem c_p_PE_leave (l : Launch) (ω : Wd) (ad : Nat → Nat → Nat) (N : Nat → Nat) (σ : St) (a1 : Int32) : ∀ r : Int32 × St, p_PE_leave σ a1 = some r → Ct l yX11_leave cX11_leave 3 (some .int) ({ frames := 1, cells := 0, slots := 0, locals := 22 } : Room) LC ω ad N [.ref (ω.2.1 0), .int a1] σ (some (.int r.1)) r.2 (True) :=
  ct_of (o := fun r : Int32 × St => (some (.int r.1))) (s' := fun r => r.2) (P := fun r => True) [some (.ref (ω.2.1 0)), some (.int a1), none] (by decide) rfl (Nat.le_of_ble_eq_true rfl) (fun Γ C _ _ => w_p_PE_leave (Γ, ω, 3, ad, N, 0, 0) σ a1 C)
theorem fg_X11_161 : FG LC RX11 161 0 1 10 (1, 13) := ⟨_, _, _, _, _, rfl, rfl, rfl, by decide, uw_X3, (in_wt 141 (by decide +kernel) (by decide +kernel))⟩
/-- PostsEnd.public int weight(int, int) -/
def p_PE_weight (σ : St) (a1 : Int32) (a2 : Int32) : Option (Int32 × St) := (if a1 < 0 then (Option.bind (p_PE_refuse σ (-2 : Int32)) fun r1 => some (r1.1, r1.2)) else (if a1 < (4 : Int32) then (if a2 < 0 then (Option.bind (p_PE_refuse σ (-4 : Int32)) fun r8 => some (r8.1, r8.2)) else (if (20 : Int32) < a2 then (Option.bind (p_PE_refuse σ (-6 : Int32)) fun r6 => some (r6.1, r6.2)) else (Option.bind (ix 4 a1) fun i3 => (Option.bind (ix 4 a1) fun i4 => (lt1 (sx σ 0 13 i4 a2) fun σ5 => some (σ.1 0 13 i3, σ5)))))) else (Option.bind (p_PE_refuse σ (-2 : Int32)) fun r10 => some (r10.1, r10.2))))
set_option maxRecDepth 20000 in
set_option maxHeartbeats 4000000 in
theorem w_p_PE_weight (Θ : TT) (σ : St) (a1 : Int32) (a2 : Int32) (C : CX Θ cX11_weight RX11 (some .int) ({ frames := 1, cells := 0, slots := 0, locals := 22 } : Room) 4) : WA LC Θ (fun r : Int32 × St => Qm LC Θ (some (.int r.1)) r.2 (True)) 0 [some (.ref (cF Θ 0)), some (.int a1), some (.int a2), none] [] σ (p_PE_weight σ a1 a2) := by
  unfold p_PE_weight
  refine r_iload_n C dX11_weight_0 rfl ?_
  refine r_if_lt C 9 dX11_weight_1 (by decide) ?_ ?_
  · refine r_aload_n C dX11_weight_9 rfl ?_
    refine r_bipush C (-2 : Int32) dX11_weight_10 (by decide) ?_
    refine r_callV C (st := []) (As := [.int (-2 : Int32)]) (d := 0) (j := 0) dX11_weight_12 ml_X11_64 vw_X11_refuse ⟨_, _, _, _, rfl, rfl⟩ (dm0 (by decide)) (fun r1 e => c_p_PE_refuse Θ.1.2.1 (cW Θ) (cAd Θ) (cN Θ) σ (-2 : Int32) r1 e) rfl rfl (Nat.le_of_ble_eq_true rfl) ⟨rfl, rfl, by decide, by decide⟩ (fun r1 h2 => ?_)
    exact r_iret C dX11_weight_15 rfl rfl trivial
  · refine r_iload_n C dX11_weight_4 rfl ?_
    refine r_iconst C (4 : Int32) dX11_weight_5 (by decide) ?_
    refine r_icmp_lt C 16 dX11_weight_6 (by decide) ?_ ?_
    · refine r_iload_n C dX11_weight_16 rfl ?_
      refine r_if_ge C 27 dX11_weight_17 (by decide) ?_ ?_
      · refine r_iload_n C dX11_weight_27 rfl ?_
        refine r_bipush C (20 : Int32) dX11_weight_28 (by decide) ?_
        refine r_icmp_le C 40 dX11_weight_30 (by decide) ?_ ?_
        · refine r_aload_n C dX11_weight_40 rfl ?_
          refine r_getF0 C dX11_weight_41 fg_X11_10 (by decide) ?_
          refine r_getF0 C dX11_weight_44 fg_X11_161 (by decide) ?_
          refine r_iload_n C dX11_weight_47 rfl ?_
          refine r_iald (α := Unit) C dX11_weight_48 ag_LC_13 (fun i3 => ?_)
          refine r_istore_n C [some (.ref (cF Θ 0)), some (.int a1), some (.int a2), some (.int (σ.1 0 13 i3))] dX11_weight_49 rfl (by decide) rfl ?_
          refine r_aload_n C dX11_weight_50 rfl ?_
          refine r_getF0 C dX11_weight_51 fg_X11_10 (by decide) ?_
          refine r_getF0 C dX11_weight_54 fg_X11_161 (by decide) ?_
          refine r_iload_n C dX11_weight_57 rfl ?_
          refine r_iload_n C dX11_weight_58 rfl ?_
          refine r_iast C dX11_weight_59 ag_LC_13 (fun i4 => ?_)
          refine WA.gen (fun σ5 => ?_)
          refine r_iload_n C dX11_weight_60 rfl ?_
          exact r_iret C dX11_weight_61 rfl rfl trivial
        · refine r_aload_n C dX11_weight_33 rfl ?_
          refine r_bipush C (-6 : Int32) dX11_weight_34 (by decide) ?_
          refine r_callV C (st := []) (As := [.int (-6 : Int32)]) (d := 0) (j := 0) dX11_weight_36 ml_X11_64 vw_X11_refuse ⟨_, _, _, _, rfl, rfl⟩ (dm0 (by decide)) (fun r6 e => c_p_PE_refuse Θ.1.2.1 (cW Θ) (cAd Θ) (cN Θ) σ (-6 : Int32) r6 e) rfl rfl (Nat.le_of_ble_eq_true rfl) ⟨rfl, rfl, by decide, by decide⟩ (fun r6 h7 => ?_)
          exact r_iret C dX11_weight_39 rfl rfl trivial
      · refine r_aload_n C dX11_weight_20 rfl ?_
        refine r_bipush C (-4 : Int32) dX11_weight_21 (by decide) ?_
        refine r_callV C (st := []) (As := [.int (-4 : Int32)]) (d := 0) (j := 0) dX11_weight_23 ml_X11_64 vw_X11_refuse ⟨_, _, _, _, rfl, rfl⟩ (dm0 (by decide)) (fun r8 e => c_p_PE_refuse Θ.1.2.1 (cW Θ) (cAd Θ) (cN Θ) σ (-4 : Int32) r8 e) rfl rfl (Nat.le_of_ble_eq_true rfl) ⟨rfl, rfl, by decide, by decide⟩ (fun r8 h9 => ?_)
        exact r_iret C dX11_weight_26 rfl rfl trivial
    · refine r_aload_n C dX11_weight_9 rfl ?_
      refine r_bipush C (-2 : Int32) dX11_weight_10 (by decide) ?_
      refine r_callV C (st := []) (As := [.int (-2 : Int32)]) (d := 0) (j := 0) dX11_weight_12 ml_X11_64 vw_X11_refuse ⟨_, _, _, _, rfl, rfl⟩ (dm0 (by decide)) (fun r10 e => c_p_PE_refuse Θ.1.2.1 (cW Θ) (cAd Θ) (cN Θ) σ (-2 : Int32) r10 e) rfl rfl (Nat.le_of_ble_eq_true rfl) ⟨rfl, rfl, by decide, by decide⟩ (fun r10 h11 => ?_)
      exact r_iret C dX11_weight_15 rfl rfl trivial
theorem c_p_PE_weight (l : Launch) (ω : Wd) (ad : Nat → Nat → Nat) (N : Nat → Nat) (σ : St) (a1 : Int32) (a2 : Int32) : ∀ r : Int32 × St, p_PE_weight σ a1 a2 = some r → Ct l yX11_weight cX11_weight 4 (some .int) ({ frames := 1, cells := 0, slots := 0, locals := 22 } : Room) LC ω ad N [.ref (ω.2.1 0), .int a1, .int a2] σ (some (.int r.1)) r.2 (True) :=
  ct_of (o := fun r : Int32 × St => (some (.int r.1))) (s' := fun r => r.2) (P := fun r => True) [some (.ref (ω.2.1 0)), some (.int a1), some (.int a2), none] (by decide) rfl (Nat.le_of_ble_eq_true rfl) (fun Γ C _ _ => w_p_PE_weight (Γ, ω, 4, ad, N, 0, 0) σ a1 a2 C)
/-- PostsEnd.private static int mostTold(int) -/
def p_PE_mostTold (a0 : Int32) : Option Int32 := (if a0 = 0 then some (100 : Int32) else some (9 : Int32))
set_option maxRecDepth 20000 in
set_option maxHeartbeats 4000000 in
theorem w_p_PE_mostTold (Θ : TT) (σ : St) (a0 : Int32) (C : CX Θ cX11_mostTold RX11 (some .int) ({ frames := 0, cells := 0, slots := 0, locals := 0 } : Room) 1) : WA LC Θ (fun r : Int32 => Qm LC Θ (some (.int r)) σ (True)) 0 [some (.int a0)] [] σ (p_PE_mostTold a0) := by
  unfold p_PE_mostTold
  refine r_iload_n C dX11_mostTold_0 rfl ?_
  refine r_if_ne C 9 dX11_mostTold_1 (by decide) ?_ ?_
  · refine r_bipush C (9 : Int32) dX11_mostTold_9 (by decide) ?_
    exact r_iret C dX11_mostTold_11 rfl rfl trivial
  · refine r_bipush C (100 : Int32) dX11_mostTold_4 (by decide) ?_
    refine r_goto C 11 dX11_mostTold_6 (by decide) ?_
    exact r_iret C dX11_mostTold_11 rfl rfl trivial
theorem c_p_PE_mostTold (l : Launch) (ω : Wd) (ad : Nat → Nat → Nat) (N : Nat → Nat) (σ : St) (a0 : Int32) : ∀ r : Int32, p_PE_mostTold a0 = some r → Ct l yX11_mostTold cX11_mostTold 1 (some .int) ({ frames := 0, cells := 0, slots := 0, locals := 0 } : Room) LC ω ad N [.int a0] σ (some (.int r)) σ (True) :=
  ct_of (o := fun r : Int32 => (some (.int r))) (s' := fun r => σ) (P := fun r => True) [some (.int a0)] (by decide) rfl (Nat.le_of_ble_eq_true rfl) (fun Γ C _ _ => w_p_PE_mostTold (Γ, ω, 1, ad, N, 0, 0) σ a0 C)
theorem vw_X3_addTelling : VW yX3_addTelling cX3_addTelling 6 (some .int) 3 := ⟨⟨(in_wt 81 (by decide +kernel) (by decide +kernel)), (in_wt 626 (by decide +kernel) (by decide +kernel)), by decide +kernel⟩, (in_wt 624 (by decide +kernel) (by decide +kernel)), (in_wt 625 (by decide +kernel) (by decide +kernel))⟩
theorem sw_X11_mostTold : SW yX11_mostTold cX11_mostTold 1 (some .int) 1 := ⟨⟨(in_wt 80 (by decide +kernel) (by decide +kernel)), (in_wt 622 (by decide +kernel) (by decide +kernel)), by decide +kernel⟩, (in_wt 621 (by decide +kernel) (by decide +kernel))⟩
theorem fg_X11_167 : FG LC RX11 167 0 1 4 (0, 0) := ⟨_, _, _, _, _, rfl, rfl, rfl, by decide, uw_X3, (in_wt 133 (by decide +kernel) (by decide +kernel))⟩
theorem ml_X11_164 : Cond.methodLink RX11 164 yX11_mostTold ∈ wt := in_wt 620 (by decide +kernel) (by decide +kernel)
theorem ml_X11_170 : Cond.methodLink RX11 170 yX3_addTelling ∈ wt := in_wt 623 (by decide +kernel) (by decide +kernel)
/-- PostsEnd.public int tell(int, int, int) -/
def p_PE_tell (σ : St) (n : Nat) (a1 : Int32) (a2 : Int32) (a3 : Int32) : Option ((Int32 × St) × Nat) := (Option.bind (p_Firm_personAt σ a1) fun r1 => (Option.elim r1 ((Option.bind (p_PE_refuse σ (-1 : Int32)) fun r5 => some ((r5.1, r5.2), n))) fun q3 => (if a2 = 0 then (if a3 < 0 then (Option.bind (p_PE_refuse σ (-4 : Int32)) fun r15 => some ((r15.1, r15.2), n)) else (Option.bind (p_PE_mostTold a2) fun r7 => (if r7 < a3 then (Option.bind (p_PE_refuse σ (-6 : Int32)) fun r9 => some ((r9.1, r9.2), n)) else (if σ.1 0 1 4 < (120 : Int32) then (Option.bind (p_Firm_addTelling σ n q3 a2 a3) fun r11 => some ((r11.1.1, r11.1.2), r11.2)) else (Option.bind (p_PE_refuse σ (-6 : Int32)) fun r13 => some ((r13.1, r13.2), n)))))) else (if a2 = (1 : Int32) then (if a3 < 0 then (Option.bind (p_PE_refuse σ (-4 : Int32)) fun r25 => some ((r25.1, r25.2), n)) else (Option.bind (p_PE_mostTold a2) fun r17 => (if r17 < a3 then (Option.bind (p_PE_refuse σ (-6 : Int32)) fun r19 => some ((r19.1, r19.2), n)) else (if σ.1 0 1 4 < (120 : Int32) then (Option.bind (p_Firm_addTelling σ n q3 a2 a3) fun r21 => some ((r21.1.1, r21.1.2), r21.2)) else (Option.bind (p_PE_refuse σ (-6 : Int32)) fun r23 => some ((r23.1, r23.2), n)))))) else (Option.bind (p_PE_refuse σ (-2 : Int32)) fun r27 => some ((r27.1, r27.2), n))))))
set_option maxRecDepth 20000 in
set_option maxHeartbeats 4000000 in
theorem w_p_PE_tell (Θ : TT) (σ : St) (n : Nat) (a1 : Int32) (a2 : Int32) (a3 : Int32) (bn : cN Θ 3 = n) (hc0 : cC Θ = (0, 0)) (C : CX Θ cX11_tell RX11 (some .int) ({ frames := 3, cells := 1, slots := 7, locals := 62 } : Room) 5) : WA LC Θ (fun r : (Int32 × St) × Nat => QmA LC Θ 3 1 7 (some (.int r.1.1)) r.1.2 r.2 True) 0 [some (.ref (cF Θ 0)), some (.int a1), some (.int a2), some (.int a3), none] [] σ (p_PE_tell σ n a1 a2 a3) := by
  unfold p_PE_tell
  refine r_aload_n C dX11_tell_0 rfl ?_
  refine r_getF0 C dX11_tell_1 fg_X11_10 (by decide) ?_
  refine r_iload_n C dX11_tell_4 rfl ?_
  refine r_callV C (st := []) (As := [.int a1]) (d := 0) (j := 1) dX11_tell_5 ml_X11_134 vw_X3_personAt ⟨_, _, _, _, rfl, rfl⟩ (dm0 (by decide)) (fun r1 e => c_p_Firm_personAt Θ.1.2.1 (cW Θ) (cAd Θ) (cN Θ) σ a1 r1 e) rfl rfl (Nat.le_of_ble_eq_true rfl) ⟨rfl, rfl, by decide, by decide⟩ (fun r1 h2 => ?_)
  refine r_astore C (x := Option.map (cAd Θ 2) r1) [some (.ref (cF Θ 0)), some (.int a1), some (.int a2), some (.int a3), some (va_rf (Option.map (cAd Θ 2) r1))] dX11_tell_8 rfl (by decide) rfl ?_
  refine r_aloadQ C (x := Option.map (cAd Θ 2) r1) dX11_tell_10 rfl ?_
  rcases r1 with _ | q3
  · refine r_ifnonnullN C dX11_tell_12 ?_
    refine r_aload_n C dX11_tell_15 rfl ?_
    refine r_iconst C (-1 : Int32) dX11_tell_16 (by decide) ?_
    refine r_callV C (st := []) (As := [.int (-1 : Int32)]) (d := 0) (j := 0) dX11_tell_17 ml_X11_64 vw_X11_refuse ⟨_, _, _, _, rfl, rfl⟩ (dm0 (by decide)) (fun r5 e => c_p_PE_refuse Θ.1.2.1 (cW Θ) (cAd Θ) (cN Θ) σ (-1 : Int32) r5 e) rfl rfl (Nat.le_of_ble_eq_true rfl) ⟨rfl, rfl, by decide, by decide⟩ (fun r5 h6 => ?_)
    exact r_iretA C (Ext.refl Θ bn) (by rw [hc0]; decide) (by rw [hc0]; decide) dX11_tell_20 rfl rfl rfl trivial
  · have h4 := h2 q3 rfl
    refine r_ifnonnullS C 21 dX11_tell_12 (by decide) ?_
    refine r_iload_n C dX11_tell_21 rfl ?_
    refine r_if_eq C 37 dX11_tell_22 (by decide) ?_ ?_
    · refine r_iload_n C dX11_tell_37 rfl ?_
      refine r_if_ge C 48 dX11_tell_38 (by decide) ?_ ?_
      · refine r_iload_n C dX11_tell_48 rfl ?_
        refine r_iload_n C dX11_tell_49 rfl ?_
        refine r_callS C (st := [.int a3]) (As := [.int a2]) dX11_tell_50 ml_X11_164 sw_X11_mostTold (fun r7 e => c_p_PE_mostTold Θ.1.2.1 (cW Θ) (cAd Θ) (cN Θ) σ a2 r7 e) rfl rfl (Nat.le_of_ble_eq_true rfl) ⟨rfl, rfl, by decide, by decide⟩ (fun r7 h8 => ?_)
        refine r_icmp_gt C 68 dX11_tell_53 (by decide) ?_ ?_
        · refine r_aload_n C dX11_tell_68 rfl ?_
          refine r_bipush C (-6 : Int32) dX11_tell_69 (by decide) ?_
          refine r_callV C (st := []) (As := [.int (-6 : Int32)]) (d := 0) (j := 0) dX11_tell_71 ml_X11_64 vw_X11_refuse ⟨_, _, _, _, rfl, rfl⟩ (dm0 (by decide)) (fun r9 e => c_p_PE_refuse Θ.1.2.1 (cW Θ) (cAd Θ) (cN Θ) σ (-6 : Int32) r9 e) rfl rfl (Nat.le_of_ble_eq_true rfl) ⟨rfl, rfl, by decide, by decide⟩ (fun r9 h10 => ?_)
          exact r_iretA C (Ext.refl Θ bn) (by rw [hc0]; decide) (by rw [hc0]; decide) dX11_tell_74 rfl rfl rfl trivial
        · refine r_aload_n C dX11_tell_56 rfl ?_
          refine r_getF0 C dX11_tell_57 fg_X11_10 (by decide) ?_
          refine r_getI0 C dX11_tell_60 fg_X11_167 (by decide) ?_
          refine r_bipush C (120 : Int32) dX11_tell_63 (by decide) ?_
          refine r_icmp_lt C 75 dX11_tell_65 (by decide) ?_ ?_
          · refine r_aload_n C dX11_tell_75 rfl ?_
            refine r_getF0 C dX11_tell_76 fg_X11_10 (by decide) ?_
            refine r_aload C dX11_tell_79 rfl ?_
            refine r_iload_n C dX11_tell_81 rfl ?_
            refine r_iload_n C dX11_tell_82 rfl ?_
            refine r_callA C (st := []) (As := [.ref (cAd Θ 2 q3), .int a2, .int a3]) (d := 0) (j := 1) dX11_tell_83 ml_X11_170 vw_X3_addTelling ⟨_, _, _, _, rfl, rfl⟩ (dm0 (by decide)) (fun r11 e => c_p_Firm_addTelling Θ.1.2.1 (cW Θ) (cAd Θ) (cN Θ) σ n q3 a2 a3 h4 bn r11 e) rfl rfl (Nat.le_of_ble_eq_true rfl) ⟨rfl, rfl, by decide, by decide⟩ (by rw [hc0]; decide) (by rw [hc0]; decide) (fun r11 h12 Θ1 C1 E => ?_)
            exact r_iretA C1 E (by rw [hc0]; decide) (by rw [hc0]; decide) dX11_tell_86 rfl rfl rfl trivial
          · refine r_aload_n C dX11_tell_68 rfl ?_
            refine r_bipush C (-6 : Int32) dX11_tell_69 (by decide) ?_
            refine r_callV C (st := []) (As := [.int (-6 : Int32)]) (d := 0) (j := 0) dX11_tell_71 ml_X11_64 vw_X11_refuse ⟨_, _, _, _, rfl, rfl⟩ (dm0 (by decide)) (fun r13 e => c_p_PE_refuse Θ.1.2.1 (cW Θ) (cAd Θ) (cN Θ) σ (-6 : Int32) r13 e) rfl rfl (Nat.le_of_ble_eq_true rfl) ⟨rfl, rfl, by decide, by decide⟩ (fun r13 h14 => ?_)
            exact r_iretA C (Ext.refl Θ bn) (by rw [hc0]; decide) (by rw [hc0]; decide) dX11_tell_74 rfl rfl rfl trivial
      · refine r_aload_n C dX11_tell_41 rfl ?_
        refine r_bipush C (-4 : Int32) dX11_tell_42 (by decide) ?_
        refine r_callV C (st := []) (As := [.int (-4 : Int32)]) (d := 0) (j := 0) dX11_tell_44 ml_X11_64 vw_X11_refuse ⟨_, _, _, _, rfl, rfl⟩ (dm0 (by decide)) (fun r15 e => c_p_PE_refuse Θ.1.2.1 (cW Θ) (cAd Θ) (cN Θ) σ (-4 : Int32) r15 e) rfl rfl (Nat.le_of_ble_eq_true rfl) ⟨rfl, rfl, by decide, by decide⟩ (fun r15 h16 => ?_)
        exact r_iretA C (Ext.refl Θ bn) (by rw [hc0]; decide) (by rw [hc0]; decide) dX11_tell_47 rfl rfl rfl trivial
    · refine r_iload_n C dX11_tell_25 rfl ?_
      refine r_iconst C (1 : Int32) dX11_tell_26 (by decide) ?_
      refine r_icmp_eq C 37 dX11_tell_27 (by decide) ?_ ?_
      · refine r_iload_n C dX11_tell_37 rfl ?_
        refine r_if_ge C 48 dX11_tell_38 (by decide) ?_ ?_
        · refine r_iload_n C dX11_tell_48 rfl ?_
          refine r_iload_n C dX11_tell_49 rfl ?_
          refine r_callS C (st := [.int a3]) (As := [.int a2]) dX11_tell_50 ml_X11_164 sw_X11_mostTold (fun r17 e => c_p_PE_mostTold Θ.1.2.1 (cW Θ) (cAd Θ) (cN Θ) σ a2 r17 e) rfl rfl (Nat.le_of_ble_eq_true rfl) ⟨rfl, rfl, by decide, by decide⟩ (fun r17 h18 => ?_)
          refine r_icmp_gt C 68 dX11_tell_53 (by decide) ?_ ?_
          · refine r_aload_n C dX11_tell_68 rfl ?_
            refine r_bipush C (-6 : Int32) dX11_tell_69 (by decide) ?_
            refine r_callV C (st := []) (As := [.int (-6 : Int32)]) (d := 0) (j := 0) dX11_tell_71 ml_X11_64 vw_X11_refuse ⟨_, _, _, _, rfl, rfl⟩ (dm0 (by decide)) (fun r19 e => c_p_PE_refuse Θ.1.2.1 (cW Θ) (cAd Θ) (cN Θ) σ (-6 : Int32) r19 e) rfl rfl (Nat.le_of_ble_eq_true rfl) ⟨rfl, rfl, by decide, by decide⟩ (fun r19 h20 => ?_)
            exact r_iretA C (Ext.refl Θ bn) (by rw [hc0]; decide) (by rw [hc0]; decide) dX11_tell_74 rfl rfl rfl trivial
          · refine r_aload_n C dX11_tell_56 rfl ?_
            refine r_getF0 C dX11_tell_57 fg_X11_10 (by decide) ?_
            refine r_getI0 C dX11_tell_60 fg_X11_167 (by decide) ?_
            refine r_bipush C (120 : Int32) dX11_tell_63 (by decide) ?_
            refine r_icmp_lt C 75 dX11_tell_65 (by decide) ?_ ?_
            · refine r_aload_n C dX11_tell_75 rfl ?_
              refine r_getF0 C dX11_tell_76 fg_X11_10 (by decide) ?_
              refine r_aload C dX11_tell_79 rfl ?_
              refine r_iload_n C dX11_tell_81 rfl ?_
              refine r_iload_n C dX11_tell_82 rfl ?_
              refine r_callA C (st := []) (As := [.ref (cAd Θ 2 q3), .int a2, .int a3]) (d := 0) (j := 1) dX11_tell_83 ml_X11_170 vw_X3_addTelling ⟨_, _, _, _, rfl, rfl⟩ (dm0 (by decide)) (fun r21 e => c_p_Firm_addTelling Θ.1.2.1 (cW Θ) (cAd Θ) (cN Θ) σ n q3 a2 a3 h4 bn r21 e) rfl rfl (Nat.le_of_ble_eq_true rfl) ⟨rfl, rfl, by decide, by decide⟩ (by rw [hc0]; decide) (by rw [hc0]; decide) (fun r21 h22 Θ1 C1 E => ?_)
              exact r_iretA C1 E (by rw [hc0]; decide) (by rw [hc0]; decide) dX11_tell_86 rfl rfl rfl trivial
            · refine r_aload_n C dX11_tell_68 rfl ?_
              refine r_bipush C (-6 : Int32) dX11_tell_69 (by decide) ?_
              refine r_callV C (st := []) (As := [.int (-6 : Int32)]) (d := 0) (j := 0) dX11_tell_71 ml_X11_64 vw_X11_refuse ⟨_, _, _, _, rfl, rfl⟩ (dm0 (by decide)) (fun r23 e => c_p_PE_refuse Θ.1.2.1 (cW Θ) (cAd Θ) (cN Θ) σ (-6 : Int32) r23 e) rfl rfl (Nat.le_of_ble_eq_true rfl) ⟨rfl, rfl, by decide, by decide⟩ (fun r23 h24 => ?_)
              exact r_iretA C (Ext.refl Θ bn) (by rw [hc0]; decide) (by rw [hc0]; decide) dX11_tell_74 rfl rfl rfl trivial
        · refine r_aload_n C dX11_tell_41 rfl ?_
          refine r_bipush C (-4 : Int32) dX11_tell_42 (by decide) ?_
          refine r_callV C (st := []) (As := [.int (-4 : Int32)]) (d := 0) (j := 0) dX11_tell_44 ml_X11_64 vw_X11_refuse ⟨_, _, _, _, rfl, rfl⟩ (dm0 (by decide)) (fun r25 e => c_p_PE_refuse Θ.1.2.1 (cW Θ) (cAd Θ) (cN Θ) σ (-4 : Int32) r25 e) rfl rfl (Nat.le_of_ble_eq_true rfl) ⟨rfl, rfl, by decide, by decide⟩ (fun r25 h26 => ?_)
          exact r_iretA C (Ext.refl Θ bn) (by rw [hc0]; decide) (by rw [hc0]; decide) dX11_tell_47 rfl rfl rfl trivial
      · refine r_aload_n C dX11_tell_30 rfl ?_
        refine r_bipush C (-2 : Int32) dX11_tell_31 (by decide) ?_
        refine r_callV C (st := []) (As := [.int (-2 : Int32)]) (d := 0) (j := 0) dX11_tell_33 ml_X11_64 vw_X11_refuse ⟨_, _, _, _, rfl, rfl⟩ (dm0 (by decide)) (fun r27 e => c_p_PE_refuse Θ.1.2.1 (cW Θ) (cAd Θ) (cN Θ) σ (-2 : Int32) r27 e) rfl rfl (Nat.le_of_ble_eq_true rfl) ⟨rfl, rfl, by decide, by decide⟩ (fun r27 h28 => ?_)
        exact r_iretA C (Ext.refl Θ bn) (by rw [hc0]; decide) (by rw [hc0]; decide) dX11_tell_36 rfl rfl rfl trivial
theorem c_p_PE_tell (l : Launch) (ω : Wd) (ad : Nat → Nat → Nat) (N : Nat → Nat) (σ : St) (n : Nat) (a1 : Int32) (a2 : Int32) (a3 : Int32) (bn : N 3 = n) : ∀ r : (Int32 × St) × Nat, p_PE_tell σ n a1 a2 a3 = some r → CtA l yX11_tell cX11_tell 5 (some .int) ({ frames := 3, cells := 1, slots := 7, locals := 62 } : Room) LC ω ad N [.ref (ω.2.1 0), .int a1, .int a2, .int a3] σ 3 1 7 (some (.int r.1.1)) r.1.2 r.2 True :=
  ct_ofA (o := fun r : (Int32 × St) × Nat => some (.int r.1.1)) (s' := fun r => r.1.2) (n' := fun r => r.2) (P := fun _ => True) [some (.ref (ω.2.1 0)), some (.int a1), some (.int a2), some (.int a3), none] (by decide) rfl (Nat.le_of_ble_eq_true rfl) (fun Γ C _ => w_p_PE_tell (Γ, ω, 5, ad, N, 0, 0) σ n a1 a2 a3 bn rfl C)
theorem vw_X3_tellingAt : VW yX3_tellingAt cX3_tellingAt 2 (some (.object "PostsEnd$Telling")) 1 := ⟨⟨(in_wt 81 (by decide +kernel) (by decide +kernel)), (in_wt 675 (by decide +kernel) (by decide +kernel)), by decide +kernel⟩, (in_wt 673 (by decide +kernel) (by decide +kernel)), (in_wt 674 (by decide +kernel) (by decide +kernel))⟩
theorem vw_X10_putRight : VW yX10_putRight cX10_putRight 3 (some .int) 2 := ⟨⟨(in_wt 91 (by decide +kernel) (by decide +kernel)), (in_wt 679 (by decide +kernel) (by decide +kernel)), by decide +kernel⟩, (in_wt 677 (by decide +kernel) (by decide +kernel)), (in_wt 678 (by decide +kernel) (by decide +kernel))⟩
theorem fg_X11_178 (j : Nat) : FG LC RX11 178 3 j 1 (0, 0) := ⟨_, _, _, _, _, rfl, rfl, rfl, by decide, uw_X10, (in_wt 641 (by decide +kernel) (by decide +kernel))⟩
theorem fg_X11_183 : FG LC RX11 183 0 1 5 (0, 0) := ⟨_, _, _, _, _, rfl, rfl, rfl, by decide, uw_X3, (in_wt 134 (by decide +kernel) (by decide +kernel))⟩
theorem fp_X11_183 : FP LC RX11 183 0 1 5 (0, 0) .int := ⟨_, _, _, _, _, tyX3, rfl, rfl, rfl, by decide, uw_X3, (in_wt 134 (by decide +kernel) (by decide +kernel)), tyX3_ok, nmX3, rfl, by decide +kernel⟩
theorem ml_X11_174 : Cond.methodLink RX11 174 yX3_tellingAt ∈ wt := in_wt 672 (by decide +kernel) (by decide +kernel)
theorem ml_X11_186 : Cond.methodLink RX11 186 yX10_putRight ∈ wt := in_wt 676 (by decide +kernel) (by decide +kernel)
/-- PostsEnd.public int right(int, int) -/
def p_PE_right (σ : St) (n : Nat) (a1 : Int32) (a2 : Int32) : Option ((Int32 × St) × Nat) := (Option.bind (p_Firm_tellingAt σ a1) fun r1 => (Option.elim r1 ((Option.bind (p_PE_refuse σ (-1 : Int32)) fun r5 => some ((r5.1, r5.2), n))) fun q3 => (if a2 < 0 then (Option.bind (p_PE_refuse σ (-4 : Int32)) fun r16 => some ((r16.1, r16.2), n)) else (Option.bind (p_PE_mostTold (σ.1 3 q3 1)) fun r7 => (if r7 < a2 then (Option.bind (p_PE_refuse σ (-6 : Int32)) fun r9 => some ((r9.1, r9.2), n)) else (if σ.1 0 1 5 < (60 : Int32) then (lt1 (sx σ 0 1 5 ((σ.1 0 1 5) + (1 : Int32))) fun σ11 => (Option.bind (p_Telling_putRight σ11 n q3 (σ11.1 0 1 0) a2) fun r12 => some ((r12.1.1, r12.1.2), r12.2))) else (Option.bind (p_PE_refuse σ (-6 : Int32)) fun r14 => some ((r14.1, r14.2), n))))))))
set_option maxRecDepth 20000 in
set_option maxHeartbeats 4000000 in
theorem w_p_PE_right (Θ : TT) (σ : St) (n : Nat) (a1 : Int32) (a2 : Int32) (bn : cN Θ 4 = n) (hc0 : cC Θ = (0, 0)) (C : CX Θ cX11_right RX11 (some .int) ({ frames := 3, cells := 1, slots := 3, locals := 57 } : Room) 4) : WA LC Θ (fun r : (Int32 × St) × Nat => QmA LC Θ 4 1 3 (some (.int r.1.1)) r.1.2 r.2 True) 0 [some (.ref (cF Θ 0)), some (.int a1), some (.int a2), none] [] σ (p_PE_right σ n a1 a2) := by
  unfold p_PE_right
  refine r_aload_n C dX11_right_0 rfl ?_
  refine r_getF0 C dX11_right_1 fg_X11_10 (by decide) ?_
  refine r_iload_n C dX11_right_4 rfl ?_
  refine r_callV C (st := []) (As := [.int a1]) (d := 0) (j := 1) dX11_right_5 ml_X11_174 vw_X3_tellingAt ⟨_, _, _, _, rfl, rfl⟩ (dm0 (by decide)) (fun r1 e => c_p_Firm_tellingAt Θ.1.2.1 (cW Θ) (cAd Θ) (cN Θ) σ a1 r1 e) rfl rfl (Nat.le_of_ble_eq_true rfl) ⟨rfl, rfl, by decide, by decide⟩ (fun r1 h2 => ?_)
  refine r_astore_n C (x := Option.map (cAd Θ 3) r1) [some (.ref (cF Θ 0)), some (.int a1), some (.int a2), some (va_rf (Option.map (cAd Θ 3) r1))] dX11_right_8 rfl (by decide) rfl ?_
  refine r_aload_nQ C (x := Option.map (cAd Θ 3) r1) dX11_right_9 rfl ?_
  rcases r1 with _ | q3
  · refine r_ifnonnullN C dX11_right_10 ?_
    refine r_aload_n C dX11_right_13 rfl ?_
    refine r_iconst C (-1 : Int32) dX11_right_14 (by decide) ?_
    refine r_callV C (st := []) (As := [.int (-1 : Int32)]) (d := 0) (j := 0) dX11_right_15 ml_X11_64 vw_X11_refuse ⟨_, _, _, _, rfl, rfl⟩ (dm0 (by decide)) (fun r5 e => c_p_PE_refuse Θ.1.2.1 (cW Θ) (cAd Θ) (cN Θ) σ (-1 : Int32) r5 e) rfl rfl (Nat.le_of_ble_eq_true rfl) ⟨rfl, rfl, by decide, by decide⟩ (fun r5 h6 => ?_)
    exact r_iretA C (Ext.refl Θ bn) (by rw [hc0]; decide) (by rw [hc0]; decide) dX11_right_18 rfl rfl rfl trivial
  · have h4 := h2 q3 rfl
    refine r_ifnonnullS C 19 dX11_right_10 (by decide) ?_
    refine r_iload_n C dX11_right_19 rfl ?_
    refine r_if_ge C 30 dX11_right_20 (by decide) ?_ ?_
    · refine r_iload_n C dX11_right_30 rfl ?_
      refine r_aload_n C dX11_right_31 rfl ?_
      refine r_getI C dX11_right_32 (fg_X11_178 _) (by decide) h4 ?_
      refine r_callS C (st := [.int a2]) (As := [.int (σ.1 3 q3 1)]) dX11_right_35 ml_X11_164 sw_X11_mostTold (fun r7 e => c_p_PE_mostTold Θ.1.2.1 (cW Θ) (cAd Θ) (cN Θ) σ (σ.1 3 q3 1) r7 e) rfl rfl (Nat.le_of_ble_eq_true rfl) ⟨rfl, rfl, by decide, by decide⟩ (fun r7 h8 => ?_)
      refine r_icmp_gt C 53 dX11_right_38 (by decide) ?_ ?_
      · refine r_aload_n C dX11_right_53 rfl ?_
        refine r_bipush C (-6 : Int32) dX11_right_54 (by decide) ?_
        refine r_callV C (st := []) (As := [.int (-6 : Int32)]) (d := 0) (j := 0) dX11_right_56 ml_X11_64 vw_X11_refuse ⟨_, _, _, _, rfl, rfl⟩ (dm0 (by decide)) (fun r9 e => c_p_PE_refuse Θ.1.2.1 (cW Θ) (cAd Θ) (cN Θ) σ (-6 : Int32) r9 e) rfl rfl (Nat.le_of_ble_eq_true rfl) ⟨rfl, rfl, by decide, by decide⟩ (fun r9 h10 => ?_)
        exact r_iretA C (Ext.refl Θ bn) (by rw [hc0]; decide) (by rw [hc0]; decide) dX11_right_59 rfl rfl rfl trivial
      · refine r_aload_n C dX11_right_41 rfl ?_
        refine r_getF0 C dX11_right_42 fg_X11_10 (by decide) ?_
        refine r_getI0 C dX11_right_45 fg_X11_183 (by decide) ?_
        refine r_bipush C (60 : Int32) dX11_right_48 (by decide) ?_
        refine r_icmp_lt C 60 dX11_right_50 (by decide) ?_ ?_
        · refine r_aload_n C dX11_right_60 rfl ?_
          refine r_getF0 C dX11_right_61 fg_X11_10 (by decide) ?_
          refine r_dup C dX11_right_64 rfl ?_
          refine r_getI0 C dX11_right_65 fg_X11_183 (by decide) ?_
          refine r_iconst C (1 : Int32) dX11_right_68 (by decide) ?_
          refine r_iadd C dX11_right_69 ?_
          refine r_putI0 C dX11_right_70 fp_X11_183 (by decide) ?_
          refine WA.gen (fun σ11 => ?_)
          refine r_aload_n C dX11_right_73 rfl ?_
          refine r_aload_n C dX11_right_74 rfl ?_
          refine r_getF0 C dX11_right_75 fg_X11_10 (by decide) ?_
          refine r_getI0 C dX11_right_78 fg_X11_68 (by decide) ?_
          refine r_iload_n C dX11_right_81 rfl ?_
          refine r_callA C (st := []) (As := [.int (σ11.1 0 1 0), .int a2]) (d := 3) (j := q3) dX11_right_82 ml_X11_186 vw_X10_putRight ⟨_, _, _, _, rfl, rfl⟩ (dmk (by decide) (by decide) h4) (fun r12 e => c_p_Telling_putRight Θ.1.2.1 (cW Θ) (cAd Θ) (cN Θ) σ11 n q3 (σ11.1 0 1 0) a2 h4 bn r12 e) rfl rfl (Nat.le_of_ble_eq_true rfl) ⟨rfl, rfl, by decide, by decide⟩ (by rw [hc0]; decide) (by rw [hc0]; decide) (fun r12 h13 Θ1 C1 E => ?_)
          exact r_iretA C1 E (by rw [hc0]; decide) (by rw [hc0]; decide) dX11_right_85 rfl rfl rfl trivial
        · refine r_aload_n C dX11_right_53 rfl ?_
          refine r_bipush C (-6 : Int32) dX11_right_54 (by decide) ?_
          refine r_callV C (st := []) (As := [.int (-6 : Int32)]) (d := 0) (j := 0) dX11_right_56 ml_X11_64 vw_X11_refuse ⟨_, _, _, _, rfl, rfl⟩ (dm0 (by decide)) (fun r14 e => c_p_PE_refuse Θ.1.2.1 (cW Θ) (cAd Θ) (cN Θ) σ (-6 : Int32) r14 e) rfl rfl (Nat.le_of_ble_eq_true rfl) ⟨rfl, rfl, by decide, by decide⟩ (fun r14 h15 => ?_)
          exact r_iretA C (Ext.refl Θ bn) (by rw [hc0]; decide) (by rw [hc0]; decide) dX11_right_59 rfl rfl rfl trivial
    · refine r_aload_n C dX11_right_23 rfl ?_
      refine r_bipush C (-4 : Int32) dX11_right_24 (by decide) ?_
      refine r_callV C (st := []) (As := [.int (-4 : Int32)]) (d := 0) (j := 0) dX11_right_26 ml_X11_64 vw_X11_refuse ⟨_, _, _, _, rfl, rfl⟩ (dm0 (by decide)) (fun r16 e => c_p_PE_refuse Θ.1.2.1 (cW Θ) (cAd Θ) (cN Θ) σ (-4 : Int32) r16 e) rfl rfl (Nat.le_of_ble_eq_true rfl) ⟨rfl, rfl, by decide, by decide⟩ (fun r16 h17 => ?_)
      exact r_iretA C (Ext.refl Θ bn) (by rw [hc0]; decide) (by rw [hc0]; decide) dX11_right_29 rfl rfl rfl trivial
theorem c_p_PE_right (l : Launch) (ω : Wd) (ad : Nat → Nat → Nat) (N : Nat → Nat) (σ : St) (n : Nat) (a1 : Int32) (a2 : Int32) (bn : N 4 = n) : ∀ r : (Int32 × St) × Nat, p_PE_right σ n a1 a2 = some r → CtA l yX11_right cX11_right 4 (some .int) ({ frames := 3, cells := 1, slots := 3, locals := 57 } : Room) LC ω ad N [.ref (ω.2.1 0), .int a1, .int a2] σ 4 1 3 (some (.int r.1.1)) r.1.2 r.2 True :=
  ct_ofA (o := fun r : (Int32 × St) × Nat => some (.int r.1.1)) (s' := fun r => r.1.2) (n' := fun r => r.2) (P := fun _ => True) [some (.ref (ω.2.1 0)), some (.int a1), some (.int a2), none] (by decide) rfl (Nat.le_of_ble_eq_true rfl) (fun Γ C _ => w_p_PE_right (Γ, ω, 4, ad, N, 0, 0) σ n a1 a2 bn rfl C)
theorem ml_X11_190 : Cond.methodLink RX11 190 yX3_markAsOf ∈ wt := in_wt 703 (by decide +kernel) (by decide +kernel)
theorem ml_X11_194 : Cond.methodLink RX11 194 yX3_partAsOf ∈ wt := in_wt 743 (by decide +kernel) (by decide +kernel)
/-- PostsEnd.public int mark(int, int, int) -/
def p_PE_mark (σ : St) (a1 : Int32) (a2 : Int32) (a3 : Int32) : Option (Int32 × St) := (Option.bind (p_Firm_personAt σ a1) fun r1 => (Option.elim r1 ((Option.bind (p_PE_refuse σ (-1 : Int32)) fun r5 => some (r5.1, r5.2))) fun q3 => (if a3 < 0 then (Option.bind (p_PE_refuse σ (-2 : Int32)) fun r7 => some (r7.1, r7.2)) else (if (4 : Int32) < a3 then (Option.bind (p_PE_refuse σ (-2 : Int32)) fun r17 => some (r17.1, r17.2)) else (if a2 < 0 then (Option.bind (p_PE_refuse σ (-4 : Int32)) fun r15 => some (r15.1, r15.2)) else (if (3000 : Int32) < a2 then (Option.bind (p_PE_refuse σ (-6 : Int32)) fun r13 => some (r13.1, r13.2)) else (if a3 = (4 : Int32) then (Option.bind (p_Firm_markAsOf σ q3 a2) fun r11 => some (r11, σ)) else (Option.bind (p_Firm_partAsOf σ q3 a3 a2) fun r9 => some (r9, σ)))))))))
set_option maxRecDepth 20000 in
set_option maxHeartbeats 4000000 in
theorem w_p_PE_mark (Θ : TT) (σ : St) (a1 : Int32) (a2 : Int32) (a3 : Int32) (C : CX Θ cX11_mark RX11 (some .int) ({ frames := 4, cells := 0, slots := 0, locals := 93 } : Room) 5) : WA LC Θ (fun r : Int32 × St => Qm LC Θ (some (.int r.1)) r.2 (True)) 0 [some (.ref (cF Θ 0)), some (.int a1), some (.int a2), some (.int a3), none] [] σ (p_PE_mark σ a1 a2 a3) := by
  unfold p_PE_mark
  refine r_aload_n C dX11_mark_0 rfl ?_
  refine r_getF0 C dX11_mark_1 fg_X11_10 (by decide) ?_
  refine r_iload_n C dX11_mark_4 rfl ?_
  refine r_callV C (st := []) (As := [.int a1]) (d := 0) (j := 1) dX11_mark_5 ml_X11_134 vw_X3_personAt ⟨_, _, _, _, rfl, rfl⟩ (dm0 (by decide)) (fun r1 e => c_p_Firm_personAt Θ.1.2.1 (cW Θ) (cAd Θ) (cN Θ) σ a1 r1 e) rfl rfl (Nat.le_of_ble_eq_true rfl) ⟨rfl, rfl, by decide, by decide⟩ (fun r1 h2 => ?_)
  refine r_astore C (x := Option.map (cAd Θ 2) r1) [some (.ref (cF Θ 0)), some (.int a1), some (.int a2), some (.int a3), some (va_rf (Option.map (cAd Θ 2) r1))] dX11_mark_8 rfl (by decide) rfl ?_
  refine r_aloadQ C (x := Option.map (cAd Θ 2) r1) dX11_mark_10 rfl ?_
  rcases r1 with _ | q3
  · refine r_ifnonnullN C dX11_mark_12 ?_
    refine r_aload_n C dX11_mark_15 rfl ?_
    refine r_iconst C (-1 : Int32) dX11_mark_16 (by decide) ?_
    refine r_callV C (st := []) (As := [.int (-1 : Int32)]) (d := 0) (j := 0) dX11_mark_17 ml_X11_64 vw_X11_refuse ⟨_, _, _, _, rfl, rfl⟩ (dm0 (by decide)) (fun r5 e => c_p_PE_refuse Θ.1.2.1 (cW Θ) (cAd Θ) (cN Θ) σ (-1 : Int32) r5 e) rfl rfl (Nat.le_of_ble_eq_true rfl) ⟨rfl, rfl, by decide, by decide⟩ (fun r5 h6 => ?_)
    exact r_iret C dX11_mark_20 rfl rfl trivial
  · have h4 := h2 q3 rfl
    refine r_ifnonnullS C 21 dX11_mark_12 (by decide) ?_
    refine r_iload_n C dX11_mark_21 rfl ?_
    refine r_if_lt C 30 dX11_mark_22 (by decide) ?_ ?_
    · refine r_aload_n C dX11_mark_30 rfl ?_
      refine r_bipush C (-2 : Int32) dX11_mark_31 (by decide) ?_
      refine r_callV C (st := []) (As := [.int (-2 : Int32)]) (d := 0) (j := 0) dX11_mark_33 ml_X11_64 vw_X11_refuse ⟨_, _, _, _, rfl, rfl⟩ (dm0 (by decide)) (fun r7 e => c_p_PE_refuse Θ.1.2.1 (cW Θ) (cAd Θ) (cN Θ) σ (-2 : Int32) r7 e) rfl rfl (Nat.le_of_ble_eq_true rfl) ⟨rfl, rfl, by decide, by decide⟩ (fun r7 h8 => ?_)
      exact r_iret C dX11_mark_36 rfl rfl trivial
    · refine r_iload_n C dX11_mark_25 rfl ?_
      refine r_iconst C (4 : Int32) dX11_mark_26 (by decide) ?_
      refine r_icmp_le C 37 dX11_mark_27 (by decide) ?_ ?_
      · refine r_iload_n C dX11_mark_37 rfl ?_
        refine r_if_ge C 48 dX11_mark_38 (by decide) ?_ ?_
        · refine r_iload_n C dX11_mark_48 rfl ?_
          refine r_sipush C (3000 : Int32) dX11_mark_49 (by decide) ?_
          refine r_icmp_le C 62 dX11_mark_52 (by decide) ?_ ?_
          · refine r_iload_n C dX11_mark_62 rfl ?_
            refine r_iconst C (4 : Int32) dX11_mark_63 (by decide) ?_
            refine r_icmp_ne C 80 dX11_mark_64 (by decide) ?_ ?_
            · refine r_aload_n C dX11_mark_80 rfl ?_
              refine r_getF0 C dX11_mark_81 fg_X11_10 (by decide) ?_
              refine r_aload C dX11_mark_84 rfl ?_
              refine r_iload_n C dX11_mark_86 rfl ?_
              refine r_iload_n C dX11_mark_87 rfl ?_
              refine r_callV C (st := []) (As := [.ref (cAd Θ 2 q3), .int a3, .int a2]) (d := 0) (j := 1) dX11_mark_88 ml_X11_194 vw_X3_partAsOf ⟨_, _, _, _, rfl, rfl⟩ (dm0 (by decide)) (fun r9 e => c_p_Firm_partAsOf Θ.1.2.1 (cW Θ) (cAd Θ) (cN Θ) σ q3 a3 a2 h4 r9 e) rfl rfl (Nat.le_of_ble_eq_true rfl) ⟨rfl, rfl, by decide, by decide⟩ (fun r9 h10 => ?_)
              exact r_iret C dX11_mark_91 rfl rfl trivial
            · refine r_aload_n C dX11_mark_67 rfl ?_
              refine r_getF0 C dX11_mark_68 fg_X11_10 (by decide) ?_
              refine r_aload C dX11_mark_71 rfl ?_
              refine r_iload_n C dX11_mark_73 rfl ?_
              refine r_callV C (st := []) (As := [.ref (cAd Θ 2 q3), .int a2]) (d := 0) (j := 1) dX11_mark_74 ml_X11_190 vw_X3_markAsOf ⟨_, _, _, _, rfl, rfl⟩ (dm0 (by decide)) (fun r11 e => c_p_Firm_markAsOf Θ.1.2.1 (cW Θ) (cAd Θ) (cN Θ) σ q3 a2 h4 r11 e) rfl rfl (Nat.le_of_ble_eq_true rfl) ⟨rfl, rfl, by decide, by decide⟩ (fun r11 h12 => ?_)
              refine r_goto C 91 dX11_mark_77 (by decide) ?_
              exact r_iret C dX11_mark_91 rfl rfl trivial
          · refine r_aload_n C dX11_mark_55 rfl ?_
            refine r_bipush C (-6 : Int32) dX11_mark_56 (by decide) ?_
            refine r_callV C (st := []) (As := [.int (-6 : Int32)]) (d := 0) (j := 0) dX11_mark_58 ml_X11_64 vw_X11_refuse ⟨_, _, _, _, rfl, rfl⟩ (dm0 (by decide)) (fun r13 e => c_p_PE_refuse Θ.1.2.1 (cW Θ) (cAd Θ) (cN Θ) σ (-6 : Int32) r13 e) rfl rfl (Nat.le_of_ble_eq_true rfl) ⟨rfl, rfl, by decide, by decide⟩ (fun r13 h14 => ?_)
            exact r_iret C dX11_mark_61 rfl rfl trivial
        · refine r_aload_n C dX11_mark_41 rfl ?_
          refine r_bipush C (-4 : Int32) dX11_mark_42 (by decide) ?_
          refine r_callV C (st := []) (As := [.int (-4 : Int32)]) (d := 0) (j := 0) dX11_mark_44 ml_X11_64 vw_X11_refuse ⟨_, _, _, _, rfl, rfl⟩ (dm0 (by decide)) (fun r15 e => c_p_PE_refuse Θ.1.2.1 (cW Θ) (cAd Θ) (cN Θ) σ (-4 : Int32) r15 e) rfl rfl (Nat.le_of_ble_eq_true rfl) ⟨rfl, rfl, by decide, by decide⟩ (fun r15 h16 => ?_)
          exact r_iret C dX11_mark_47 rfl rfl trivial
      · refine r_aload_n C dX11_mark_30 rfl ?_
        refine r_bipush C (-2 : Int32) dX11_mark_31 (by decide) ?_
        refine r_callV C (st := []) (As := [.int (-2 : Int32)]) (d := 0) (j := 0) dX11_mark_33 ml_X11_64 vw_X11_refuse ⟨_, _, _, _, rfl, rfl⟩ (dm0 (by decide)) (fun r17 e => c_p_PE_refuse Θ.1.2.1 (cW Θ) (cAd Θ) (cN Θ) σ (-2 : Int32) r17 e) rfl rfl (Nat.le_of_ble_eq_true rfl) ⟨rfl, rfl, by decide, by decide⟩ (fun r17 h18 => ?_)
        exact r_iret C dX11_mark_36 rfl rfl trivial
theorem c_p_PE_mark (l : Launch) (ω : Wd) (ad : Nat → Nat → Nat) (N : Nat → Nat) (σ : St) (a1 : Int32) (a2 : Int32) (a3 : Int32) : ∀ r : Int32 × St, p_PE_mark σ a1 a2 a3 = some r → Ct l yX11_mark cX11_mark 5 (some .int) ({ frames := 4, cells := 0, slots := 0, locals := 93 } : Room) LC ω ad N [.ref (ω.2.1 0), .int a1, .int a2, .int a3] σ (some (.int r.1)) r.2 (True) :=
  ct_of (o := fun r : Int32 × St => (some (.int r.1))) (s' := fun r => r.2) (P := fun r => True) [some (.ref (ω.2.1 0)), some (.int a1), some (.int a2), some (.int a3), none] (by decide) rfl (Nat.le_of_ble_eq_true rfl) (fun Γ C _ _ => w_p_PE_mark (Γ, ω, 5, ad, N, 0, 0) σ a1 a2 a3 C)
theorem fg_X11_200 : FG LC RX11 200 0 2 5 (0, 0) := ⟨_, _, _, _, _, rfl, rfl, rfl, by decide, uw_X6, (in_wt 185 (by decide +kernel) (by decide +kernel))⟩
theorem fg_X11_21 : FG LC RX11 21 0 0 1 (1, 2) := ⟨_, _, _, _, _, rfl, rfl, rfl, by decide, uw_X11, (in_wt 383 (by decide +kernel) (by decide +kernel))⟩
theorem ml_X11_197 : Cond.methodLink RX11 197 yX6_join ∈ wt := in_wt 748 (by decide +kernel) (by decide +kernel)
/-- PostsEnd.public int pools(int) -/
def p_PE_pools (σ : St) (a1 : Int32) : Option (Int32 × St) := (Option.bind (p_Firm_isUnit σ a1) fun r1 => (if r1 = 0 then (Option.bind (p_PE_refuse σ (-1 : Int32)) fun r5 => some (r5.1, r5.2)) else (Option.bind (p_Pools_join σ a1) fun r3 => some (r3.1 0 2 5, r3))))
set_option maxRecDepth 20000 in
set_option maxHeartbeats 4000000 in
theorem w_p_PE_pools (Θ : TT) (σ : St) (a1 : Int32) (C : CX Θ cX11_pools RX11 (some .int) ({ frames := 5, cells := 0, slots := 0, locals := 115 } : Room) 2) : WA LC Θ (fun r : Int32 × St => Qm LC Θ (some (.int r.1)) r.2 (True)) 0 [some (.ref (cF Θ 0)), some (.int a1)] [] σ (p_PE_pools σ a1) := by
  unfold p_PE_pools
  refine r_aload_n C dX11_pools_0 rfl ?_
  refine r_getF0 C dX11_pools_1 fg_X11_10 (by decide) ?_
  refine r_iload_n C dX11_pools_4 rfl ?_
  refine r_callV C (st := []) (As := [.int a1]) (d := 0) (j := 1) dX11_pools_5 ml_X11_72 vw_X3_isUnit ⟨_, _, _, _, rfl, rfl⟩ (dm0 (by decide)) (fun r1 e => c_p_Firm_isUnit Θ.1.2.1 (cW Θ) (cAd Θ) (cN Θ) σ a1 r1 e) rfl rfl (Nat.le_of_ble_eq_true rfl) ⟨rfl, rfl, by decide, by decide⟩ (fun r1 h2 => ?_)
  refine r_if_ne C 17 dX11_pools_8 (by decide) ?_ ?_
  · refine r_aload_n C dX11_pools_17 rfl ?_
    refine r_getF0 C dX11_pools_18 fg_X11_21 (by decide) ?_
    refine r_iload_n C dX11_pools_21 rfl ?_
    refine r_callV C (st := []) (As := [.int a1]) (d := 0) (j := 2) dX11_pools_22 ml_X11_197 vw_X6_join ⟨_, _, _, _, rfl, rfl⟩ (dm0 (by decide)) (fun r3 e => c_p_Pools_join Θ.1.2.1 (cW Θ) (cAd Θ) (cN Θ) σ a1 r3 e) rfl rfl (Nat.le_of_ble_eq_true rfl) ⟨rfl, rfl, by decide, by decide⟩ (fun r3 h4 => ?_)
    refine r_aload_n C dX11_pools_25 rfl ?_
    refine r_getF0 C dX11_pools_26 fg_X11_21 (by decide) ?_
    refine r_getI0 C dX11_pools_29 fg_X11_200 (by decide) ?_
    exact r_iret C dX11_pools_32 rfl rfl trivial
  · refine r_aload_n C dX11_pools_11 rfl ?_
    refine r_iconst C (-1 : Int32) dX11_pools_12 (by decide) ?_
    refine r_callV C (st := []) (As := [.int (-1 : Int32)]) (d := 0) (j := 0) dX11_pools_13 ml_X11_64 vw_X11_refuse ⟨_, _, _, _, rfl, rfl⟩ (dm0 (by decide)) (fun r5 e => c_p_PE_refuse Θ.1.2.1 (cW Θ) (cAd Θ) (cN Θ) σ (-1 : Int32) r5 e) rfl rfl (Nat.le_of_ble_eq_true rfl) ⟨rfl, rfl, by decide, by decide⟩ (fun r5 h6 => ?_)
    exact r_iret C dX11_pools_16 rfl rfl trivial
theorem c_p_PE_pools (l : Launch) (ω : Wd) (ad : Nat → Nat → Nat) (N : Nat → Nat) (σ : St) (a1 : Int32) : ∀ r : Int32 × St, p_PE_pools σ a1 = some r → Ct l yX11_pools cX11_pools 2 (some .int) ({ frames := 5, cells := 0, slots := 0, locals := 115 } : Room) LC ω ad N [.ref (ω.2.1 0), .int a1] σ (some (.int r.1)) r.2 (True) :=
  ct_of (o := fun r : Int32 × St => (some (.int r.1))) (s' := fun r => r.2) (P := fun r => True) [some (.ref (ω.2.1 0)), some (.int a1)] (by decide) rfl (Nat.le_of_ble_eq_true rfl) (fun Γ C _ _ => w_p_PE_pools (Γ, ω, 2, ad, N, 0, 0) σ a1 C)
