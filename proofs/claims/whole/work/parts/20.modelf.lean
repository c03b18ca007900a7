theorem ag_LM_39 : AG LM 39 0 8 := ⟨by decide, rfl⟩
theorem vw_X12_worth : VW yX12_worth cX12_worth 5 (some .int) 3 := ⟨⟨(in_wt 88 (by decide +kernel) (by decide +kernel)), (in_wt 1691 (by decide +kernel) (by decide +kernel)), by decide +kernel⟩, (in_wt 1690 (by decide +kernel) (by decide +kernel)), (in_wt 74 (by decide +kernel) (by decide +kernel))⟩
theorem fg_X12_131 : FG LM RX12 131 0 0 58 (1, 39) := ⟨_, _, _, _, _, rfl, rfl, rfl, by decide, uw_X12, (in_wt 1292 (by decide +kernel) (by decide +kernel))⟩
theorem fg_X12_326 : FG LM RX12 326 0 0 56 (0, 0) := ⟨_, _, _, _, _, rfl, rfl, rfl, by decide, uw_X12, (in_wt 1290 (by decide +kernel) (by decide +kernel))⟩
theorem fp_X12_326 : FP LM RX12 326 0 0 56 (0, 0) .int := ⟨_, _, _, _, _, tyX12, rfl, rfl, rfl, by decide, uw_X12, (in_wt 1290 (by decide +kernel) (by decide +kernel)), tyX12_ok, nmX12, rfl, by decide +kernel⟩
theorem ml_X12_329 : Cond.methodLink RX12 329 yX12_worth ∈ wt := in_wt 1688 (by decide +kernel) (by decide +kernel)
/-- PostsEndModel.private void findOffers() -/
def m_findOffers (σ : St) : Option St := (lt1 (sx σ 0 0 56 (0 : Int32)) fun σ1 => (Option.bind (itr0 (S := Int32 × St) (E := St) (fun s2 => (if s2.1 < s2.2.1 0 0 4 then (if s2.2.1 0 0 56 < (8 : Int32) then (Option.bind (m_isVacant s2.2 s2.1) fun r85 => (Option.bind (α := St) ((if r85 = 0 then some s2.2 else (Option.bind (ix 8 (s2.2.1 0 0 56)) fun i90 => (lt1 (sx s2.2 0 37 i90 s2.1) fun σ91 => (lt1 (sx σ91 0 0 56 ((σ91.1 0 0 56) + (1 : Int32))) fun σ92 => some σ92))))) fun t87 => some (.inl (s2.1 + (1 : Int32), t87)))) else some (.inr s2.2)) else some (.inr s2.2))) FU ((0 : Int32), σ1)) fun e7 => (Option.bind (itr0 (S := Int32 × St) (E := St) (fun s10 => (if s10.1 < (256 : Int32) then (Option.bind (ix 2304 (((256 : Int32) * (s10.2.1 0 0 53)) + s10.1)) fun i83 => (lt1 (sx s10.2 0 38 i83 (0 : Int32)) fun σ84 => some (.inl (s10.1 + (1 : Int32), σ84)))) else some (.inr s10.2))) FU ((0 : Int32), e7)) fun e15 => (Option.bind (itr0 (S := Int32 × St) (E := St) (fun s18 => (if s18.1 < 0 then some (.inr s18.2) else (Option.bind (itr0 (S := Int32 × St) (E := St) (fun s57 => (if s57.1 < (1 : Int32) <<< ((s57.2.1 0 0 56) &&& 31) then (Option.bind (ix 2304 (((256 : Int32) * (s18.1 + (1 : Int32))) + s57.1)) fun i65 => (Option.bind (itr0 (S := Int32 × Int32) (E := Int32) (fun s66 => (if s66.2 < s57.2.1 0 0 56 then (Option.bind (m_worth s57.2 s18.1 s66.2 s57.1) fun r76 => (Option.bind (α := Int32) ((if s66.1 < r76 then (Option.bind (m_worth s57.2 s18.1 s66.2 s57.1) fun r81 => some r81) else some s66.1)) fun t78 => some (.inl (t78, s66.2 + (1 : Int32))))) else some (.inr s66.1))) FU (s57.2.1 0 38 i65, (0 : Int32))) fun e71 => (Option.bind (ix 2304 (((256 : Int32) * s18.1) + s57.1)) fun i74 => (lt1 (sx s57.2 0 38 i74 e71) fun σ75 => some (.inl (s57.1 + (1 : Int32), σ75)))))) else some (.inr s57.2))) FU ((0 : Int32), s18.2)) fun e62 => some (.inl (s18.1 + (-1 : Int32), e62))))) FU ((e15.1 0 0 53) - (1 : Int32), e15)) fun e23 => (Option.bind (itr0 (S := Int32 × Int32 × St) (E := St) (fun s26 => (if s26.2.1 < s26.2.2.1 0 0 53 then (Option.bind (itr0 (S := Int32 × Int32) (E := Int32) (fun s34 => (if s34.2 < 0 then some (.inr s34.1) else (Option.bind (m_worth s26.2.2 s26.2.1 s34.2 s26.1) fun r51 => (Option.bind (ix 2304 (((256 : Int32) * s26.2.1) + s26.1)) fun i53 => (Option.bind (α := Int32) ((if r51 = s26.2.2.1 0 38 i53 then some s34.2 else some s34.1)) fun t54 => some (.inl (t54, s34.2 + (-1 : Int32)))))))) FU ((-1 : Int32), (s26.2.2.1 0 0 56) - (1 : Int32))) fun e39 => (Option.bind (α := Int32) ((if e39 < 0 then some (-9 : Int32) else (Option.bind (ix 8 e39) fun i50 => some (s26.2.2.1 0 37 i50)))) fun t42 => (Option.bind (ix 8 s26.2.1) fun i45 => (lt1 (sx s26.2.2 0 39 i45 t42) fun σ46 => (Option.bind (α := Int32) ((if e39 < 0 then some (0 : Int32) else some ((1 : Int32) <<< (e39 &&& 31)))) fun t47 => some (.inl (s26.1 ||| t47, s26.2.1 + (1 : Int32), σ46))))))) else some (.inr s26.2.2))) FU ((0 : Int32), (0 : Int32), e23)) fun e31 => some e31)))))
set_option maxRecDepth 20000 in
set_option maxHeartbeats 4000000 in
theorem w_m_findOffers (Θ : TT) (σ : St)  (C : CX Θ cX12_findOffers RX12 none ({ frames := 4, cells := 0, slots := 0, locals := 92 } : Room) 5) : WA LM Θ (fun r : St => Qm LM Θ none r (True)) 0 [some (.ref (cF Θ 0)), none, none, none, none] [] σ (m_findOffers σ) := by
  unfold m_findOffers
  refine r_aload_n C dX12_findOffers_0 rfl ?_
  refine r_iconst C (0 : Int32) dX12_findOffers_1 (by decide) ?_
  refine r_putI0 C dX12_findOffers_2 fp_X12_326 (by decide) ?_
  refine WA.gen (fun σ1 => ?_)
  refine r_iconst C (0 : Int32) dX12_findOffers_5 (by decide) ?_
  refine r_istore_n C [some (.ref (cF Θ 0)), some (.int (0 : Int32)), none, none, none] dX12_findOffers_6 rfl (by decide) rfl ?_
  refine WA.join (α := St) 58 (fun e7 => [some (.ref (cF Θ 0)), none, none, none, none]) (fun e7 => []) (fun e7 => e7) (fun e7 => True) (fun e7 h8 => ?_) (fun J9 => ?_)
  · refine r_iconst C (0 : Int32) dX12_findOffers_58 (by decide) ?_
    refine r_istore_n C [some (.ref (cF Θ 0)), some (.int (0 : Int32)), none, none, none] dX12_findOffers_59 rfl (by decide) rfl ?_
    refine WA.join (α := St) 89 (fun e15 => [some (.ref (cF Θ 0)), none, none, none, none]) (fun e15 => []) (fun e15 => e15) (fun e15 => True) (fun e15 h16 => ?_) (fun J17 => ?_)
    · refine r_aload_n C dX12_findOffers_89 rfl ?_
      refine r_getI0 C dX12_findOffers_90 fg_X12_316 (by decide) ?_
      refine r_iconst C (1 : Int32) dX12_findOffers_93 (by decide) ?_
      refine r_isub C dX12_findOffers_94 ?_
      refine r_istore_n C [some (.ref (cF Θ 0)), some (.int ((e15.1 0 0 53) - (1 : Int32))), none, none, none] dX12_findOffers_95 rfl (by decide) rfl ?_
      refine WA.join (α := St) 195 (fun e23 => [some (.ref (cF Θ 0)), none, none, none, none]) (fun e23 => []) (fun e23 => e23) (fun e23 => True) (fun e23 h24 => ?_) (fun J25 => ?_)
      · refine r_iconst C (0 : Int32) dX12_findOffers_195 (by decide) ?_
        refine r_istore_n C [some (.ref (cF Θ 0)), some (.int (0 : Int32)), none, none, none] dX12_findOffers_196 rfl (by decide) rfl ?_
        refine r_iconst C (0 : Int32) dX12_findOffers_197 (by decide) ?_
        refine r_istore_n C [some (.ref (cF Θ 0)), some (.int (0 : Int32)), some (.int (0 : Int32)), none, none] dX12_findOffers_198 rfl (by decide) rfl ?_
        refine WA.join (α := St) 299 (fun e31 => [none, none, none, none, none]) (fun e31 => []) (fun e31 => e31) (fun e31 => True) (fun e31 h32 => ?_) (fun J33 => ?_)
        · exact r_vret C dX12_findOffers_299 rfl rfl trivial
        · refine WA.wk (lv' := [some (.ref (cF Θ 0)), some (.int (0 : Int32)), some (.int (0 : Int32)), none, none]) [true, true, true, false, false] rfl ?_
          refine WA.itr (S := Int32 × Int32 × St) 199 (fun s26 => [some (.ref (cF Θ 0)), some (.int s26.1), some (.int s26.2.1), none, none]) (fun s26 => []) (fun s26 => s26.2.2) (fun s26 => True) (fun s26 k30 h27 ih28 hx29 => ?_) FU ((0 : Int32), (0 : Int32), e23) trivial
          refine r_iload_n C dX12_findOffers_199 rfl ?_
          refine r_aload_n C dX12_findOffers_200 rfl ?_
          refine r_getI0 C dX12_findOffers_201 fg_X12_316 (by decide) ?_
          refine WA.bif ?_
          refine r_icmp_ge C 299 dX12_findOffers_204 (by decide) ?_ ?_
          · refine WA.wk (lv' := [none, none, none, none, none]) [false, false, false, false, false] rfl ?_
            exact WA.eqK (hx29 _) (J33 s26.2.2 trivial)
          · refine r_iconst C (-1 : Int32) dX12_findOffers_207 (by decide) ?_
            refine r_istore_n C [some (.ref (cF Θ 0)), some (.int s26.1), some (.int s26.2.1), some (.int (-1 : Int32)), none] dX12_findOffers_208 rfl (by decide) rfl ?_
            refine r_aload_n C dX12_findOffers_209 rfl ?_
            refine r_getI0 C dX12_findOffers_210 fg_X12_326 (by decide) ?_
            refine r_iconst C (1 : Int32) dX12_findOffers_213 (by decide) ?_
            refine r_isub C dX12_findOffers_214 ?_
            refine r_istore C [some (.ref (cF Θ 0)), some (.int s26.1), some (.int s26.2.1), some (.int (-1 : Int32)), some (.int ((s26.2.2.1 0 0 56) - (1 : Int32)))] dX12_findOffers_215 rfl (by decide) rfl ?_
            refine WA.asc ?_
            refine WA.join (α := Int32) 258 (fun e39 => [some (.ref (cF Θ 0)), some (.int s26.1), some (.int s26.2.1), some (.int e39), none]) (fun e39 => []) (fun e39 => s26.2.2) (fun e39 => True) (fun e39 h40 => ?_) (fun J41 => ?_)
            · refine r_aload_n C dX12_findOffers_258 rfl ?_
              refine r_getF0 C dX12_findOffers_259 fg_X12_131 (by decide) ?_
              refine r_iload_n C dX12_findOffers_262 rfl ?_
              refine r_iload_n C dX12_findOffers_263 rfl ?_
              refine WA.asc ?_
              refine WA.join (α := Int32) 278 (fun t42 => [some (.ref (cF Θ 0)), some (.int s26.1), some (.int s26.2.1), some (.int e39), none]) (fun t42 => [.int t42, .int s26.2.1, .ref (cF Θ 39)]) (fun t42 => s26.2.2) (fun t42 => True) (fun t42 h43 => ?_) (fun J44 => ?_)
              · refine WA.asc ?_
                refine r_iast C dX12_findOffers_278 ag_LM_39 (fun i45 => ?_)
                refine WA.genB (fun σ46 => ?_)
                refine r_iload_n C dX12_findOffers_279 rfl ?_
                refine r_iload_n C dX12_findOffers_280 rfl ?_
                refine WA.asc ?_
                refine WA.join (α := Int32) 291 (fun t47 => [some (.ref (cF Θ 0)), none, some (.int s26.2.1), none, none]) (fun t47 => [.int t47, .int s26.1]) (fun t47 => σ46) (fun t47 => True) (fun t47 h48 => ?_) (fun J49 => ?_)
                · refine r_ior C dX12_findOffers_291 ?_
                  refine r_istore_n C [some (.ref (cF Θ 0)), some (.int (s26.1 ||| t47)), some (.int s26.2.1), none, none] dX12_findOffers_292 rfl (by decide) rfl ?_
                  refine r_iinc C (1 : Int32) [some (.ref (cF Θ 0)), some (.int (s26.1 ||| t47)), some (.int (s26.2.1 + (1 : Int32))), none, none] dX12_findOffers_293 (by decide) rfl rfl (by decide) rfl ?_
                  refine r_goto C 199 dX12_findOffers_296 (by decide) ?_
                  refine WA.wk (lv' := [some (.ref (cF Θ 0)), some (.int (s26.1 ||| t47)), some (.int (s26.2.1 + (1 : Int32))), none, none]) [true, true, true, false, false] rfl ?_
                  exact ih28 (s26.1 ||| t47, s26.2.1 + (1 : Int32), σ46) trivial
                · refine WA.bif ?_
                  refine r_if_ge C 288 dX12_findOffers_281 (by decide) ?_ ?_
                  · refine r_iconst C (1 : Int32) dX12_findOffers_288 (by decide) ?_
                    refine r_iload_n C dX12_findOffers_289 rfl ?_
                    refine r_ishl C dX12_findOffers_290 ?_
                    refine WA.wk (lv' := [some (.ref (cF Θ 0)), none, some (.int s26.2.1), none, none]) [true, false, true, false, false] rfl ?_
                    exact J49 ((1 : Int32) <<< (e39 &&& 31)) trivial
                  · refine r_iconst C (0 : Int32) dX12_findOffers_284 (by decide) ?_
                    refine r_goto C 291 dX12_findOffers_285 (by decide) ?_
                    refine WA.wk (lv' := [some (.ref (cF Θ 0)), none, some (.int s26.2.1), none, none]) [true, false, true, false, false] rfl ?_
                    exact J49 (0 : Int32) trivial
              · refine WA.bif ?_
                refine r_if_ge C 272 dX12_findOffers_264 (by decide) ?_ ?_
                · refine r_aload_n C dX12_findOffers_272 rfl ?_
                  refine r_getF0 C dX12_findOffers_273 fg_X12_125 (by decide) ?_
                  refine r_iload_n C dX12_findOffers_276 rfl ?_
                  refine WA.asc ?_
                  refine r_iald (α := Unit) C dX12_findOffers_277 ag_LM_37 (fun i50 => ?_)
                  refine WA.wk (lv' := [some (.ref (cF Θ 0)), some (.int s26.1), some (.int s26.2.1), some (.int e39), none]) [true, true, true, true, false] rfl ?_
                  exact J44 (s26.2.2.1 0 37 i50) trivial
                · refine r_bipush C (-9 : Int32) dX12_findOffers_267 (by decide) ?_
                  refine r_goto C 278 dX12_findOffers_269 (by decide) ?_
                  refine WA.wk (lv' := [some (.ref (cF Θ 0)), some (.int s26.1), some (.int s26.2.1), some (.int e39), none]) [true, true, true, true, false] rfl ?_
                  exact J44 (-9 : Int32) trivial
            · refine WA.wk (lv' := [some (.ref (cF Θ 0)), some (.int s26.1), some (.int s26.2.1), some (.int (-1 : Int32)), some (.int ((s26.2.2.1 0 0 56) - (1 : Int32)))]) [true, true, true, true, true] rfl ?_
              refine WA.itr (S := Int32 × Int32) 217 (fun s34 => [some (.ref (cF Θ 0)), some (.int s26.1), some (.int s26.2.1), some (.int s34.1), some (.int s34.2)]) (fun s34 => []) (fun s34 => s26.2.2) (fun s34 => True) (fun s34 k38 h35 ih36 hx37 => ?_) FU ((-1 : Int32), (s26.2.2.1 0 0 56) - (1 : Int32)) trivial
              refine r_iload C dX12_findOffers_217 rfl ?_
              refine WA.bif ?_
              refine r_if_lt C 258 dX12_findOffers_219 (by decide) ?_ ?_
              · refine WA.wk (lv' := [some (.ref (cF Θ 0)), some (.int s26.1), some (.int s26.2.1), some (.int s34.1), none]) [true, true, true, true, false] rfl ?_
                exact WA.eqK (hx37 _) (J41 s34.1 trivial)
              · refine r_aload_n C dX12_findOffers_222 rfl ?_
                refine r_iload_n C dX12_findOffers_223 rfl ?_
                refine r_iload C dX12_findOffers_224 rfl ?_
                refine r_iload_n C dX12_findOffers_226 rfl ?_
                refine WA.asc ?_
                refine r_callV C (st := []) (As := [.int s26.2.1, .int s34.2, .int s26.1]) (d := 0) (j := 0) dX12_findOffers_227 ml_X12_329 vw_X12_worth ⟨_, _, _, _, rfl, rfl⟩ (dm0 (by decide)) (fun r51 e => c_m_worth Θ.1.2.1 (cW Θ) (cAd Θ) (cN Θ) s26.2.2 s26.2.1 s34.2 s26.1 r51 e) rfl rfl (Nat.le_of_ble_eq_true rfl) ⟨rfl, rfl, by decide, by decide⟩ (fun r51 h52 => ?_)
                refine r_aload_n C dX12_findOffers_230 rfl ?_
                refine r_getF0 C dX12_findOffers_231 fg_X12_128 (by decide) ?_
                refine r_sipush C (256 : Int32) dX12_findOffers_234 (by decide) ?_
                refine r_iload_n C dX12_findOffers_237 rfl ?_
                refine r_imul C dX12_findOffers_238 ?_
                refine r_iload_n C dX12_findOffers_239 rfl ?_
                refine r_iadd C dX12_findOffers_240 ?_
                refine WA.asc ?_
                refine r_iald (α := Unit) C dX12_findOffers_241 ag_LM_38 (fun i53 => ?_)
                refine WA.asc ?_
                refine WA.join (α := Int32) 251 (fun t54 => [some (.ref (cF Θ 0)), some (.int s26.1), some (.int s26.2.1), none, some (.int s34.2)]) (fun t54 => [.int t54]) (fun t54 => s26.2.2) (fun t54 => True) (fun t54 h55 => ?_) (fun J56 => ?_)
                · refine r_istore_n C [some (.ref (cF Θ 0)), some (.int s26.1), some (.int s26.2.1), some (.int t54), some (.int s34.2)] dX12_findOffers_251 rfl (by decide) rfl ?_
                  refine r_iinc C (-1 : Int32) [some (.ref (cF Θ 0)), some (.int s26.1), some (.int s26.2.1), some (.int t54), some (.int (s34.2 + (-1 : Int32)))] dX12_findOffers_252 (by decide) rfl rfl (by decide) rfl ?_
                  refine r_goto C 217 dX12_findOffers_255 (by decide) ?_
                  refine WA.wk (lv' := [some (.ref (cF Θ 0)), some (.int s26.1), some (.int s26.2.1), some (.int t54), some (.int (s34.2 + (-1 : Int32)))]) [true, true, true, true, true] rfl ?_
                  exact ih36 (t54, s34.2 + (-1 : Int32)) trivial
                · refine WA.bif ?_
                  refine r_icmp_ne C 250 dX12_findOffers_242 (by decide) ?_ ?_
                  · refine r_iload_n C dX12_findOffers_250 rfl ?_
                    refine WA.wk (lv' := [some (.ref (cF Θ 0)), some (.int s26.1), some (.int s26.2.1), none, some (.int s34.2)]) [true, true, true, false, true] rfl ?_
                    exact J56 s34.1 trivial
                  · refine r_iload C dX12_findOffers_245 rfl ?_
                    refine r_goto C 251 dX12_findOffers_247 (by decide) ?_
                    refine WA.wk (lv' := [some (.ref (cF Θ 0)), some (.int s26.1), some (.int s26.2.1), none, some (.int s34.2)]) [true, true, true, false, true] rfl ?_
                    exact J56 s34.2 trivial
      · refine WA.wk (lv' := [some (.ref (cF Θ 0)), some (.int ((e15.1 0 0 53) - (1 : Int32))), none, none, none]) [true, true, false, false, false] rfl ?_
        refine WA.itr (S := Int32 × St) 96 (fun s18 => [some (.ref (cF Θ 0)), some (.int s18.1), none, none, none]) (fun s18 => []) (fun s18 => s18.2) (fun s18 => True) (fun s18 k22 h19 ih20 hx21 => ?_) FU ((e15.1 0 0 53) - (1 : Int32), e15) trivial
        refine r_iload_n C dX12_findOffers_96 rfl ?_
        refine WA.bif ?_
        refine r_if_lt C 195 dX12_findOffers_97 (by decide) ?_ ?_
        · refine WA.wk (lv' := [some (.ref (cF Θ 0)), none, none, none, none]) [true, false, false, false, false] rfl ?_
          exact WA.eqK (hx21 _) (J25 s18.2 trivial)
        · refine r_iconst C (0 : Int32) dX12_findOffers_100 (by decide) ?_
          refine r_istore_n C [some (.ref (cF Θ 0)), some (.int s18.1), some (.int (0 : Int32)), none, none] dX12_findOffers_101 rfl (by decide) rfl ?_
          refine WA.asc ?_
          refine WA.join (α := St) 189 (fun e62 => [some (.ref (cF Θ 0)), some (.int s18.1), none, none, none]) (fun e62 => []) (fun e62 => e62) (fun e62 => True) (fun e62 h63 => ?_) (fun J64 => ?_)
          · refine r_iinc C (-1 : Int32) [some (.ref (cF Θ 0)), some (.int (s18.1 + (-1 : Int32))), none, none, none] dX12_findOffers_189 (by decide) rfl rfl (by decide) rfl ?_
            refine r_goto C 96 dX12_findOffers_192 (by decide) ?_
            refine WA.wk (lv' := [some (.ref (cF Θ 0)), some (.int (s18.1 + (-1 : Int32))), none, none, none]) [true, true, false, false, false] rfl ?_
            exact ih20 (s18.1 + (-1 : Int32), e62) trivial
          · refine WA.wk (lv' := [some (.ref (cF Θ 0)), some (.int s18.1), some (.int (0 : Int32)), none, none]) [true, true, true, false, false] rfl ?_
            refine WA.itr (S := Int32 × St) 102 (fun s57 => [some (.ref (cF Θ 0)), some (.int s18.1), some (.int s57.1), none, none]) (fun s57 => []) (fun s57 => s57.2) (fun s57 => True) (fun s57 k61 h58 ih59 hx60 => ?_) FU ((0 : Int32), s18.2) trivial
            refine r_iload_n C dX12_findOffers_102 rfl ?_
            refine r_iconst C (1 : Int32) dX12_findOffers_103 (by decide) ?_
            refine r_aload_n C dX12_findOffers_104 rfl ?_
            refine r_getI0 C dX12_findOffers_105 fg_X12_326 (by decide) ?_
            refine r_ishl C dX12_findOffers_108 ?_
            refine WA.bif ?_
            refine r_icmp_ge C 189 dX12_findOffers_109 (by decide) ?_ ?_
            · refine WA.wk (lv' := [some (.ref (cF Θ 0)), some (.int s18.1), none, none, none]) [true, true, false, false, false] rfl ?_
              exact WA.eqK (hx60 _) (J64 s57.2 trivial)
            · refine r_aload_n C dX12_findOffers_112 rfl ?_
              refine r_getF0 C dX12_findOffers_113 fg_X12_128 (by decide) ?_
              refine r_sipush C (256 : Int32) dX12_findOffers_116 (by decide) ?_
              refine r_iload_n C dX12_findOffers_119 rfl ?_
              refine r_iconst C (1 : Int32) dX12_findOffers_120 (by decide) ?_
              refine r_iadd C dX12_findOffers_121 ?_
              refine r_imul C dX12_findOffers_122 ?_
              refine r_iload_n C dX12_findOffers_123 rfl ?_
              refine r_iadd C dX12_findOffers_124 ?_
              refine WA.asc ?_
              refine r_iald (α := Unit) C dX12_findOffers_125 ag_LM_38 (fun i65 => ?_)
              refine r_istore_n C [some (.ref (cF Θ 0)), some (.int s18.1), some (.int s57.1), some (.int (s57.2.1 0 38 i65)), none] dX12_findOffers_126 rfl (by decide) rfl ?_
              refine r_iconst C (0 : Int32) dX12_findOffers_127 (by decide) ?_
              refine r_istore C [some (.ref (cF Θ 0)), some (.int s18.1), some (.int s57.1), some (.int (s57.2.1 0 38 i65)), some (.int (0 : Int32))] dX12_findOffers_128 rfl (by decide) rfl ?_
              refine WA.asc ?_
              refine WA.join (α := Int32) 170 (fun e71 => [some (.ref (cF Θ 0)), some (.int s18.1), some (.int s57.1), some (.int e71), none]) (fun e71 => []) (fun e71 => s57.2) (fun e71 => True) (fun e71 h72 => ?_) (fun J73 => ?_)
              · refine r_aload_n C dX12_findOffers_170 rfl ?_
                refine r_getF0 C dX12_findOffers_171 fg_X12_128 (by decide) ?_
                refine r_sipush C (256 : Int32) dX12_findOffers_174 (by decide) ?_
                refine r_iload_n C dX12_findOffers_177 rfl ?_
                refine r_imul C dX12_findOffers_178 ?_
                refine r_iload_n C dX12_findOffers_179 rfl ?_
                refine r_iadd C dX12_findOffers_180 ?_
                refine r_iload_n C dX12_findOffers_181 rfl ?_
                refine WA.asc ?_
                refine r_iast C dX12_findOffers_182 ag_LM_38 (fun i74 => ?_)
                refine WA.genB (fun σ75 => ?_)
                refine r_iinc C (1 : Int32) [some (.ref (cF Θ 0)), some (.int s18.1), some (.int (s57.1 + (1 : Int32))), some (.int e71), none] dX12_findOffers_183 (by decide) rfl rfl (by decide) rfl ?_
                refine r_goto C 102 dX12_findOffers_186 (by decide) ?_
                refine WA.wk (lv' := [some (.ref (cF Θ 0)), some (.int s18.1), some (.int (s57.1 + (1 : Int32))), none, none]) [true, true, true, false, false] rfl ?_
                exact ih59 (s57.1 + (1 : Int32), σ75) trivial
              · refine WA.wk (lv' := [some (.ref (cF Θ 0)), some (.int s18.1), some (.int s57.1), some (.int (s57.2.1 0 38 i65)), some (.int (0 : Int32))]) [true, true, true, true, true] rfl ?_
                refine WA.itr (S := Int32 × Int32) 130 (fun s66 => [some (.ref (cF Θ 0)), some (.int s18.1), some (.int s57.1), some (.int s66.1), some (.int s66.2)]) (fun s66 => []) (fun s66 => s57.2) (fun s66 => True) (fun s66 k70 h67 ih68 hx69 => ?_) FU (s57.2.1 0 38 i65, (0 : Int32)) trivial
                refine r_iload C dX12_findOffers_130 rfl ?_
                refine r_aload_n C dX12_findOffers_132 rfl ?_
                refine r_getI0 C dX12_findOffers_133 fg_X12_326 (by decide) ?_
                refine WA.bif ?_
                refine r_icmp_ge C 170 dX12_findOffers_136 (by decide) ?_ ?_
                · refine WA.wk (lv' := [some (.ref (cF Θ 0)), some (.int s18.1), some (.int s57.1), some (.int s66.1), none]) [true, true, true, true, false] rfl ?_
                  exact WA.eqK (hx69 _) (J73 s66.1 trivial)
                · refine r_aload_n C dX12_findOffers_139 rfl ?_
                  refine r_iload_n C dX12_findOffers_140 rfl ?_
                  refine r_iload C dX12_findOffers_141 rfl ?_
                  refine r_iload_n C dX12_findOffers_143 rfl ?_
                  refine WA.asc ?_
                  refine r_callV C (st := []) (As := [.int s18.1, .int s66.2, .int s57.1]) (d := 0) (j := 0) dX12_findOffers_144 ml_X12_329 vw_X12_worth ⟨_, _, _, _, rfl, rfl⟩ (dm0 (by decide)) (fun r76 e => c_m_worth Θ.1.2.1 (cW Θ) (cAd Θ) (cN Θ) s57.2 s18.1 s66.2 s57.1 r76 e) rfl rfl (Nat.le_of_ble_eq_true rfl) ⟨rfl, rfl, by decide, by decide⟩ (fun r76 h77 => ?_)
                  refine r_iload_n C dX12_findOffers_147 rfl ?_
                  refine WA.asc ?_
                  refine WA.join (α := Int32) 163 (fun t78 => [some (.ref (cF Θ 0)), some (.int s18.1), some (.int s57.1), none, some (.int s66.2)]) (fun t78 => [.int t78]) (fun t78 => s57.2) (fun t78 => True) (fun t78 h79 => ?_) (fun J80 => ?_)
                  · refine r_istore_n C [some (.ref (cF Θ 0)), some (.int s18.1), some (.int s57.1), some (.int t78), some (.int s66.2)] dX12_findOffers_163 rfl (by decide) rfl ?_
                    refine r_iinc C (1 : Int32) [some (.ref (cF Θ 0)), some (.int s18.1), some (.int s57.1), some (.int t78), some (.int (s66.2 + (1 : Int32)))] dX12_findOffers_164 (by decide) rfl rfl (by decide) rfl ?_
                    refine r_goto C 130 dX12_findOffers_167 (by decide) ?_
                    refine WA.wk (lv' := [some (.ref (cF Θ 0)), some (.int s18.1), some (.int s57.1), some (.int t78), some (.int (s66.2 + (1 : Int32)))]) [true, true, true, true, true] rfl ?_
                    exact ih68 (t78, s66.2 + (1 : Int32)) trivial
                  · refine WA.bif ?_
                    refine r_icmp_le C 162 dX12_findOffers_148 (by decide) ?_ ?_
                    · refine r_iload_n C dX12_findOffers_162 rfl ?_
                      refine WA.wk (lv' := [some (.ref (cF Θ 0)), some (.int s18.1), some (.int s57.1), none, some (.int s66.2)]) [true, true, true, false, true] rfl ?_
                      exact J80 s66.1 trivial
                    · refine r_aload_n C dX12_findOffers_151 rfl ?_
                      refine r_iload_n C dX12_findOffers_152 rfl ?_
                      refine r_iload C dX12_findOffers_153 rfl ?_
                      refine r_iload_n C dX12_findOffers_155 rfl ?_
                      refine WA.asc ?_
                      refine r_callV C (st := []) (As := [.int s18.1, .int s66.2, .int s57.1]) (d := 0) (j := 0) dX12_findOffers_156 ml_X12_329 vw_X12_worth ⟨_, _, _, _, rfl, rfl⟩ (dm0 (by decide)) (fun r81 e => c_m_worth Θ.1.2.1 (cW Θ) (cAd Θ) (cN Θ) s57.2 s18.1 s66.2 s57.1 r81 e) rfl rfl (Nat.le_of_ble_eq_true rfl) ⟨rfl, rfl, by decide, by decide⟩ (fun r81 h82 => ?_)
                      refine r_goto C 163 dX12_findOffers_159 (by decide) ?_
                      refine WA.wk (lv' := [some (.ref (cF Θ 0)), some (.int s18.1), some (.int s57.1), none, some (.int s66.2)]) [true, true, true, false, true] rfl ?_
                      exact J80 r81 trivial
    · refine WA.wk (lv' := [some (.ref (cF Θ 0)), some (.int (0 : Int32)), none, none, none]) [true, true, false, false, false] rfl ?_
      refine WA.itr (S := Int32 × St) 60 (fun s10 => [some (.ref (cF Θ 0)), some (.int s10.1), none, none, none]) (fun s10 => []) (fun s10 => s10.2) (fun s10 => True) (fun s10 k14 h11 ih12 hx13 => ?_) FU ((0 : Int32), e7) trivial
      refine r_iload_n C dX12_findOffers_60 rfl ?_
      refine r_sipush C (256 : Int32) dX12_findOffers_61 (by decide) ?_
      refine WA.bif ?_
      refine r_icmp_ge C 89 dX12_findOffers_64 (by decide) ?_ ?_
      · refine WA.wk (lv' := [some (.ref (cF Θ 0)), none, none, none, none]) [true, false, false, false, false] rfl ?_
        exact WA.eqK (hx13 _) (J17 s10.2 trivial)
      · refine r_aload_n C dX12_findOffers_67 rfl ?_
        refine r_getF0 C dX12_findOffers_68 fg_X12_128 (by decide) ?_
        refine r_sipush C (256 : Int32) dX12_findOffers_71 (by decide) ?_
        refine r_aload_n C dX12_findOffers_74 rfl ?_
        refine r_getI0 C dX12_findOffers_75 fg_X12_316 (by decide) ?_
        refine r_imul C dX12_findOffers_78 ?_
        refine r_iload_n C dX12_findOffers_79 rfl ?_
        refine r_iadd C dX12_findOffers_80 ?_
        refine r_iconst C (0 : Int32) dX12_findOffers_81 (by decide) ?_
        refine WA.asc ?_
        refine r_iast C dX12_findOffers_82 ag_LM_38 (fun i83 => ?_)
        refine WA.genB (fun σ84 => ?_)
        refine r_iinc C (1 : Int32) [some (.ref (cF Θ 0)), some (.int (s10.1 + (1 : Int32))), none, none, none] dX12_findOffers_83 (by decide) rfl rfl (by decide) rfl ?_
        refine r_goto C 60 dX12_findOffers_86 (by decide) ?_
        refine WA.wk (lv' := [some (.ref (cF Θ 0)), some (.int (s10.1 + (1 : Int32))), none, none, none]) [true, true, false, false, false] rfl ?_
        exact ih12 (s10.1 + (1 : Int32), σ84) trivial
  · refine WA.wk (lv' := [some (.ref (cF Θ 0)), some (.int (0 : Int32)), none, none, none]) [true, true, false, false, false] rfl ?_
    refine WA.itr (S := Int32 × St) 7 (fun s2 => [some (.ref (cF Θ 0)), some (.int s2.1), none, none, none]) (fun s2 => []) (fun s2 => s2.2) (fun s2 => True) (fun s2 k6 h3 ih4 hx5 => ?_) FU ((0 : Int32), σ1) trivial
    refine r_iload_n C dX12_findOffers_7 rfl ?_
    refine r_aload_n C dX12_findOffers_8 rfl ?_
    refine r_getI0 C dX12_findOffers_9 fg_X12_161 (by decide) ?_
    refine WA.bif ?_
    refine r_icmp_ge C 58 dX12_findOffers_12 (by decide) ?_ ?_
    · refine WA.wk (lv' := [some (.ref (cF Θ 0)), none, none, none, none]) [true, false, false, false, false] rfl ?_
      exact WA.eqK (hx5 _) (J9 s2.2 trivial)
    · refine r_aload_n C dX12_findOffers_15 rfl ?_
      refine r_getI0 C dX12_findOffers_16 fg_X12_326 (by decide) ?_
      refine r_bipush C (8 : Int32) dX12_findOffers_19 (by decide) ?_
      refine WA.bif ?_
      refine r_icmp_ge C 58 dX12_findOffers_21 (by decide) ?_ ?_
      · refine WA.wk (lv' := [some (.ref (cF Θ 0)), none, none, none, none]) [true, false, false, false, false] rfl ?_
        exact WA.eqK (hx5 _) (J9 s2.2 trivial)
      · refine r_aload_n C dX12_findOffers_24 rfl ?_
        refine r_iload_n C dX12_findOffers_25 rfl ?_
        refine WA.asc ?_
        refine r_callV C (st := []) (As := [.int s2.1]) (d := 0) (j := 0) dX12_findOffers_26 ml_X12_191 vw_X12_isVacant ⟨_, _, _, _, rfl, rfl⟩ (dm0 (by decide)) (fun r85 e => c_m_isVacant Θ.1.2.1 (cW Θ) (cAd Θ) (cN Θ) s2.2 s2.1 r85 e) rfl rfl (Nat.le_of_ble_eq_true rfl) ⟨rfl, rfl, by decide, by decide⟩ (fun r85 h86 => ?_)
        refine WA.asc ?_
        refine WA.join (α := St) 52 (fun t87 => [some (.ref (cF Θ 0)), some (.int s2.1), none, none, none]) (fun t87 => []) (fun t87 => t87) (fun t87 => True) (fun t87 h88 => ?_) (fun J89 => ?_)
        · refine r_iinc C (1 : Int32) [some (.ref (cF Θ 0)), some (.int (s2.1 + (1 : Int32))), none, none, none] dX12_findOffers_52 (by decide) rfl rfl (by decide) rfl ?_
          refine r_goto C 7 dX12_findOffers_55 (by decide) ?_
          refine WA.wk (lv' := [some (.ref (cF Θ 0)), some (.int (s2.1 + (1 : Int32))), none, none, none]) [true, true, false, false, false] rfl ?_
          exact ih4 (s2.1 + (1 : Int32), t87) trivial
        · refine WA.bif ?_
          refine r_if_eq C 52 dX12_findOffers_29 (by decide) ?_ ?_
          · refine WA.wk (lv' := [some (.ref (cF Θ 0)), some (.int s2.1), none, none, none]) [true, true, false, false, false] rfl ?_
            exact J89 s2.2 trivial
          · refine r_aload_n C dX12_findOffers_32 rfl ?_
            refine r_getF0 C dX12_findOffers_33 fg_X12_125 (by decide) ?_
            refine r_aload_n C dX12_findOffers_36 rfl ?_
            refine r_getI0 C dX12_findOffers_37 fg_X12_326 (by decide) ?_
            refine r_iload_n C dX12_findOffers_40 rfl ?_
            refine WA.asc ?_
            refine r_iast C dX12_findOffers_41 ag_LM_37 (fun i90 => ?_)
            refine WA.genB (fun σ91 => ?_)
            refine r_aload_n C dX12_findOffers_42 rfl ?_
            refine r_dup C dX12_findOffers_43 rfl ?_
            refine r_getI0 C dX12_findOffers_44 fg_X12_326 (by decide) ?_
            refine r_iconst C (1 : Int32) dX12_findOffers_47 (by decide) ?_
            refine r_iadd C dX12_findOffers_48 ?_
            refine r_putI0 C dX12_findOffers_49 fp_X12_326 (by decide) ?_
            refine WA.genB (fun σ92 => ?_)
            refine WA.wk (lv' := [some (.ref (cF Θ 0)), some (.int s2.1), none, none, none]) [true, true, false, false, false] rfl ?_
            exact J89 σ92 trivial
theorem c_m_findOffers (l : Launch) (ω : Wd) (ad : Nat → Nat → Nat) (N : Nat → Nat) (σ : St)  : ∀ r : St, m_findOffers σ = some r → Ct l yX12_findOffers cX12_findOffers 5 none ({ frames := 4, cells := 0, slots := 0, locals := 92 } : Room) LM ω ad N [.ref (ω.2.1 0)] σ none r (True) :=
  ct_of (o := fun r : St => none) (s' := fun r => r) (P := fun r => True) [some (.ref (ω.2.1 0)), none, none, none, none] (by decide) rfl (Nat.le_of_ble_eq_true rfl) (fun Γ C _ _ => w_m_findOffers (Γ, ω, 5, ad, N, 0, 0) σ  C)
theorem vw_X12_findOffers : VW yX12_findOffers cX12_findOffers 5 none 0 := ⟨⟨(in_wt 88 (by decide +kernel) (by decide +kernel)), (in_wt 1687 (by decide +kernel) (by decide +kernel)), by decide +kernel⟩, (in_wt 1686 (by decide +kernel) (by decide +kernel)), (in_wt 73 (by decide +kernel) (by decide +kernel))⟩
theorem ml_X12_332 : Cond.methodLink RX12 332 yX12_findOffers ∈ wt := in_wt 1684 (by decide +kernel) (by decide +kernel)
/-- PostsEndModel.public int offers(int) -/
def m_offers (σ : St) (a1 : Int32) : Option (Int32 × St) := (Option.bind (m_in a1 (0 : Int32) (2 : Int32)) fun r1 => (if r1 = 0 then (Option.bind (m_refuse σ (-2 : Int32)) fun r6 => some (r6.1, r6.2)) else (Option.bind (m_findOffers σ) fun r3 => (Option.bind (ix 2304 (0 : Int32)) fun i5 => (if a1 = 0 then some ((r3.1 0 38 i5) / (1000000 : Int32), r3) else (if a1 = (1 : Int32) then some (((r3.1 0 38 i5) / (10000 : Int32)) - ((r3.1 0 38 i5) / (10000 : Int32)) / (100 : Int32) * (100 : Int32), r3) else some ((r3.1 0 38 i5) - (r3.1 0 38 i5) / (10000 : Int32) * (10000 : Int32), r3)))))))
set_option maxRecDepth 20000 in
set_option maxHeartbeats 4000000 in
theorem w_m_offers (Θ : TT) (σ : St) (a1 : Int32) (C : CX Θ cX12_offers RX12 (some .int) ({ frames := 5, cells := 0, slots := 0, locals := 116 } : Room) 3) : WA LM Θ (fun r : Int32 × St => Qm LM Θ (some (.int r.1)) r.2 (True)) 0 [some (.ref (cF Θ 0)), some (.int a1), none] [] σ (m_offers σ a1) := by
  unfold m_offers
  refine r_iload_n C dX12_offers_0 rfl ?_
  refine r_iconst C (0 : Int32) dX12_offers_1 (by decide) ?_
  refine r_iconst C (2 : Int32) dX12_offers_2 (by decide) ?_
  refine r_callS C (st := []) (As := [.int a1, .int (0 : Int32), .int (2 : Int32)]) dX12_offers_3 ml_X12_157 sw_X12_in (fun r1 e => c_m_in Θ.1.2.1 (cW Θ) (cAd Θ) (cN Θ) σ a1 (0 : Int32) (2 : Int32) r1 e) rfl rfl (Nat.le_of_ble_eq_true rfl) ⟨rfl, rfl, by decide, by decide⟩ (fun r1 h2 => ?_)
  refine r_if_ne C 16 dX12_offers_6 (by decide) ?_ ?_
  · refine r_aload_n C dX12_offers_16 rfl ?_
    refine r_callV C (st := []) (As := []) (d := 0) (j := 0) dX12_offers_17 ml_X12_332 vw_X12_findOffers ⟨_, _, _, _, rfl, rfl⟩ (dm0 (by decide)) (fun r3 e => c_m_findOffers Θ.1.2.1 (cW Θ) (cAd Θ) (cN Θ) σ r3 e) rfl rfl (Nat.le_of_ble_eq_true rfl) ⟨rfl, rfl, by decide, by decide⟩ (fun r3 h4 => ?_)
    refine r_aload_n C dX12_offers_20 rfl ?_
    refine r_getF0 C dX12_offers_21 fg_X12_128 (by decide) ?_
    refine r_iconst C (0 : Int32) dX12_offers_24 (by decide) ?_
    refine r_iald (α := Unit) C dX12_offers_25 ag_LM_38 (fun i5 => ?_)
    refine r_istore_n C [some (.ref (cF Θ 0)), some (.int a1), some (.int (r3.1 0 38 i5))] dX12_offers_26 rfl (by decide) rfl ?_
    refine r_iload_n C dX12_offers_27 rfl ?_
    refine r_if_ne C 39 dX12_offers_28 (by decide) ?_ ?_
    · refine r_iload_n C dX12_offers_39 rfl ?_
      refine r_iconst C (1 : Int32) dX12_offers_40 (by decide) ?_
      refine r_icmp_ne C 55 dX12_offers_41 (by decide) ?_ ?_
      · refine r_iload_n C dX12_offers_55 rfl ?_
        refine r_sipush C (10000 : Int32) dX12_offers_56 (by decide) ?_
        refine r_iremc C dX12_offers_59 (by decide) ?_
        exact r_iret C dX12_offers_60 rfl rfl trivial
      · refine r_iload_n C dX12_offers_44 rfl ?_
        refine r_sipush C (10000 : Int32) dX12_offers_45 (by decide) ?_
        refine r_idivc C dX12_offers_48 (by decide) ?_
        refine r_bipush C (100 : Int32) dX12_offers_49 (by decide) ?_
        refine r_iremc C dX12_offers_51 (by decide) ?_
        refine r_goto C 60 dX12_offers_52 (by decide) ?_
        exact r_iret C dX12_offers_60 rfl rfl trivial
    · refine r_iload_n C dX12_offers_31 rfl ?_
      refine r_ldcw C dX12_offers_32 kc_X12_325 ?_
      refine r_idivc C dX12_offers_35 (by decide) ?_
      refine r_goto C 60 dX12_offers_36 (by decide) ?_
      exact r_iret C dX12_offers_60 rfl rfl trivial
  · refine r_aload_n C dX12_offers_9 rfl ?_
    refine r_bipush C (-2 : Int32) dX12_offers_10 (by decide) ?_
    refine r_callV C (st := []) (As := [.int (-2 : Int32)]) (d := 0) (j := 0) dX12_offers_12 ml_X12_174 vw_X12_refuse ⟨_, _, _, _, rfl, rfl⟩ (dm0 (by decide)) (fun r6 e => c_m_refuse Θ.1.2.1 (cW Θ) (cAd Θ) (cN Θ) σ (-2 : Int32) r6 e) rfl rfl (Nat.le_of_ble_eq_true rfl) ⟨rfl, rfl, by decide, by decide⟩ (fun r6 h7 => ?_)
    exact r_iret C dX12_offers_15 rfl rfl trivial
theorem c_m_offers (l : Launch) (ω : Wd) (ad : Nat → Nat → Nat) (N : Nat → Nat) (σ : St) (a1 : Int32) : ∀ r : Int32 × St, m_offers σ a1 = some r → Ct l yX12_offers cX12_offers 3 (some .int) ({ frames := 5, cells := 0, slots := 0, locals := 116 } : Room) LM ω ad N [.ref (ω.2.1 0), .int a1] σ (some (.int r.1)) r.2 (True) :=
  ct_of (o := fun r : Int32 × St => (some (.int r.1))) (s' := fun r => r.2) (P := fun r => True) [some (.ref (ω.2.1 0)), some (.int a1), none] (by decide) rfl (Nat.le_of_ble_eq_true rfl) (fun Γ C _ _ => w_m_offers (Γ, ω, 3, ad, N, 0, 0) σ a1 C)
/-- PostsEndModel.public int offered(int) -/
def m_offered (σ : St) (a1 : Int32) : Option (Int32 × St) := (Option.bind (m_in a1 (0 : Int32) ((σ.1 0 0 53) - (1 : Int32))) fun r1 => (if r1 = 0 then (Option.bind (m_refuse σ (-1 : Int32)) fun r6 => some (r6.1, r6.2)) else (Option.bind (m_findOffers σ) fun r3 => (Option.bind (ix 8 a1) fun i5 => some (r3.1 0 39 i5, r3)))))
set_option maxRecDepth 20000 in
set_option maxHeartbeats 4000000 in
theorem w_m_offered (Θ : TT) (σ : St) (a1 : Int32) (C : CX Θ cX12_offered RX12 (some .int) ({ frames := 5, cells := 0, slots := 0, locals := 116 } : Room) 2) : WA LM Θ (fun r : Int32 × St => Qm LM Θ (some (.int r.1)) r.2 (True)) 0 [some (.ref (cF Θ 0)), some (.int a1)] [] σ (m_offered σ a1) := by
  unfold m_offered
  refine r_iload_n C dX12_offered_0 rfl ?_
  refine r_iconst C (0 : Int32) dX12_offered_1 (by decide) ?_
  refine r_aload_n C dX12_offered_2 rfl ?_
  refine r_getI0 C dX12_offered_3 fg_X12_316 (by decide) ?_
  refine r_iconst C (1 : Int32) dX12_offered_6 (by decide) ?_
  refine r_isub C dX12_offered_7 ?_
  refine r_callS C (st := []) (As := [.int a1, .int (0 : Int32), .int ((σ.1 0 0 53) - (1 : Int32))]) dX12_offered_8 ml_X12_157 sw_X12_in (fun r1 e => c_m_in Θ.1.2.1 (cW Θ) (cAd Θ) (cN Θ) σ a1 (0 : Int32) ((σ.1 0 0 53) - (1 : Int32)) r1 e) rfl rfl (Nat.le_of_ble_eq_true rfl) ⟨rfl, rfl, by decide, by decide⟩ (fun r1 h2 => ?_)
  refine r_if_ne C 20 dX12_offered_11 (by decide) ?_ ?_
  · refine r_aload_n C dX12_offered_20 rfl ?_
    refine r_callV C (st := []) (As := []) (d := 0) (j := 0) dX12_offered_21 ml_X12_332 vw_X12_findOffers ⟨_, _, _, _, rfl, rfl⟩ (dm0 (by decide)) (fun r3 e => c_m_findOffers Θ.1.2.1 (cW Θ) (cAd Θ) (cN Θ) σ r3 e) rfl rfl (Nat.le_of_ble_eq_true rfl) ⟨rfl, rfl, by decide, by decide⟩ (fun r3 h4 => ?_)
    refine r_aload_n C dX12_offered_24 rfl ?_
    refine r_getF0 C dX12_offered_25 fg_X12_131 (by decide) ?_
    refine r_iload_n C dX12_offered_28 rfl ?_
    refine r_iald (α := Unit) C dX12_offered_29 ag_LM_39 (fun i5 => ?_)
    exact r_iret C dX12_offered_30 rfl rfl trivial
  · refine r_aload_n C dX12_offered_14 rfl ?_
    refine r_iconst C (-1 : Int32) dX12_offered_15 (by decide) ?_
    refine r_callV C (st := []) (As := [.int (-1 : Int32)]) (d := 0) (j := 0) dX12_offered_16 ml_X12_174 vw_X12_refuse ⟨_, _, _, _, rfl, rfl⟩ (dm0 (by decide)) (fun r6 e => c_m_refuse Θ.1.2.1 (cW Θ) (cAd Θ) (cN Θ) σ (-1 : Int32) r6 e) rfl rfl (Nat.le_of_ble_eq_true rfl) ⟨rfl, rfl, by decide, by decide⟩ (fun r6 h7 => ?_)
    exact r_iret C dX12_offered_19 rfl rfl trivial
theorem c_m_offered (l : Launch) (ω : Wd) (ad : Nat → Nat → Nat) (N : Nat → Nat) (σ : St) (a1 : Int32) : ∀ r : Int32 × St, m_offered σ a1 = some r → Ct l yX12_offered cX12_offered 2 (some .int) ({ frames := 5, cells := 0, slots := 0, locals := 116 } : Room) LM ω ad N [.ref (ω.2.1 0), .int a1] σ (some (.int r.1)) r.2 (True) :=
  ct_of (o := fun r : Int32 × St => (some (.int r.1))) (s' := fun r => r.2) (P := fun r => True) [some (.ref (ω.2.1 0)), some (.int a1)] (by decide) rfl (Nat.le_of_ble_eq_true rfl) (fun Γ C _ _ => w_m_offered (Γ, ω, 2, ad, N, 0, 0) σ a1 C)
theorem ag_LM_40 : AG LM 40 0 60 := ⟨by decide, rfl⟩
theorem ag_LM_41 : AG LM 41 0 60 := ⟨by decide, rfl⟩
theorem ag_LM_42 : AG LM 42 0 60 := ⟨by decide, rfl⟩
theorem fg_X12_134 : FG LM RX12 134 0 0 60 (1, 40) := ⟨_, _, _, _, _, rfl, rfl, rfl, by decide, uw_X12, (in_wt 1294 (by decide +kernel) (by decide +kernel))⟩
theorem fg_X12_137 : FG LM RX12 137 0 0 61 (1, 41) := ⟨_, _, _, _, _, rfl, rfl, rfl, by decide, uw_X12, (in_wt 1295 (by decide +kernel) (by decide +kernel))⟩
theorem fg_X12_140 : FG LM RX12 140 0 0 62 (1, 42) := ⟨_, _, _, _, _, rfl, rfl, rfl, by decide, uw_X12, (in_wt 1296 (by decide +kernel) (by decide +kernel))⟩
theorem fg_X12_335 : FG LM RX12 335 0 0 59 (0, 0) := ⟨_, _, _, _, _, rfl, rfl, rfl, by decide, uw_X12, (in_wt 1293 (by decide +kernel) (by decide +kernel))⟩
theorem fp_X12_335 : FP LM RX12 335 0 0 59 (0, 0) .int := ⟨_, _, _, _, _, tyX12, rfl, rfl, rfl, by decide, uw_X12, (in_wt 1293 (by decide +kernel) (by decide +kernel)), tyX12_ok, nmX12, rfl, by decide +kernel⟩
/-- PostsEndModel.public int ends(int, int, int) -/
def m_ends (σ : St) (a1 : Int32) (a2 : Int32) (a3 : Int32) : Option (Int32 × St) := (Option.bind (m_in a1 (0 : Int32) (3 : Int32)) fun r1 => (if r1 = 0 then (Option.bind (m_refuse σ (-1 : Int32)) fun r20 => some (r20.1, r20.2)) else (if a2 < 0 then (Option.bind (m_refuse σ (-4 : Int32)) fun r3 => some (r3.1, r3.2)) else (if a3 < (1 : Int32) then (Option.bind (m_refuse σ (-4 : Int32)) fun r18 => some (r18.1, r18.2)) else (if (3000 : Int32) < a2 then (Option.bind (m_refuse σ (-6 : Int32)) fun r5 => some (r5.1, r5.2)) else (if (500 : Int32) < a3 then (Option.bind (m_refuse σ (-6 : Int32)) fun r7 => some (r7.1, r7.2)) else (if σ.1 0 0 59 = (60 : Int32) then (Option.bind (m_refuse σ (-6 : Int32)) fun r16 => some (r16.1, r16.2)) else (Option.bind (ix 60 (σ.1 0 0 59)) fun i9 => (lt1 (sx σ 0 40 i9 a1) fun σ10 => (Option.bind (ix 60 (σ10.1 0 0 59)) fun i11 => (lt1 (sx σ10 0 41 i11 a2) fun σ12 => (Option.bind (ix 60 (σ12.1 0 0 59)) fun i13 => (lt1 (sx σ12 0 42 i13 a3) fun σ14 => (lt1 (sx σ14 0 0 59 ((σ14.1 0 0 59) + (1 : Int32))) fun σ15 => some (σ15.1 0 0 59, σ15)))))))))))))))
set_option maxRecDepth 20000 in
set_option maxHeartbeats 4000000 in
theorem w_m_ends (Θ : TT) (σ : St) (a1 : Int32) (a2 : Int32) (a3 : Int32) (C : CX Θ cX12_ends RX12 (some .int) ({ frames := 1, cells := 0, slots := 0, locals := 22 } : Room) 4) : WA LM Θ (fun r : Int32 × St => Qm LM Θ (some (.int r.1)) r.2 (True)) 0 [some (.ref (cF Θ 0)), some (.int a1), some (.int a2), some (.int a3)] [] σ (m_ends σ a1 a2 a3) := by
  unfold m_ends
  refine r_iload_n C dX12_ends_0 rfl ?_
  refine r_iconst C (0 : Int32) dX12_ends_1 (by decide) ?_
  refine r_iconst C (3 : Int32) dX12_ends_2 (by decide) ?_
  refine r_callS C (st := []) (As := [.int a1, .int (0 : Int32), .int (3 : Int32)]) dX12_ends_3 ml_X12_157 sw_X12_in (fun r1 e => c_m_in Θ.1.2.1 (cW Θ) (cAd Θ) (cN Θ) σ a1 (0 : Int32) (3 : Int32) r1 e) rfl rfl (Nat.le_of_ble_eq_true rfl) ⟨rfl, rfl, by decide, by decide⟩ (fun r1 h2 => ?_)
  refine r_if_ne C 15 dX12_ends_6 (by decide) ?_ ?_
  · refine r_iload_n C dX12_ends_15 rfl ?_
    refine r_if_lt C 24 dX12_ends_16 (by decide) ?_ ?_
    · refine r_aload_n C dX12_ends_24 rfl ?_
      refine r_bipush C (-4 : Int32) dX12_ends_25 (by decide) ?_
      refine r_callV C (st := []) (As := [.int (-4 : Int32)]) (d := 0) (j := 0) dX12_ends_27 ml_X12_174 vw_X12_refuse ⟨_, _, _, _, rfl, rfl⟩ (dm0 (by decide)) (fun r3 e => c_m_refuse Θ.1.2.1 (cW Θ) (cAd Θ) (cN Θ) σ (-4 : Int32) r3 e) rfl rfl (Nat.le_of_ble_eq_true rfl) ⟨rfl, rfl, by decide, by decide⟩ (fun r3 h4 => ?_)
      exact r_iret C dX12_ends_30 rfl rfl trivial
    · refine r_iload_n C dX12_ends_19 rfl ?_
      refine r_iconst C (1 : Int32) dX12_ends_20 (by decide) ?_
      refine r_icmp_ge C 31 dX12_ends_21 (by decide) ?_ ?_
      · refine r_iload_n C dX12_ends_31 rfl ?_
        refine r_sipush C (3000 : Int32) dX12_ends_32 (by decide) ?_
        refine r_icmp_gt C 54 dX12_ends_35 (by decide) ?_ ?_
        · refine r_aload_n C dX12_ends_54 rfl ?_
          refine r_bipush C (-6 : Int32) dX12_ends_55 (by decide) ?_
          refine r_callV C (st := []) (As := [.int (-6 : Int32)]) (d := 0) (j := 0) dX12_ends_57 ml_X12_174 vw_X12_refuse ⟨_, _, _, _, rfl, rfl⟩ (dm0 (by decide)) (fun r5 e => c_m_refuse Θ.1.2.1 (cW Θ) (cAd Θ) (cN Θ) σ (-6 : Int32) r5 e) rfl rfl (Nat.le_of_ble_eq_true rfl) ⟨rfl, rfl, by decide, by decide⟩ (fun r5 h6 => ?_)
          exact r_iret C dX12_ends_60 rfl rfl trivial
        · refine r_iload_n C dX12_ends_38 rfl ?_
          refine r_sipush C (500 : Int32) dX12_ends_39 (by decide) ?_
          refine r_icmp_gt C 54 dX12_ends_42 (by decide) ?_ ?_
          · refine r_aload_n C dX12_ends_54 rfl ?_
            refine r_bipush C (-6 : Int32) dX12_ends_55 (by decide) ?_
            refine r_callV C (st := []) (As := [.int (-6 : Int32)]) (d := 0) (j := 0) dX12_ends_57 ml_X12_174 vw_X12_refuse ⟨_, _, _, _, rfl, rfl⟩ (dm0 (by decide)) (fun r7 e => c_m_refuse Θ.1.2.1 (cW Θ) (cAd Θ) (cN Θ) σ (-6 : Int32) r7 e) rfl rfl (Nat.le_of_ble_eq_true rfl) ⟨rfl, rfl, by decide, by decide⟩ (fun r7 h8 => ?_)
            exact r_iret C dX12_ends_60 rfl rfl trivial
          · refine r_aload_n C dX12_ends_45 rfl ?_
            refine r_getI0 C dX12_ends_46 fg_X12_335 (by decide) ?_
            refine r_bipush C (60 : Int32) dX12_ends_49 (by decide) ?_
            refine r_icmp_ne C 61 dX12_ends_51 (by decide) ?_ ?_
            · refine r_aload_n C dX12_ends_61 rfl ?_
              refine r_getF0 C dX12_ends_62 fg_X12_134 (by decide) ?_
              refine r_aload_n C dX12_ends_65 rfl ?_
              refine r_getI0 C dX12_ends_66 fg_X12_335 (by decide) ?_
              refine r_iload_n C dX12_ends_69 rfl ?_
              refine r_iast C dX12_ends_70 ag_LM_40 (fun i9 => ?_)
              refine WA.gen (fun σ10 => ?_)
              refine r_aload_n C dX12_ends_71 rfl ?_
              refine r_getF0 C dX12_ends_72 fg_X12_137 (by decide) ?_
              refine r_aload_n C dX12_ends_75 rfl ?_
              refine r_getI0 C dX12_ends_76 fg_X12_335 (by decide) ?_
              refine r_iload_n C dX12_ends_79 rfl ?_
              refine r_iast C dX12_ends_80 ag_LM_41 (fun i11 => ?_)
              refine WA.gen (fun σ12 => ?_)
              refine r_aload_n C dX12_ends_81 rfl ?_
              refine r_getF0 C dX12_ends_82 fg_X12_140 (by decide) ?_
              refine r_aload_n C dX12_ends_85 rfl ?_
              refine r_getI0 C dX12_ends_86 fg_X12_335 (by decide) ?_
              refine r_iload_n C dX12_ends_89 rfl ?_
              refine r_iast C dX12_ends_90 ag_LM_42 (fun i13 => ?_)
              refine WA.gen (fun σ14 => ?_)
              refine r_aload_n C dX12_ends_91 rfl ?_
              refine r_dup C dX12_ends_92 rfl ?_
              refine r_getI0 C dX12_ends_93 fg_X12_335 (by decide) ?_
              refine r_iconst C (1 : Int32) dX12_ends_96 (by decide) ?_
              refine r_iadd C dX12_ends_97 ?_
              refine r_putI0 C dX12_ends_98 fp_X12_335 (by decide) ?_
              refine WA.gen (fun σ15 => ?_)
              refine r_aload_n C dX12_ends_101 rfl ?_
              refine r_getI0 C dX12_ends_102 fg_X12_335 (by decide) ?_
              exact r_iret C dX12_ends_105 rfl rfl trivial
            · refine r_aload_n C dX12_ends_54 rfl ?_
              refine r_bipush C (-6 : Int32) dX12_ends_55 (by decide) ?_
              refine r_callV C (st := []) (As := [.int (-6 : Int32)]) (d := 0) (j := 0) dX12_ends_57 ml_X12_174 vw_X12_refuse ⟨_, _, _, _, rfl, rfl⟩ (dm0 (by decide)) (fun r16 e => c_m_refuse Θ.1.2.1 (cW Θ) (cAd Θ) (cN Θ) σ (-6 : Int32) r16 e) rfl rfl (Nat.le_of_ble_eq_true rfl) ⟨rfl, rfl, by decide, by decide⟩ (fun r16 h17 => ?_)
              exact r_iret C dX12_ends_60 rfl rfl trivial
      · refine r_aload_n C dX12_ends_24 rfl ?_
        refine r_bipush C (-4 : Int32) dX12_ends_25 (by decide) ?_
        refine r_callV C (st := []) (As := [.int (-4 : Int32)]) (d := 0) (j := 0) dX12_ends_27 ml_X12_174 vw_X12_refuse ⟨_, _, _, _, rfl, rfl⟩ (dm0 (by decide)) (fun r18 e => c_m_refuse Θ.1.2.1 (cW Θ) (cAd Θ) (cN Θ) σ (-4 : Int32) r18 e) rfl rfl (Nat.le_of_ble_eq_true rfl) ⟨rfl, rfl, by decide, by decide⟩ (fun r18 h19 => ?_)
        exact r_iret C dX12_ends_30 rfl rfl trivial
  · refine r_aload_n C dX12_ends_9 rfl ?_
    refine r_iconst C (-1 : Int32) dX12_ends_10 (by decide) ?_
    refine r_callV C (st := []) (As := [.int (-1 : Int32)]) (d := 0) (j := 0) dX12_ends_11 ml_X12_174 vw_X12_refuse ⟨_, _, _, _, rfl, rfl⟩ (dm0 (by decide)) (fun r20 e => c_m_refuse Θ.1.2.1 (cW Θ) (cAd Θ) (cN Θ) σ (-1 : Int32) r20 e) rfl rfl (Nat.le_of_ble_eq_true rfl) ⟨rfl, rfl, by decide, by decide⟩ (fun r20 h21 => ?_)
    exact r_iret C dX12_ends_14 rfl rfl trivial
theorem c_m_ends (l : Launch) (ω : Wd) (ad : Nat → Nat → Nat) (N : Nat → Nat) (σ : St) (a1 : Int32) (a2 : Int32) (a3 : Int32) : ∀ r : Int32 × St, m_ends σ a1 a2 a3 = some r → Ct l yX12_ends cX12_ends 4 (some .int) ({ frames := 1, cells := 0, slots := 0, locals := 22 } : Room) LM ω ad N [.ref (ω.2.1 0), .int a1, .int a2, .int a3] σ (some (.int r.1)) r.2 (True) :=
  ct_of (o := fun r : Int32 × St => (some (.int r.1))) (s' := fun r => r.2) (P := fun r => True) [some (.ref (ω.2.1 0)), some (.int a1), some (.int a2), some (.int a3)] (by decide) rfl (Nat.le_of_ble_eq_true rfl) (fun Γ C _ _ => w_m_ends (Γ, ω, 4, ad, N, 0, 0) σ a1 a2 a3 C)
/-- PostsEndModel.private int endedBy(int, int) -/
def m_endedBy (σ : St) (a1 : Int32) (a2 : Int32) : Option Int32 := (Option.bind (itr0 (S := Int32 × Int32) (E := Int32) (fun s1 => (if s1.2 < σ.1 0 0 59 then (Option.bind (ix 60 s1.2) fun i9 => (Option.bind (α := Int32) ((if σ.1 0 40 i9 = a1 then (Option.bind (ix 60 s1.2) fun i13 => (Option.bind (m_in (σ.1 0 41 i13) (a2 - (89 : Int32)) a2) fun r14 => (if r14 = 0 then some (0 : Int32) else (Option.bind (ix 60 s1.2) fun i16 => some (σ.1 0 42 i16))))) else some (0 : Int32))) fun t10 => some (.inl (s1.1 + t10, s1.2 + (1 : Int32))))) else some (.inr s1.1))) FU ((0 : Int32), (0 : Int32))) fun e6 => some e6)
set_option maxRecDepth 20000 in
set_option maxHeartbeats 4000000 in
theorem w_m_endedBy (Θ : TT) (σ : St) (a1 : Int32) (a2 : Int32) (C : CX Θ cX12_endedBy RX12 (some .int) ({ frames := 1, cells := 0, slots := 0, locals := 22 } : Room) 5) : WA LM Θ (fun r : Int32 => Qm LM Θ (some (.int r)) σ (True)) 0 [some (.ref (cF Θ 0)), some (.int a1), some (.int a2), none, none] [] σ (m_endedBy σ a1 a2) := by
  unfold m_endedBy
  refine r_iconst C (0 : Int32) dX12_endedBy_0 (by decide) ?_
  refine r_istore_n C [some (.ref (cF Θ 0)), some (.int a1), some (.int a2), some (.int (0 : Int32)), none] dX12_endedBy_1 rfl (by decide) rfl ?_
  refine r_iconst C (0 : Int32) dX12_endedBy_2 (by decide) ?_
  refine r_istore C [some (.ref (cF Θ 0)), some (.int a1), some (.int a2), some (.int (0 : Int32)), some (.int (0 : Int32))] dX12_endedBy_3 rfl (by decide) rfl ?_
  refine WA.join (α := Int32) 63 (fun e6 => [none, none, none, some (.int e6), none]) (fun e6 => []) (fun e6 => σ) (fun e6 => True) (fun e6 h7 => ?_) (fun J8 => ?_)
  · refine r_iload_n C dX12_endedBy_63 rfl ?_
    exact r_iret C dX12_endedBy_64 rfl rfl trivial
  · refine WA.wk (lv' := [some (.ref (cF Θ 0)), some (.int a1), some (.int a2), some (.int (0 : Int32)), some (.int (0 : Int32))]) [true, true, true, true, true] rfl ?_
    refine WA.itr (S := Int32 × Int32) 5 (fun s1 => [some (.ref (cF Θ 0)), some (.int a1), some (.int a2), some (.int s1.1), some (.int s1.2)]) (fun s1 => []) (fun s1 => σ) (fun s1 => True) (fun s1 k5 h2 ih3 hx4 => ?_) FU ((0 : Int32), (0 : Int32)) trivial
    refine r_iload C dX12_endedBy_5 rfl ?_
    refine r_aload_n C dX12_endedBy_7 rfl ?_
    refine r_getI0 C dX12_endedBy_8 fg_X12_335 (by decide) ?_
    refine WA.bif ?_
    refine r_icmp_ge C 63 dX12_endedBy_11 (by decide) ?_ ?_
    · refine WA.wk (lv' := [none, none, none, some (.int s1.1), none]) [false, false, false, true, false] rfl ?_
      exact WA.eqK (hx4 _) (J8 s1.1 trivial)
    · refine r_iload_n C dX12_endedBy_14 rfl ?_
      refine r_aload_n C dX12_endedBy_15 rfl ?_
      refine r_getF0 C dX12_endedBy_16 fg_X12_134 (by decide) ?_
      refine r_iload C dX12_endedBy_19 rfl ?_
      refine WA.asc ?_
      refine r_iald (α := Unit) C dX12_endedBy_21 ag_LM_40 (fun i9 => ?_)
      refine r_iload_n C dX12_endedBy_22 rfl ?_
      refine WA.asc ?_
      refine WA.join (α := Int32) 55 (fun t10 => [some (.ref (cF Θ 0)), some (.int a1), some (.int a2), none, some (.int s1.2)]) (fun t10 => [.int t10, .int s1.1]) (fun t10 => σ) (fun t10 => True) (fun t10 h11 => ?_) (fun J12 => ?_)
      · refine r_iadd C dX12_endedBy_55 ?_
        refine r_istore_n C [some (.ref (cF Θ 0)), some (.int a1), some (.int a2), some (.int (s1.1 + t10)), some (.int s1.2)] dX12_endedBy_56 rfl (by decide) rfl ?_
        refine r_iinc C (1 : Int32) [some (.ref (cF Θ 0)), some (.int a1), some (.int a2), some (.int (s1.1 + t10)), some (.int (s1.2 + (1 : Int32)))] dX12_endedBy_57 (by decide) rfl rfl (by decide) rfl ?_
        refine r_goto C 5 dX12_endedBy_60 (by decide) ?_
        refine WA.wk (lv' := [some (.ref (cF Θ 0)), some (.int a1), some (.int a2), some (.int (s1.1 + t10)), some (.int (s1.2 + (1 : Int32)))]) [true, true, true, true, true] rfl ?_
        exact ih3 (s1.1 + t10, s1.2 + (1 : Int32)) trivial
      · refine WA.bif ?_
        refine r_icmp_ne C 54 dX12_endedBy_23 (by decide) ?_ ?_
        · refine r_iconst C (0 : Int32) dX12_endedBy_54 (by decide) ?_
          refine WA.wk (lv' := [some (.ref (cF Θ 0)), some (.int a1), some (.int a2), none, some (.int s1.2)]) [true, true, true, false, true] rfl ?_
          exact J12 (0 : Int32) trivial
        · refine r_aload_n C dX12_endedBy_26 rfl ?_
          refine r_getF0 C dX12_endedBy_27 fg_X12_137 (by decide) ?_
          refine r_iload C dX12_endedBy_30 rfl ?_
          refine WA.asc ?_
          refine r_iald (α := Unit) C dX12_endedBy_32 ag_LM_41 (fun i13 => ?_)
          refine r_iload_n C dX12_endedBy_33 rfl ?_
          refine r_bipush C (89 : Int32) dX12_endedBy_34 (by decide) ?_
          refine r_isub C dX12_endedBy_36 ?_
          refine r_iload_n C dX12_endedBy_37 rfl ?_
          refine WA.asc ?_
          refine r_callS C (st := [.int s1.1]) (As := [.int (σ.1 0 41 i13), .int (a2 - (89 : Int32)), .int a2]) dX12_endedBy_38 ml_X12_157 sw_X12_in (fun r14 e => c_m_in Θ.1.2.1 (cW Θ) (cAd Θ) (cN Θ) σ (σ.1 0 41 i13) (a2 - (89 : Int32)) a2 r14 e) rfl rfl (Nat.le_of_ble_eq_true rfl) ⟨rfl, rfl, by decide, by decide⟩ (fun r14 h15 => ?_)
          refine WA.bif ?_
          refine r_if_eq C 54 dX12_endedBy_41 (by decide) ?_ ?_
          · refine r_iconst C (0 : Int32) dX12_endedBy_54 (by decide) ?_
            refine WA.wk (lv' := [some (.ref (cF Θ 0)), some (.int a1), some (.int a2), none, some (.int s1.2)]) [true, true, true, false, true] rfl ?_
            exact J12 (0 : Int32) trivial
          · refine r_aload_n C dX12_endedBy_44 rfl ?_
            refine r_getF0 C dX12_endedBy_45 fg_X12_140 (by decide) ?_
            refine r_iload C dX12_endedBy_48 rfl ?_
            refine WA.asc ?_
            refine r_iald (α := Unit) C dX12_endedBy_50 ag_LM_42 (fun i16 => ?_)
            refine r_goto C 55 dX12_endedBy_51 (by decide) ?_
            refine WA.wk (lv' := [some (.ref (cF Θ 0)), some (.int a1), some (.int a2), none, some (.int s1.2)]) [true, true, true, false, true] rfl ?_
            exact J12 (σ.1 0 42 i16) trivial
theorem c_m_endedBy (l : Launch) (ω : Wd) (ad : Nat → Nat → Nat) (N : Nat → Nat) (σ : St) (a1 : Int32) (a2 : Int32) : ∀ r : Int32, m_endedBy σ a1 a2 = some r → Ct l yX12_endedBy cX12_endedBy 5 (some .int) ({ frames := 1, cells := 0, slots := 0, locals := 22 } : Room) LM ω ad N [.ref (ω.2.1 0), .int a1, .int a2] σ (some (.int r)) σ (True) :=
  ct_of (o := fun r : Int32 => (some (.int r))) (s' := fun r => σ) (P := fun r => True) [some (.ref (ω.2.1 0)), some (.int a1), some (.int a2), none, none] (by decide) rfl (Nat.le_of_ble_eq_true rfl) (fun Γ C _ _ => w_m_endedBy (Γ, ω, 5, ad, N, 0, 0) σ a1 a2 C)
/-- PostsEndModel.private static int noticeBy(int) -/
def m_noticeBy (a0 : Int32) : Option Int32 := (if a0 < (100 : Int32) then (if a0 < (20 : Int32) then some (7 : Int32) else some (30 : Int32)) else some (45 : Int32))
set_option maxRecDepth 20000 in
set_option maxHeartbeats 4000000 in
theorem w_m_noticeBy (Θ : TT) (σ : St) (a0 : Int32) (C : CX Θ cX12_noticeBy RX12 (some .int) ({ frames := 0, cells := 0, slots := 0, locals := 0 } : Room) 1) : WA LM Θ (fun r : Int32 => Qm LM Θ (some (.int r)) σ (True)) 0 [some (.int a0)] [] σ (m_noticeBy a0) := by
  unfold m_noticeBy
  refine r_iload_n C dX12_noticeBy_0 rfl ?_
  refine r_bipush C (100 : Int32) dX12_noticeBy_1 (by decide) ?_
  refine r_icmp_lt C 11 dX12_noticeBy_3 (by decide) ?_ ?_
  · refine r_iload_n C dX12_noticeBy_11 rfl ?_
    refine r_bipush C (20 : Int32) dX12_noticeBy_12 (by decide) ?_
    refine r_icmp_lt C 22 dX12_noticeBy_14 (by decide) ?_ ?_
    · refine r_bipush C (7 : Int32) dX12_noticeBy_22 (by decide) ?_
      exact r_iret C dX12_noticeBy_24 rfl rfl trivial
    · refine r_bipush C (30 : Int32) dX12_noticeBy_17 (by decide) ?_
      refine r_goto C 24 dX12_noticeBy_19 (by decide) ?_
      exact r_iret C dX12_noticeBy_24 rfl rfl trivial
  · refine r_bipush C (45 : Int32) dX12_noticeBy_6 (by decide) ?_
    refine r_goto C 24 dX12_noticeBy_8 (by decide) ?_
    exact r_iret C dX12_noticeBy_24 rfl rfl trivial
theorem c_m_noticeBy (l : Launch) (ω : Wd) (ad : Nat → Nat → Nat) (N : Nat → Nat) (σ : St) (a0 : Int32) : ∀ r : Int32, m_noticeBy a0 = some r → Ct l yX12_noticeBy cX12_noticeBy 1 (some .int) ({ frames := 0, cells := 0, slots := 0, locals := 0 } : Room) LM ω ad N [.int a0] σ (some (.int r)) σ (True) :=
  ct_of (o := fun r : Int32 => (some (.int r))) (s' := fun r => σ) (P := fun r => True) [some (.int a0)] (by decide) rfl (Nat.le_of_ble_eq_true rfl) (fun Γ C _ _ => w_m_noticeBy (Γ, ω, 1, ad, N, 0, 0) σ a0 C)
theorem vw_X12_endedBy : VW yX12_endedBy cX12_endedBy 5 (some .int) 2 := ⟨⟨(in_wt 88 (by decide +kernel) (by decide +kernel)), (in_wt 1708 (by decide +kernel) (by decide +kernel)), by decide +kernel⟩, (in_wt 1707 (by decide +kernel) (by decide +kernel)), (in_wt 75 (by decide +kernel) (by decide +kernel))⟩
theorem sw_X12_noticeBy : SW yX12_noticeBy cX12_noticeBy 1 (some .int) 1 := ⟨⟨(in_wt 88 (by decide +kernel) (by decide +kernel)), (in_wt 1711 (by decide +kernel) (by decide +kernel)), by decide +kernel⟩, (in_wt 1710 (by decide +kernel) (by decide +kernel))⟩
theorem ml_X12_338 : Cond.methodLink RX12 338 yX12_endedBy ∈ wt := in_wt 1705 (by decide +kernel) (by decide +kernel)
theorem ml_X12_341 : Cond.methodLink RX12 341 yX12_noticeBy ∈ wt := in_wt 1709 (by decide +kernel) (by decide +kernel)
/-- PostsEndModel.public int notice(int, int) -/
def m_notice (σ : St) (a1 : Int32) (a2 : Int32) : Option (Int32 × St) := (Option.bind (m_in a1 (0 : Int32) (3 : Int32)) fun r1 => (if r1 = 0 then (Option.bind (m_refuse σ (-1 : Int32)) fun r11 => some (r11.1, r11.2)) else (if a2 < 0 then (Option.bind (m_refuse σ (-4 : Int32)) fun r9 => some (r9.1, r9.2)) else (if (3000 : Int32) < a2 then (Option.bind (m_refuse σ (-6 : Int32)) fun r7 => some (r7.1, r7.2)) else (Option.bind (m_endedBy σ a1 a2) fun r3 => (Option.bind (m_noticeBy r3) fun r5 => some (r5, σ)))))))
set_option maxRecDepth 20000 in
set_option maxHeartbeats 4000000 in
theorem w_m_notice (Θ : TT) (σ : St) (a1 : Int32) (a2 : Int32) (C : CX Θ cX12_notice RX12 (some .int) ({ frames := 2, cells := 0, slots := 0, locals := 46 } : Room) 3) : WA LM Θ (fun r : Int32 × St => Qm LM Θ (some (.int r.1)) r.2 (True)) 0 [some (.ref (cF Θ 0)), some (.int a1), some (.int a2)] [] σ (m_notice σ a1 a2) := by
  unfold m_notice
  refine r_iload_n C dX12_notice_0 rfl ?_
  refine r_iconst C (0 : Int32) dX12_notice_1 (by decide) ?_
  refine r_iconst C (3 : Int32) dX12_notice_2 (by decide) ?_
  refine r_callS C (st := []) (As := [.int a1, .int (0 : Int32), .int (3 : Int32)]) dX12_notice_3 ml_X12_157 sw_X12_in (fun r1 e => c_m_in Θ.1.2.1 (cW Θ) (cAd Θ) (cN Θ) σ a1 (0 : Int32) (3 : Int32) r1 e) rfl rfl (Nat.le_of_ble_eq_true rfl) ⟨rfl, rfl, by decide, by decide⟩ (fun r1 h2 => ?_)
  refine r_if_ne C 15 dX12_notice_6 (by decide) ?_ ?_
  · refine r_iload_n C dX12_notice_15 rfl ?_
    refine r_if_ge C 26 dX12_notice_16 (by decide) ?_ ?_
    · refine r_iload_n C dX12_notice_26 rfl ?_
      refine r_sipush C (3000 : Int32) dX12_notice_27 (by decide) ?_
      refine r_icmp_le C 42 dX12_notice_30 (by decide) ?_ ?_
      · refine r_aload_n C dX12_notice_42 rfl ?_
        refine r_iload_n C dX12_notice_43 rfl ?_
        refine r_iload_n C dX12_notice_44 rfl ?_
        refine r_callV C (st := []) (As := [.int a1, .int a2]) (d := 0) (j := 0) dX12_notice_45 ml_X12_338 vw_X12_endedBy ⟨_, _, _, _, rfl, rfl⟩ (dm0 (by decide)) (fun r3 e => c_m_endedBy Θ.1.2.1 (cW Θ) (cAd Θ) (cN Θ) σ a1 a2 r3 e) rfl rfl (Nat.le_of_ble_eq_true rfl) ⟨rfl, rfl, by decide, by decide⟩ (fun r3 h4 => ?_)
        refine r_callS C (st := []) (As := [.int r3]) dX12_notice_48 ml_X12_341 sw_X12_noticeBy (fun r5 e => c_m_noticeBy Θ.1.2.1 (cW Θ) (cAd Θ) (cN Θ) σ r3 r5 e) rfl rfl (Nat.le_of_ble_eq_true rfl) ⟨rfl, rfl, by decide, by decide⟩ (fun r5 h6 => ?_)
        exact r_iret C dX12_notice_51 rfl rfl trivial
      · refine r_aload_n C dX12_notice_33 rfl ?_
        refine r_bipush C (-6 : Int32) dX12_notice_34 (by decide) ?_
        refine r_callV C (st := []) (As := [.int (-6 : Int32)]) (d := 0) (j := 0) dX12_notice_36 ml_X12_174 vw_X12_refuse ⟨_, _, _, _, rfl, rfl⟩ (dm0 (by decide)) (fun r7 e => c_m_refuse Θ.1.2.1 (cW Θ) (cAd Θ) (cN Θ) σ (-6 : Int32) r7 e) rfl rfl (Nat.le_of_ble_eq_true rfl) ⟨rfl, rfl, by decide, by decide⟩ (fun r7 h8 => ?_)
        refine r_goto C 51 dX12_notice_39 (by decide) ?_
        exact r_iret C dX12_notice_51 rfl rfl trivial
    · refine r_aload_n C dX12_notice_19 rfl ?_
      refine r_bipush C (-4 : Int32) dX12_notice_20 (by decide) ?_
      refine r_callV C (st := []) (As := [.int (-4 : Int32)]) (d := 0) (j := 0) dX12_notice_22 ml_X12_174 vw_X12_refuse ⟨_, _, _, _, rfl, rfl⟩ (dm0 (by decide)) (fun r9 e => c_m_refuse Θ.1.2.1 (cW Θ) (cAd Θ) (cN Θ) σ (-4 : Int32) r9 e) rfl rfl (Nat.le_of_ble_eq_true rfl) ⟨rfl, rfl, by decide, by decide⟩ (fun r9 h10 => ?_)
      exact r_iret C dX12_notice_25 rfl rfl trivial
  · refine r_aload_n C dX12_notice_9 rfl ?_
    refine r_iconst C (-1 : Int32) dX12_notice_10 (by decide) ?_
    refine r_callV C (st := []) (As := [.int (-1 : Int32)]) (d := 0) (j := 0) dX12_notice_11 ml_X12_174 vw_X12_refuse ⟨_, _, _, _, rfl, rfl⟩ (dm0 (by decide)) (fun r11 e => c_m_refuse Θ.1.2.1 (cW Θ) (cAd Θ) (cN Θ) σ (-1 : Int32) r11 e) rfl rfl (Nat.le_of_ble_eq_true rfl) ⟨rfl, rfl, by decide, by decide⟩ (fun r11 h12 => ?_)
    exact r_iret C dX12_notice_14 rfl rfl trivial
theorem c_m_notice (l : Launch) (ω : Wd) (ad : Nat → Nat → Nat) (N : Nat → Nat) (σ : St) (a1 : Int32) (a2 : Int32) : ∀ r : Int32 × St, m_notice σ a1 a2 = some r → Ct l yX12_notice cX12_notice 3 (some .int) ({ frames := 2, cells := 0, slots := 0, locals := 46 } : Room) LM ω ad N [.ref (ω.2.1 0), .int a1, .int a2] σ (some (.int r.1)) r.2 (True) :=
  ct_of (o := fun r : Int32 × St => (some (.int r.1))) (s' := fun r => r.2) (P := fun r => True) [some (.ref (ω.2.1 0)), some (.int a1), some (.int a2)] (by decide) rfl (Nat.le_of_ble_eq_true rfl) (fun Γ C _ _ => w_m_notice (Γ, ω, 3, ad, N, 0, 0) σ a1 a2 C)
theorem ag_LM_44 : AG LM 44 0 6 := ⟨by decide, rfl⟩
theorem fg_X12_146 : FG LM RX12 146 0 0 64 (1, 44) := ⟨_, _, _, _, _, rfl, rfl, rfl, by decide, uw_X12, (in_wt 1298 (by decide +kernel) (by decide +kernel))⟩
/-- PostsEndModel.private int weekCost(int, int, int, int, int, int) -/
def m_weekCost (σ : St) (a1 : Int32) (a2 : Int32) (a3 : Int32) (a4 : Int32) (a5 : Int32) (a6 : Int32) : Option Int32 := (Option.bind (α := Int32) ((if a1 = a2 - (1 : Int32) then some a6 else some (0 : Int32))) fun t1 => (Option.bind (ix 6 a1) fun i4 => (Option.bind (m_noticeBy (((σ.1 0 44 i4) + (a3 * a5)) + ((a4 * a5) + t1))) fun r5 => some (((a4 * a5) + t1) * (((r5 + (6 : Int32)) / (7 : Int32)) + a1)))))
set_option maxRecDepth 20000 in
set_option maxHeartbeats 4000000 in
theorem w_m_weekCost (Θ : TT) (σ : St) (a1 : Int32) (a2 : Int32) (a3 : Int32) (a4 : Int32) (a5 : Int32) (a6 : Int32) (C : CX Θ cX12_weekCost RX12 (some .int) ({ frames := 1, cells := 0, slots := 0, locals := 20 } : Room) 9) : WA LM Θ (fun r : Int32 => Qm LM Θ (some (.int r)) σ (True)) 0 [some (.ref (cF Θ 0)), some (.int a1), some (.int a2), some (.int a3), some (.int a4), some (.int a5), some (.int a6), none, none] [] σ (m_weekCost σ a1 a2 a3 a4 a5 a6) := by
  unfold m_weekCost
  refine r_iload C dX12_weekCost_0 rfl ?_
  refine r_iload C dX12_weekCost_2 rfl ?_
  refine r_imul C dX12_weekCost_4 ?_
  refine r_iload_n C dX12_weekCost_5 rfl ?_
  refine r_iload_n C dX12_weekCost_6 rfl ?_
  refine r_iconst C (1 : Int32) dX12_weekCost_7 (by decide) ?_
  refine r_isub C dX12_weekCost_8 ?_
  refine WA.join (α := Int32) 18 (fun t1 => [some (.ref (cF Θ 0)), some (.int a1), none, some (.int a3), none, some (.int a5), none, none, none]) (fun t1 => [.int t1, .int (a4 * a5)]) (fun t1 => σ) (fun t1 => True) (fun t1 h2 => ?_) (fun J3 => ?_)
  · refine r_iadd C dX12_weekCost_18 ?_
    refine r_istore C [some (.ref (cF Θ 0)), some (.int a1), none, some (.int a3), none, some (.int a5), none, some (.int ((a4 * a5) + t1)), none] dX12_weekCost_19 rfl (by decide) rfl ?_
    refine r_aload_n C dX12_weekCost_21 rfl ?_
    refine r_getF0 C dX12_weekCost_22 fg_X12_146 (by decide) ?_
    refine r_iload_n C dX12_weekCost_25 rfl ?_
    refine r_iald (α := Unit) C dX12_weekCost_26 ag_LM_44 (fun i4 => ?_)
    refine r_iload_n C dX12_weekCost_27 rfl ?_
    refine r_iload C dX12_weekCost_28 rfl ?_
    refine r_imul C dX12_weekCost_30 ?_
    refine r_iadd C dX12_weekCost_31 ?_
    refine r_iload C dX12_weekCost_32 rfl ?_
    refine r_iadd C dX12_weekCost_34 ?_
    refine r_istore C [some (.ref (cF Θ 0)), some (.int a1), none, some (.int a3), none, some (.int a5), none, some (.int ((a4 * a5) + t1)), some (.int (((σ.1 0 44 i4) + (a3 * a5)) + ((a4 * a5) + t1)))] dX12_weekCost_35 rfl (by decide) rfl ?_
    refine r_iload C dX12_weekCost_37 rfl ?_
    refine r_iload C dX12_weekCost_39 rfl ?_
    refine r_callS C (st := [.int ((a4 * a5) + t1)]) (As := [.int (((σ.1 0 44 i4) + (a3 * a5)) + ((a4 * a5) + t1))]) dX12_weekCost_41 ml_X12_341 sw_X12_noticeBy (fun r5 e => c_m_noticeBy Θ.1.2.1 (cW Θ) (cAd Θ) (cN Θ) σ (((σ.1 0 44 i4) + (a3 * a5)) + ((a4 * a5) + t1)) r5 e) rfl rfl (Nat.le_of_ble_eq_true rfl) ⟨rfl, rfl, by decide, by decide⟩ (fun r5 h6 => ?_)
    refine r_bipush C (6 : Int32) dX12_weekCost_44 (by decide) ?_
    refine r_iadd C dX12_weekCost_46 ?_
    refine r_bipush C (7 : Int32) dX12_weekCost_47 (by decide) ?_
    refine r_idivc C dX12_weekCost_49 (by decide) ?_
    refine r_iload_n C dX12_weekCost_50 rfl ?_
    refine r_iadd C dX12_weekCost_51 ?_
    refine r_imul C dX12_weekCost_52 ?_
    exact r_iret C dX12_weekCost_53 rfl rfl trivial
  · refine WA.bif ?_
    refine r_icmp_ne C 17 dX12_weekCost_9 (by decide) ?_ ?_
    · refine r_iconst C (0 : Int32) dX12_weekCost_17 (by decide) ?_
      refine WA.wk (lv' := [some (.ref (cF Θ 0)), some (.int a1), none, some (.int a3), none, some (.int a5), none, none, none]) [true, true, false, true, false, true, false, false, false] rfl ?_
      exact J3 (0 : Int32) trivial
    · refine r_iload C dX12_weekCost_12 rfl ?_
      refine r_goto C 18 dX12_weekCost_14 (by decide) ?_
      refine WA.wk (lv' := [some (.ref (cF Θ 0)), some (.int a1), none, some (.int a3), none, some (.int a5), none, none, none]) [true, true, false, true, false, true, false, false, false] rfl ?_
      exact J3 a6 trivial
theorem c_m_weekCost (l : Launch) (ω : Wd) (ad : Nat → Nat → Nat) (N : Nat → Nat) (σ : St) (a1 : Int32) (a2 : Int32) (a3 : Int32) (a4 : Int32) (a5 : Int32) (a6 : Int32) : ∀ r : Int32, m_weekCost σ a1 a2 a3 a4 a5 a6 = some r → Ct l yX12_weekCost cX12_weekCost 9 (some .int) ({ frames := 1, cells := 0, slots := 0, locals := 20 } : Room) LM ω ad N [.ref (ω.2.1 0), .int a1, .int a2, .int a3, .int a4, .int a5, .int a6] σ (some (.int r)) σ (True) :=
  ct_of (o := fun r : Int32 => (some (.int r))) (s' := fun r => σ) (P := fun r => True) [some (.ref (ω.2.1 0)), some (.int a1), some (.int a2), some (.int a3), some (.int a4), some (.int a5), some (.int a6), none, none] (by decide) rfl (Nat.le_of_ble_eq_true rfl) (fun Γ C _ _ => w_m_weekCost (Γ, ω, 9, ad, N, 0, 0) σ a1 a2 a3 a4 a5 a6 C)
theorem ag_LM_43 : AG LM 43 0 1407 := ⟨by decide, rfl⟩
theorem vw_X12_weekCost : VW yX12_weekCost cX12_weekCost 9 (some .int) 6 := ⟨⟨(in_wt 88 (by decide +kernel) (by decide +kernel)), (in_wt 1726 (by decide +kernel) (by decide +kernel)), by decide +kernel⟩, (in_wt 1725 (by decide +kernel) (by decide +kernel)), (in_wt 77 (by decide +kernel) (by decide +kernel))⟩
theorem fg_X12_143 : FG LM RX12 143 0 0 63 (1, 43) := ⟨_, _, _, _, _, rfl, rfl, rfl, by decide, uw_X12, (in_wt 1297 (by decide +kernel) (by decide +kernel))⟩
theorem ml_X12_344 : Cond.methodLink RX12 344 yX12_weekCost ∈ wt := in_wt 1723 (by decide +kernel) (by decide +kernel)
/-- PostsEndModel.private void findWeeks(int, int, int, int) -/
def m_findWeeks (σ : St) (a1 : Int32) (a2 : Int32) (a3 : Int32) (a4 : Int32) : Option St := (if a4 = 0 then none else (Option.bind (itr0 (S := Int32 × St) (E := St) (fun s1 => (if s1.1 < a3 then (Option.bind (m_endedBy s1.2 a1 ((s1.2.1 0 0 0) + ((7 : Int32) * s1.1))) fun r47 => (Option.bind (ix 6 s1.1) fun i49 => (lt1 (sx s1.2 0 44 i49 r47) fun σ50 => some (.inl (s1.1 + (1 : Int32), σ50))))) else some (.inr s1.2))) FU ((0 : Int32), σ)) fun e6 => (Option.bind (itr0 (S := Int32 × St) (E := St) (fun s9 => (if s9.1 < 0 then some (.inr s9.2) else (Option.bind (itr0 (S := Int32 × St) (E := St) (fun s17 => (if a2 / a4 < s17.1 then some (.inr s17.2) else (Option.bind (α := Int32) ((if s9.1 = a3 - (1 : Int32) then some ((a2 / a4) - s17.1) else some (0 : Int32))) fun t25 => (Option.bind (itr0 (S := Int32 × Int32) (E := Int32) (fun s28 => (if (a2 / a4) - s17.1 < s28.2 then some (.inr s28.1) else (if a4 = 0 then none else (Option.bind (m_weekCost s17.2 s9.1 a3 s17.1 s28.2 a4 (a2 - a2 / a4 * a4)) fun r38 => (Option.bind (α := Int32) ((if s9.1 = a3 - (1 : Int32) then some (0 : Int32) else (Option.bind (ix 1407 ((((201 : Int32) * (s9.1 + (1 : Int32))) + s17.1) + s28.2)) fun i46 => some (s17.2.1 0 43 i46)))) fun t40 => (Option.bind (α := Int32) ((if s28.1 < 0 then some (r38 + t40) else (if r38 + t40 < s28.1 then some (r38 + t40) else some s28.1))) fun t43 => some (.inl (t43, s28.2 + (1 : Int32))))))))) FU ((-1 : Int32), t25)) fun e33 => (Option.bind (ix 1407 (((201 : Int32) * s9.1) + s17.1)) fun i36 => (lt1 (sx s17.2 0 43 i36 e33) fun σ37 => some (.inl (s17.1 + (1 : Int32), σ37)))))))) FU ((0 : Int32), s9.2)) fun e22 => some (.inl (s9.1 + (-1 : Int32), e22))))) FU (a3 - (1 : Int32), e6)) fun e14 => some e14)))
set_option maxRecDepth 20000 in
set_option maxHeartbeats 4000000 in
theorem w_m_findWeeks (Θ : TT) (σ : St) (a1 : Int32) (a2 : Int32) (a3 : Int32) (a4 : Int32) (C : CX Θ cX12_findWeeks RX12 none ({ frames := 2, cells := 0, slots := 0, locals := 48 } : Room) 11) : WA LM Θ (fun r : St => Qm LM Θ none r (True)) 0 [some (.ref (cF Θ 0)), some (.int a1), some (.int a2), some (.int a3), some (.int a4), none, none, none, none, none, none] [] σ (m_findWeeks σ a1 a2 a3 a4) := by
  unfold m_findWeeks
  refine r_iload_n C dX12_findWeeks_0 rfl ?_
  refine r_iload C dX12_findWeeks_1 rfl ?_
  refine r_idiv C dX12_findWeeks_3 ?_
  refine r_istore C [some (.ref (cF Θ 0)), some (.int a1), some (.int a2), some (.int a3), some (.int a4), some (.int (a2 / a4)), none, none, none, none, none] dX12_findWeeks_4 rfl (by decide) rfl ?_
  refine r_iconst C (0 : Int32) dX12_findWeeks_6 (by decide) ?_
  refine r_istore C [some (.ref (cF Θ 0)), some (.int a1), some (.int a2), some (.int a3), some (.int a4), some (.int (a2 / a4)), some (.int (0 : Int32)), none, none, none, none] dX12_findWeeks_7 rfl (by decide) rfl ?_
  refine WA.join (α := St) 43 (fun e6 => [some (.ref (cF Θ 0)), none, some (.int a2), some (.int a3), some (.int a4), some (.int (a2 / a4)), none, none, none, none, none]) (fun e6 => []) (fun e6 => e6) (fun e6 => True) (fun e6 h7 => ?_) (fun J8 => ?_)
  · refine r_iload_n C dX12_findWeeks_43 rfl ?_
    refine r_iconst C (1 : Int32) dX12_findWeeks_44 (by decide) ?_
    refine r_isub C dX12_findWeeks_45 ?_
    refine r_istore C [some (.ref (cF Θ 0)), none, some (.int a2), some (.int a3), some (.int a4), some (.int (a2 / a4)), some (.int (a3 - (1 : Int32))), none, none, none, none] dX12_findWeeks_46 rfl (by decide) rfl ?_
    refine WA.join (α := St) 201 (fun e14 => [none, none, none, none, none, none, none, none, none, none, none]) (fun e14 => []) (fun e14 => e14) (fun e14 => True) (fun e14 h15 => ?_) (fun J16 => ?_)
    · exact r_vret C dX12_findWeeks_201 rfl rfl trivial
    · refine WA.wk (lv' := [some (.ref (cF Θ 0)), none, some (.int a2), some (.int a3), some (.int a4), some (.int (a2 / a4)), some (.int (a3 - (1 : Int32))), none, none, none, none]) [true, false, true, true, true, true, true, false, false, false, false] rfl ?_
      refine WA.itr (S := Int32 × St) 48 (fun s9 => [some (.ref (cF Θ 0)), none, some (.int a2), some (.int a3), some (.int a4), some (.int (a2 / a4)), some (.int s9.1), none, none, none, none]) (fun s9 => []) (fun s9 => s9.2) (fun s9 => True) (fun s9 k13 h10 ih11 hx12 => ?_) FU (a3 - (1 : Int32), e6) trivial
      refine r_iload C dX12_findWeeks_48 rfl ?_
      refine WA.bif ?_
      refine r_if_lt C 201 dX12_findWeeks_50 (by decide) ?_ ?_
      · refine WA.wk (lv' := [none, none, none, none, none, none, none, none, none, none, none]) [false, false, false, false, false, false, false, false, false, false, false] rfl ?_
        exact WA.eqK (hx12 _) (J16 s9.2 trivial)
      · refine r_iconst C (0 : Int32) dX12_findWeeks_53 (by decide) ?_
        refine r_istore C [some (.ref (cF Θ 0)), none, some (.int a2), some (.int a3), some (.int a4), some (.int (a2 / a4)), some (.int s9.1), some (.int (0 : Int32)), none, none, none] dX12_findWeeks_54 rfl (by decide) rfl ?_
        refine WA.asc ?_
        refine WA.join (α := St) 195 (fun e22 => [some (.ref (cF Θ 0)), none, some (.int a2), some (.int a3), some (.int a4), some (.int (a2 / a4)), some (.int s9.1), none, none, none, none]) (fun e22 => []) (fun e22 => e22) (fun e22 => True) (fun e22 h23 => ?_) (fun J24 => ?_)
        · refine r_iinc C (-1 : Int32) [some (.ref (cF Θ 0)), none, some (.int a2), some (.int a3), some (.int a4), some (.int (a2 / a4)), some (.int (s9.1 + (-1 : Int32))), none, none, none, none] dX12_findWeeks_195 (by decide) rfl rfl (by decide) rfl ?_
          refine r_goto C 48 dX12_findWeeks_198 (by decide) ?_
          refine WA.wk (lv' := [some (.ref (cF Θ 0)), none, some (.int a2), some (.int a3), some (.int a4), some (.int (a2 / a4)), some (.int (s9.1 + (-1 : Int32))), none, none, none, none]) [true, false, true, true, true, true, true, false, false, false, false] rfl ?_
          exact ih11 (s9.1 + (-1 : Int32), e22) trivial
        · refine WA.wk (lv' := [some (.ref (cF Θ 0)), none, some (.int a2), some (.int a3), some (.int a4), some (.int (a2 / a4)), some (.int s9.1), some (.int (0 : Int32)), none, none, none]) [true, false, true, true, true, true, true, true, false, false, false] rfl ?_
          refine WA.itr (S := Int32 × St) 56 (fun s17 => [some (.ref (cF Θ 0)), none, some (.int a2), some (.int a3), some (.int a4), some (.int (a2 / a4)), some (.int s9.1), some (.int s17.1), none, none, none]) (fun s17 => []) (fun s17 => s17.2) (fun s17 => True) (fun s17 k21 h18 ih19 hx20 => ?_) FU ((0 : Int32), s9.2) trivial
          refine r_iload C dX12_findWeeks_56 rfl ?_
          refine r_iload C dX12_findWeeks_58 rfl ?_
          refine WA.bif ?_
          refine r_icmp_gt C 195 dX12_findWeeks_60 (by decide) ?_ ?_
          · refine WA.wk (lv' := [some (.ref (cF Θ 0)), none, some (.int a2), some (.int a3), some (.int a4), some (.int (a2 / a4)), some (.int s9.1), none, none, none, none]) [true, false, true, true, true, true, true, false, false, false, false] rfl ?_
            exact WA.eqK (hx20 _) (J24 s17.2 trivial)
          · refine r_iconst C (-1 : Int32) dX12_findWeeks_63 (by decide) ?_
            refine r_istore C [some (.ref (cF Θ 0)), none, some (.int a2), some (.int a3), some (.int a4), some (.int (a2 / a4)), some (.int s9.1), some (.int s17.1), some (.int (-1 : Int32)), none, none] dX12_findWeeks_64 rfl (by decide) rfl ?_
            refine r_iload C dX12_findWeeks_66 rfl ?_
            refine r_iload_n C dX12_findWeeks_68 rfl ?_
            refine r_iconst C (1 : Int32) dX12_findWeeks_69 (by decide) ?_
            refine r_isub C dX12_findWeeks_70 ?_
            refine WA.asc ?_
            refine WA.join (α := Int32) 83 (fun t25 => [some (.ref (cF Θ 0)), none, some (.int a2), some (.int a3), some (.int a4), some (.int (a2 / a4)), some (.int s9.1), some (.int s17.1), some (.int (-1 : Int32)), none, none]) (fun t25 => [.int t25]) (fun t25 => s17.2) (fun t25 => True) (fun t25 h26 => ?_) (fun J27 => ?_)
            · refine r_istore C [some (.ref (cF Θ 0)), none, some (.int a2), some (.int a3), some (.int a4), some (.int (a2 / a4)), some (.int s9.1), some (.int s17.1), some (.int (-1 : Int32)), some (.int t25), none] dX12_findWeeks_83 rfl (by decide) rfl ?_
              refine WA.asc ?_
              refine WA.join (α := Int32) 173 (fun e33 => [some (.ref (cF Θ 0)), none, some (.int a2), some (.int a3), some (.int a4), some (.int (a2 / a4)), some (.int s9.1), some (.int s17.1), some (.int e33), none, none]) (fun e33 => []) (fun e33 => s17.2) (fun e33 => True) (fun e33 h34 => ?_) (fun J35 => ?_)
              · refine r_aload_n C dX12_findWeeks_173 rfl ?_
                refine r_getF0 C dX12_findWeeks_174 fg_X12_143 (by decide) ?_
                refine r_sipush C (201 : Int32) dX12_findWeeks_177 (by decide) ?_
                refine r_iload C dX12_findWeeks_180 rfl ?_
                refine r_imul C dX12_findWeeks_182 ?_
                refine r_iload C dX12_findWeeks_183 rfl ?_
                refine r_iadd C dX12_findWeeks_185 ?_
                refine r_iload C dX12_findWeeks_186 rfl ?_
                refine WA.asc ?_
                refine r_iast C dX12_findWeeks_188 ag_LM_43 (fun i36 => ?_)
                refine WA.genB (fun σ37 => ?_)
                refine r_iinc C (1 : Int32) [some (.ref (cF Θ 0)), none, some (.int a2), some (.int a3), some (.int a4), some (.int (a2 / a4)), some (.int s9.1), some (.int (s17.1 + (1 : Int32))), some (.int e33), none, none] dX12_findWeeks_189 (by decide) rfl rfl (by decide) rfl ?_
                refine r_goto C 56 dX12_findWeeks_192 (by decide) ?_
                refine WA.wk (lv' := [some (.ref (cF Θ 0)), none, some (.int a2), some (.int a3), some (.int a4), some (.int (a2 / a4)), some (.int s9.1), some (.int (s17.1 + (1 : Int32))), none, none, none]) [true, false, true, true, true, true, true, true, false, false, false] rfl ?_
                exact ih19 (s17.1 + (1 : Int32), σ37) trivial
              · refine WA.wk (lv' := [some (.ref (cF Θ 0)), none, some (.int a2), some (.int a3), some (.int a4), some (.int (a2 / a4)), some (.int s9.1), some (.int s17.1), some (.int (-1 : Int32)), some (.int t25), none]) [true, false, true, true, true, true, true, true, true, true, false] rfl ?_
                refine WA.itr (S := Int32 × Int32) 85 (fun s28 => [some (.ref (cF Θ 0)), none, some (.int a2), some (.int a3), some (.int a4), some (.int (a2 / a4)), some (.int s9.1), some (.int s17.1), some (.int s28.1), some (.int s28.2), none]) (fun s28 => []) (fun s28 => s17.2) (fun s28 => True) (fun s28 k32 h29 ih30 hx31 => ?_) FU ((-1 : Int32), t25) trivial
                refine r_iload C dX12_findWeeks_85 rfl ?_
                refine r_iload C dX12_findWeeks_87 rfl ?_
                refine r_iload C dX12_findWeeks_89 rfl ?_
                refine r_isub C dX12_findWeeks_91 ?_
                refine WA.bif ?_
                refine r_icmp_gt C 173 dX12_findWeeks_92 (by decide) ?_ ?_
                · refine WA.wk (lv' := [some (.ref (cF Θ 0)), none, some (.int a2), some (.int a3), some (.int a4), some (.int (a2 / a4)), some (.int s9.1), some (.int s17.1), some (.int s28.1), none, none]) [true, false, true, true, true, true, true, true, true, false, false] rfl ?_
                  exact WA.eqK (hx31 _) (J35 s28.1 trivial)
                · refine r_aload_n C dX12_findWeeks_95 rfl ?_
                  refine r_iload C dX12_findWeeks_96 rfl ?_
                  refine r_iload_n C dX12_findWeeks_98 rfl ?_
                  refine r_iload C dX12_findWeeks_99 rfl ?_
                  refine r_iload C dX12_findWeeks_101 rfl ?_
                  refine r_iload C dX12_findWeeks_103 rfl ?_
                  refine r_iload_n C dX12_findWeeks_105 rfl ?_
                  refine r_iload C dX12_findWeeks_106 rfl ?_
                  refine WA.bif ?_
                  refine r_irem C dX12_findWeeks_108 ?_
                  refine WA.asc ?_
                  refine r_callV C (st := []) (As := [.int s9.1, .int a3, .int s17.1, .int s28.2, .int a4, .int (a2 - a2 / a4 * a4)]) (d := 0) (j := 0) dX12_findWeeks_109 ml_X12_344 vw_X12_weekCost ⟨_, _, _, _, rfl, rfl⟩ (dm0 (by decide)) (fun r38 e => c_m_weekCost Θ.1.2.1 (cW Θ) (cAd Θ) (cN Θ) s17.2 s9.1 a3 s17.1 s28.2 a4 (a2 - a2 / a4 * a4) r38 e) rfl rfl (Nat.le_of_ble_eq_true rfl) ⟨rfl, rfl, by decide, by decide⟩ (fun r38 h39 => ?_)
                  refine r_iload C dX12_findWeeks_112 rfl ?_
                  refine r_iload_n C dX12_findWeeks_114 rfl ?_
                  refine r_iconst C (1 : Int32) dX12_findWeeks_115 (by decide) ?_
                  refine r_isub C dX12_findWeeks_116 ?_
                  refine WA.asc ?_
                  refine WA.join (α := Int32) 143 (fun t40 => [some (.ref (cF Θ 0)), none, some (.int a2), some (.int a3), some (.int a4), some (.int (a2 / a4)), some (.int s9.1), some (.int s17.1), some (.int s28.1), some (.int s28.2), none]) (fun t40 => [.int t40, .int r38]) (fun t40 => s17.2) (fun t40 => True) (fun t40 h41 => ?_) (fun J42 => ?_)
                  · refine r_iadd C dX12_findWeeks_143 ?_
                    refine r_istore C [some (.ref (cF Θ 0)), none, some (.int a2), some (.int a3), some (.int a4), some (.int (a2 / a4)), some (.int s9.1), some (.int s17.1), some (.int s28.1), some (.int s28.2), some (.int (r38 + t40))] dX12_findWeeks_144 rfl (by decide) rfl ?_
                    refine r_iload C dX12_findWeeks_146 rfl ?_
                    refine WA.asc ?_
                    refine WA.join (α := Int32) 165 (fun t43 => [some (.ref (cF Θ 0)), none, some (.int a2), some (.int a3), some (.int a4), some (.int (a2 / a4)), some (.int s9.1), some (.int s17.1), none, some (.int s28.2), none]) (fun t43 => [.int t43]) (fun t43 => s17.2) (fun t43 => True) (fun t43 h44 => ?_) (fun J45 => ?_)
                    · refine r_istore C [some (.ref (cF Θ 0)), none, some (.int a2), some (.int a3), some (.int a4), some (.int (a2 / a4)), some (.int s9.1), some (.int s17.1), some (.int t43), some (.int s28.2), none] dX12_findWeeks_165 rfl (by decide) rfl ?_
                      refine r_iinc C (1 : Int32) [some (.ref (cF Θ 0)), none, some (.int a2), some (.int a3), some (.int a4), some (.int (a2 / a4)), some (.int s9.1), some (.int s17.1), some (.int t43), some (.int (s28.2 + (1 : Int32))), none] dX12_findWeeks_167 (by decide) rfl rfl (by decide) rfl ?_
                      refine r_goto C 85 dX12_findWeeks_170 (by decide) ?_
                      refine WA.wk (lv' := [some (.ref (cF Θ 0)), none, some (.int a2), some (.int a3), some (.int a4), some (.int (a2 / a4)), some (.int s9.1), some (.int s17.1), some (.int t43), some (.int (s28.2 + (1 : Int32))), none]) [true, false, true, true, true, true, true, true, true, true, false] rfl ?_
                      exact ih30 (t43, s28.2 + (1 : Int32)) trivial
                    · refine WA.bif ?_
                      refine r_if_lt C 158 dX12_findWeeks_148 (by decide) ?_ ?_
                      · refine r_iload C dX12_findWeeks_158 rfl ?_
                        refine r_goto C 165 dX12_findWeeks_160 (by decide) ?_
                        refine WA.wk (lv' := [some (.ref (cF Θ 0)), none, some (.int a2), some (.int a3), some (.int a4), some (.int (a2 / a4)), some (.int s9.1), some (.int s17.1), none, some (.int s28.2), none]) [true, false, true, true, true, true, true, true, false, true, false] rfl ?_
                        exact J45 (r38 + t40) trivial
                      · refine r_iload C dX12_findWeeks_151 rfl ?_
                        refine r_iload C dX12_findWeeks_153 rfl ?_
                        refine WA.bif ?_
                        refine r_icmp_ge C 163 dX12_findWeeks_155 (by decide) ?_ ?_
                        · refine r_iload C dX12_findWeeks_163 rfl ?_
                          refine WA.wk (lv' := [some (.ref (cF Θ 0)), none, some (.int a2), some (.int a3), some (.int a4), some (.int (a2 / a4)), some (.int s9.1), some (.int s17.1), none, some (.int s28.2), none]) [true, false, true, true, true, true, true, true, false, true, false] rfl ?_
                          exact J45 s28.1 trivial
                        · refine r_iload C dX12_findWeeks_158 rfl ?_
                          refine r_goto C 165 dX12_findWeeks_160 (by decide) ?_
                          refine WA.wk (lv' := [some (.ref (cF Θ 0)), none, some (.int a2), some (.int a3), some (.int a4), some (.int (a2 / a4)), some (.int s9.1), some (.int s17.1), none, some (.int s28.2), none]) [true, false, true, true, true, true, true, true, false, true, false] rfl ?_
                          exact J45 (r38 + t40) trivial
                  · refine WA.bif ?_
                    refine r_icmp_ne C 124 dX12_findWeeks_117 (by decide) ?_ ?_
                    · refine r_aload_n C dX12_findWeeks_124 rfl ?_
                      refine r_getF0 C dX12_findWeeks_125 fg_X12_143 (by decide) ?_
                      refine r_sipush C (201 : Int32) dX12_findWeeks_128 (by decide) ?_
                      refine r_iload C dX12_findWeeks_131 rfl ?_
                      refine r_iconst C (1 : Int32) dX12_findWeeks_133 (by decide) ?_
                      refine r_iadd C dX12_findWeeks_134 ?_
                      refine r_imul C dX12_findWeeks_135 ?_
                      refine r_iload C dX12_findWeeks_136 rfl ?_
                      refine r_iadd C dX12_findWeeks_138 ?_
                      refine r_iload C dX12_findWeeks_139 rfl ?_
                      refine r_iadd C dX12_findWeeks_141 ?_
                      refine WA.asc ?_
                      refine r_iald (α := Unit) C dX12_findWeeks_142 ag_LM_43 (fun i46 => ?_)
                      refine WA.wk (lv' := [some (.ref (cF Θ 0)), none, some (.int a2), some (.int a3), some (.int a4), some (.int (a2 / a4)), some (.int s9.1), some (.int s17.1), some (.int s28.1), some (.int s28.2), none]) [true, false, true, true, true, true, true, true, true, true, false] rfl ?_
                      exact J42 (s17.2.1 0 43 i46) trivial
                    · refine r_iconst C (0 : Int32) dX12_findWeeks_120 (by decide) ?_
                      refine r_goto C 143 dX12_findWeeks_121 (by decide) ?_
                      refine WA.wk (lv' := [some (.ref (cF Θ 0)), none, some (.int a2), some (.int a3), some (.int a4), some (.int (a2 / a4)), some (.int s9.1), some (.int s17.1), some (.int s28.1), some (.int s28.2), none]) [true, false, true, true, true, true, true, true, true, true, false] rfl ?_
                      exact J42 (0 : Int32) trivial
            · refine WA.bif ?_
              refine r_icmp_ne C 82 dX12_findWeeks_71 (by decide) ?_ ?_
              · refine r_iconst C (0 : Int32) dX12_findWeeks_82 (by decide) ?_
                refine WA.wk (lv' := [some (.ref (cF Θ 0)), none, some (.int a2), some (.int a3), some (.int a4), some (.int (a2 / a4)), some (.int s9.1), some (.int s17.1), some (.int (-1 : Int32)), none, none]) [true, false, true, true, true, true, true, true, true, false, false] rfl ?_
                exact J27 (0 : Int32) trivial
              · refine r_iload C dX12_findWeeks_74 rfl ?_
                refine r_iload C dX12_findWeeks_76 rfl ?_
                refine r_isub C dX12_findWeeks_78 ?_
                refine r_goto C 83 dX12_findWeeks_79 (by decide) ?_
                refine WA.wk (lv' := [some (.ref (cF Θ 0)), none, some (.int a2), some (.int a3), some (.int a4), some (.int (a2 / a4)), some (.int s9.1), some (.int s17.1), some (.int (-1 : Int32)), none, none]) [true, false, true, true, true, true, true, true, true, false, false] rfl ?_
                exact J27 ((a2 / a4) - s17.1) trivial
  · refine WA.wk (lv' := [some (.ref (cF Θ 0)), some (.int a1), some (.int a2), some (.int a3), some (.int a4), some (.int (a2 / a4)), some (.int (0 : Int32)), none, none, none, none]) [true, true, true, true, true, true, true, false, false, false, false] rfl ?_
    refine WA.itr (S := Int32 × St) 9 (fun s1 => [some (.ref (cF Θ 0)), some (.int a1), some (.int a2), some (.int a3), some (.int a4), some (.int (a2 / a4)), some (.int s1.1), none, none, none, none]) (fun s1 => []) (fun s1 => s1.2) (fun s1 => True) (fun s1 k5 h2 ih3 hx4 => ?_) FU ((0 : Int32), σ) trivial
    refine r_iload C dX12_findWeeks_9 rfl ?_
    refine r_iload_n C dX12_findWeeks_11 rfl ?_
    refine WA.bif ?_
    refine r_icmp_ge C 43 dX12_findWeeks_12 (by decide) ?_ ?_
    · refine WA.wk (lv' := [some (.ref (cF Θ 0)), none, some (.int a2), some (.int a3), some (.int a4), some (.int (a2 / a4)), none, none, none, none, none]) [true, false, true, true, true, true, false, false, false, false, false] rfl ?_
      exact WA.eqK (hx4 _) (J8 s1.2 trivial)
    · refine r_aload_n C dX12_findWeeks_15 rfl ?_
      refine r_getF0 C dX12_findWeeks_16 fg_X12_146 (by decide) ?_
      refine r_iload C dX12_findWeeks_19 rfl ?_
      refine r_aload_n C dX12_findWeeks_21 rfl ?_
      refine r_iload_n C dX12_findWeeks_22 rfl ?_
      refine r_aload_n C dX12_findWeeks_23 rfl ?_
      refine r_getI0 C dX12_findWeeks_24 fg_X12_167 (by decide) ?_
      refine r_bipush C (7 : Int32) dX12_findWeeks_27 (by decide) ?_
      refine r_iload C dX12_findWeeks_29 rfl ?_
      refine r_imul C dX12_findWeeks_31 ?_
      refine r_iadd C dX12_findWeeks_32 ?_
      refine WA.asc ?_
      refine r_callV C (st := [.int s1.1, .ref (cF Θ 44)]) (As := [.int a1, .int ((s1.2.1 0 0 0) + ((7 : Int32) * s1.1))]) (d := 0) (j := 0) dX12_findWeeks_33 ml_X12_338 vw_X12_endedBy ⟨_, _, _, _, rfl, rfl⟩ (dm0 (by decide)) (fun r47 e => c_m_endedBy Θ.1.2.1 (cW Θ) (cAd Θ) (cN Θ) s1.2 a1 ((s1.2.1 0 0 0) + ((7 : Int32) * s1.1)) r47 e) rfl rfl (Nat.le_of_ble_eq_true rfl) ⟨rfl, rfl, by decide, by decide⟩ (fun r47 h48 => ?_)
      refine WA.asc ?_
      refine r_iast C dX12_findWeeks_36 ag_LM_44 (fun i49 => ?_)
      refine WA.genB (fun σ50 => ?_)
      refine r_iinc C (1 : Int32) [some (.ref (cF Θ 0)), some (.int a1), some (.int a2), some (.int a3), some (.int a4), some (.int (a2 / a4)), some (.int (s1.1 + (1 : Int32))), none, none, none, none] dX12_findWeeks_37 (by decide) rfl rfl (by decide) rfl ?_
      refine r_goto C 9 dX12_findWeeks_40 (by decide) ?_
      refine WA.wk (lv' := [some (.ref (cF Θ 0)), some (.int a1), some (.int a2), some (.int a3), some (.int a4), some (.int (a2 / a4)), some (.int (s1.1 + (1 : Int32))), none, none, none, none]) [true, true, true, true, true, true, true, false, false, false, false] rfl ?_
      exact ih3 (s1.1 + (1 : Int32), σ50) trivial
theorem c_m_findWeeks (l : Launch) (ω : Wd) (ad : Nat → Nat → Nat) (N : Nat → Nat) (σ : St) (a1 : Int32) (a2 : Int32) (a3 : Int32) (a4 : Int32) : ∀ r : St, m_findWeeks σ a1 a2 a3 a4 = some r → Ct l yX12_findWeeks cX12_findWeeks 11 none ({ frames := 2, cells := 0, slots := 0, locals := 48 } : Room) LM ω ad N [.ref (ω.2.1 0), .int a1, .int a2, .int a3, .int a4] σ none r (True) :=
  ct_of (o := fun r : St => none) (s' := fun r => r) (P := fun r => True) [some (.ref (ω.2.1 0)), some (.int a1), some (.int a2), some (.int a3), some (.int a4), none, none, none, none, none, none] (by decide) rfl (Nat.le_of_ble_eq_true rfl) (fun Γ C _ _ => w_m_findWeeks (Γ, ω, 11, ad, N, 0, 0) σ a1 a2 a3 a4 C)
