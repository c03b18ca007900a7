/-! ===== skill, parts, mark ===== -/
def skl (τ : St) (k p : Nat) : Int32 := if τ.1 0 7 p = 0 then 100 else (100 * on (τ.1 0 9 k &&& τ.1 0 7 p)) / on (τ.1 0 7 p)
def sk1 (τ : St) (k : Nat) : Int32 := if τ.1 0 12 k < 0 then 0 else skl τ k (τ.1 0 12 k).toNatClampNeg
def rcd (f : Int32) : Int32 := if (100 : Int32) - 20 * f < 0 then 0 else 100 - 20 * f
def ys (τ : St) (k : Nat) : Int32 := if (100 : Int32) < 5 * yr τ k then 100 else 5 * yr τ k
def prt (τ : St) (T R k : Nat) (d : Int32) : Nat → Int32
  | 0 => kn τ T R k 0 d
  | 1 => sk1 τ k
  | 2 => rcd (kn τ T R k 1 d)
  | _ => ys τ k
def msum (τ : St) (T R k : Nat) (d : Int32) : Nat → Int32
  | 0 => 0
  | n + 1 => msum τ T R k d n + τ.1 0 17 n * prt τ T R k d n
def mk (τ : St) (T R k : Nat) (d : Int32) : Int32 := msum τ T R k d 4
theorem Rg.up {lo hi hi' : Int} {x : Int32} (h : Rg lo hi x) (hh : hi ≤ hi') : Rg lo hi' x := ⟨h.1, Int.le_trans h.2 hh⟩
section Mark
variable {σ τ : St} {U P Q T R L E : Nat}
/-- the post that one holds, on both sides -/
theorem holds_eq (hq : IPe σ τ P Q T) {k : Nat} (hk : k < Q) : (σ.2 2 k 4 = none ∧ τ.1 0 12 k = -1) ∨ ∃ p, p < P ∧ σ.2 2 k 4 = some p ∧ τ.1 0 12 k = nI p ∧ τ.1 0 8 p < 0 ∧ σ.2 1 p 7 = some k ∧ τ.1 0 14 k < 0 := by
  obtain ⟨-, -, -, -, -, -, -, -, -, -, -, -, -, -, a15, -⟩ := hq.2.2.2 k hk
  exact a15
theorem wants_rg (hp : IPo σ τ U P Q) {p : Nat} (hpp : p < P) : σ.1 1 p 5 = τ.1 0 7 p ∧ Rg 0 1023 (τ.1 0 7 p) := by
  obtain ⟨-, -, -, -, -, -, a7, -, -, -, -, a12, -⟩ := hp.2.2.2 p hpp
  exact ⟨a7, a12⟩
theorem skills_rg (hq : IPe σ τ P Q T) {k : Nat} (hk : k < Q) : σ.1 2 k 1 = τ.1 0 9 k ∧ Rg 0 1023 (τ.1 0 9 k) := by
  obtain ⟨-, -, a3, -, -, -, -, -, a9, -⟩ := hq.2.2.2 k hk
  exact ⟨a3, a9⟩
theorem p_skill_eq (hp : IPo σ τ U P Q) (hq : IPe σ τ P Q T) {k p : Nat} (hk : k < Q) (hpp : p < P) : p_PE_skillFor σ k p = some (skl τ k p) := by
  obtain ⟨e1, r1⟩ := wants_rg hp hpp
  obtain ⟨e2, r2⟩ := skills_rg hq hk
  have r3 := and_rg (hi := 1023) r2 r1 (by decide)
  unfold p_PE_skillFor skl
  rw [e1, e2, bc_on (r1.up (by decide)), bc_on (r3.up (by decide))]
  simp only [obs, on_0 (r1.up (by decide) : Rg 0 4095 _)]
  by_cases h : τ.1 0 7 p = 0
  · simp only [if_pos h]
  · simp only [if_neg h]
theorem m_skill_eq (hp : IPo σ τ U P Q) (hq : IPe σ τ P Q T) {k p : Nat} (hk : k < Q) (hpp : p < P) : m_skillFor τ (nI k) (nI p) = some (skl τ k p) := by
  have hP := hp.1
  have hQ := hq.1
  obtain ⟨e1, r1⟩ := wants_rg hp hpp
  obtain ⟨e2, r2⟩ := skills_rg hq hk
  have r3 := and_rg (hi := 1023) r2 r1 (by decide)
  unfold m_skillFor skl
  simp only [if_neg (nI_pos (show p < 2 ^ 31 by omega)), ix_nI (show p < 40 by omega) (show 40 < 2 ^ 31 by decide), ix_nI (show k < 40 by omega) (show 40 < 2 ^ 31 by decide), obs, ones_on (r1.up (by decide) : Rg 0 4095 _), ones_on (r3.up (by decide) : Rg 0 4095 _), on_0 (r1.up (by decide) : Rg 0 4095 _)]
  by_cases h : τ.1 0 7 p = 0
  · simp only [if_pos h]
  · simp only [if_neg h]
theorem m_skill_m1 (k : Nat) : m_skillFor τ (nI k) (-1) = some 0 := rfl
theorem yr_nI (hd0 : Rg 0 3000 (τ.1 0 0 0)) (hq : IPe σ τ P Q T) {k : Nat} (hk : k < Q) : ∃ y : Nat, y ≤ 63 ∧ yr τ k = nI y := by
  obtain ⟨-, -, -, -, -, -, -, -, -, a10, -⟩ := hq.2.2.2 k hk
  have r := hd0
  obtain ⟨l1, l2⟩ := a10
  obtain ⟨l3, l4⟩ := r
  have e : (τ.1 0 0 0 - τ.1 0 10 k).toInt = (τ.1 0 0 0).toInt - (τ.1 0 10 k).toInt := by
    rw [Int32.toInt_sub, Int.bmod_eq_of_le (by omega) (by omega)]
  obtain ⟨n, h1, h2⟩ := rg_nI (hi := 23000) (x := τ.1 0 0 0 - τ.1 0 10 k) ⟨by omega, by omega⟩
  refine ⟨n / 365, by omega, ?_⟩
  unfold yr
  rw [h2]
  exact pk_div (d := 365) (by omega) (by decide) (by decide)
theorem p_part_eq (hs : ISc σ τ) (hp : IPo σ τ U P Q) (hq : IPe σ τ P Q T) (ht : ITe σ τ Q T R) (hr : IRi σ τ T R) {k : Nat} (hk : k < Q) (d : Int32) {w : Nat} (hw : w < 4) : p_Firm_partAsOf σ k (nI w) d = some (prt τ T R k d w) := by
  have hP := hp.1
  unfold p_Firm_partAsOf
  rcases (show w = 0 ∨ w = 1 ∨ w = 2 ∨ w = 3 by omega) with rfl | rfl | rfl | rfl
  · rw [lt1_eq, if_pos (show nI 0 = 0 from rfl), p_told_eq hq ht hr hk (Or.inl rfl) d]
    rfl
  · rw [lt1_eq, if_neg (show ¬ nI 1 = 0 by decide), if_pos (show nI 1 = 1 from rfl)]
    show _ = some (sk1 τ k)
    unfold sk1
    rcases holds_eq hq hk with ⟨c1, c2⟩ | ⟨p, c1, c2, c3, -⟩
    · rw [c1, c2, if_pos (by decide)]; rfl
    · rw [c2, c3, if_neg (nI_pos (by omega)), nI_clamp (by omega), oes, p_skill_eq hp hq hk c1]; rfl
  · rw [lt1_eq, if_neg (show ¬ nI 2 = 0 by decide), if_neg (show ¬ nI 2 = 1 by decide), if_pos (show nI 2 = 2 from rfl), p_told_eq hq ht hr hk (Or.inr rfl) d]
    rfl
  · rw [lt1_eq, if_neg (show ¬ nI 3 = 0 by decide), if_neg (show ¬ nI 3 = 1 by decide), if_neg (show ¬ nI 3 = 2 by decide), if_pos (show nI 3 = 3 from rfl), p_years hs hq hk]
    rfl
theorem m_part_eq (hd0 : Rg 0 3000 (τ.1 0 0 0)) (hp : IPo σ τ U P Q) (hq : IPe σ τ P Q T) (hT : T ≤ 120) (hR : R ≤ 60 + 1) (e25 : τ.1 0 0 25 = nI T) (e30 : τ.1 0 0 30 = nI R) {k : Nat} (hk : k < Q) (d : Int32) {w : Nat} (hw : w < 4) : m_partOf τ (nI k) (nI w) d = some (prt τ T R k d w) := by
  have hP := hp.1
  have hQ := hq.1
  unfold m_partOf
  rcases (show w = 0 ∨ w = 1 ∨ w = 2 ∨ w = 3 by omega) with rfl | rfl | rfl | rfl
  · rw [if_pos (show nI 0 = 0 from rfl), m_known_eq hT hR e25 e30]
    rfl
  · rw [if_neg (show ¬ nI 1 = 0 by decide), if_pos (show nI 1 = 1 from rfl), ix_nI (show k < 40 by omega) (show 40 < 2 ^ 31 by decide), obs]
    show _ = some (sk1 τ k)
    unfold sk1
    rcases holds_eq hq hk with ⟨c1, c2⟩ | ⟨p, c1, c2, c3, -⟩
    · rw [c2, if_pos (by decide)]; rfl
    · rw [c3, if_neg (nI_pos (by omega)), nI_clamp (by omega), m_skill_eq hp hq hk c1]; rfl
  · rw [if_neg (show ¬ nI 2 = 0 by decide), if_neg (show ¬ nI 2 = 1 by decide), if_pos (show nI 2 = 2 from rfl), m_known_eq hT hR e25 e30, obs]
    show _ = some (rcd (kn τ T R k 1 d))
    unfold rcd
    split <;> rfl
  · rw [if_neg (show ¬ nI 3 = 0 by decide), if_neg (show ¬ nI 3 = 1 by decide), if_neg (show ¬ nI 3 = 2 by decide), m_years hq hk]
    simp only [obs]
    show _ = some (ys τ k)
    unfold ys
    obtain ⟨y, h1, h2⟩ := yr_nI hd0 hq hk
    rw [h2]
    have e1 : (5 : Int32) * nI y = nI (5 * y) := pk_mul 5 y
    rw [e1]
    by_cases h : 20 < y
    · rw [if_pos (show (20 : Int32) < nI y from nI_lt (a := 20) h (by omega)), if_pos (show (100 : Int32) < nI (5 * y) from nI_lt (a := 100) (by omega) (by omega))]
    · rw [if_neg (show ¬ (20 : Int32) < nI y from nI_nlt (a := 20) (by omega) (by omega)), if_neg (show ¬ (100 : Int32) < nI (5 * y) from nI_nlt (a := 100) (by omega) (by omega))]
theorem p_mark_eq (hs : ISc σ τ) (hp : IPo σ τ U P Q) (hq : IPe σ τ P Q T) (ht : ITe σ τ Q T R) (hr : IRi σ τ T R) {k : Nat} (hk : k < Q) (d : Int32) : p_Firm_markAsOf σ k d = some (mk τ T R k d) := by
  unfold p_Firm_markAsOf
  refine itr_bd 4 (fun i => (msum τ T R k d i, nI i)) (mk τ T R k d) (FU_lt (by decide)) rfl (fun i hi => ?_) rfl rfl
  simp only [if_pos (show nI i < 4 from nI_lt (b := 4) hi (by decide)), ix_nI hi (show 4 < 2 ^ 31 by decide), obs, p_part_eq hs hp hq ht hr hk d hi, nI_1, (hs.2.2.1 i hi).1]
  rfl
/-- the weights may be others than told -/
theorem m_mark_eq (hd0 : Rg 0 3000 (τ.1 0 0 0)) (hp : IPo σ τ U P Q) (hq : IPe σ τ P Q T) (hT : T ≤ 120) (hR : R ≤ 60 + 1) (e25 : τ.1 0 0 25 = nI T) (e30 : τ.1 0 0 30 = nI R) {k : Nat} (hk : k < Q) (d : Int32) : m_markOf τ (nI k) d = some (mk τ T R k d) := by
  unfold m_markOf
  refine itr_bd 4 (fun i => (msum τ T R k d i, nI i)) (mk τ T R k d) (FU_lt (by decide)) rfl (fun i hi => ?_) rfl rfl
  simp only [if_pos (show nI i < 4 from nI_lt (b := 4) hi (by decide)), ix_nI hi (show 4 < 2 ^ 31 by decide), obs, m_part_eq hd0 hp hq hT hR e25 e30 hk d hi, nI_1]
  rfl
end Mark
theorem s_mark : S_mark Inv := by
  intro σ τ N a1 a2 a3 hI
  obtain ⟨U, L, E, hs, hu, hp, hq, ht, hr, hl, he⟩ := id hI
  have hQ := hq.1
  have hT := ht.1
  have hR := hr.1
  simp only [p_PE_mark, m_mark, bind_pair, p_r1, m_r1, p_r2, m_r2, p_r4, m_r4, p_r6, m_r6]
  rcases in_or a1 (n := N 2) (by omega) with ⟨k, hk, rfl⟩ | ⟨hno, -⟩
  · rw [personAt_t hq hk, isPerson_t hq hk]
    simp only [obs, oes, if_neg (show ¬ (1 : Int32) = 0 by decide)]
    rcases in_or a3 (n := 5) (by decide) with ⟨w, hw, rfl⟩ | ⟨hno, hout⟩
    · rw [inl_t 4 (c := 4) rfl (by omega) (by decide), if_neg (nI_pos (by omega)), if_neg (show ¬ (4 : Int32) < nI w from nI_nlt (a := 4) (by omega) (by decide))]
      simp only [obs, if_neg (show ¬ (1 : Int32) = 0 by decide)]
      by_cases h1 : a2 < 0
      · simp only [if_pos h1]; exact ⟨_, _, _, rfl, rfl, inv_rf hI 4⟩
      by_cases h2 : (3000 : Int32) < a2
      · simp only [if_neg h1, if_pos h2]; exact ⟨_, _, _, rfl, rfl, inv_rf hI 6⟩
      simp only [if_neg h1, if_neg h2]
      by_cases h4 : w = 4
      · subst h4
        simp only [if_pos (show nI 4 = 4 from rfl), p_mark_eq hs hp hq ht hr hk, m_mark_eq hs.2.1 hp hq hT (by omega) ht.2.1 hr.2.1 hk, obs]
        exact ⟨_, _, _, rfl, rfl, hI⟩
      · have h5 : ¬ nI w = 4 := fun e => h4 (nI_inj (by omega) (by decide) (b := 4) e)
        simp only [if_neg h5, p_part_eq hs hp hq ht hr hk a2 (show w < 4 by omega), m_part_eq hs.2.1 hp hq hT (by omega) ht.2.1 hr.2.1 hk a2 (show w < 4 by omega), obs]
        exact ⟨_, _, _, rfl, rfl, hI⟩
    · rw [inl_f 4 (c := 4) rfl (by decide) (fun k hk => hno k (by omega))]
      simp only [obs, if_true]
      by_cases h1 : a3 < 0
      · rw [if_pos h1]; exact ⟨_, _, _, rfl, rfl, inv_rf hI 2⟩
      · have h3 := out_lt (by decide) hno h1
        have h4 : (4 : Int32) < a3 := by
          rw [i_le] at h3
          rw [i_lt]
          have e1 : (nI 5).toInt = 5 := rfl
          have e2 : (4 : Int32).toInt = 4 := rfl
          omega
        rw [if_neg h1, if_pos h4]
        exact ⟨_, _, _, rfl, rfl, inv_rf hI 2⟩
  · rw [personAt_f hq hno, isPerson_f hq hno]
    simp only [obs, oen, if_true]
    exact ⟨_, _, _, rfl, rfl, inv_rf hI 1⟩
