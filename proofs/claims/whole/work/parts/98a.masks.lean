/-! ===== sets as bits ===== -/
theorem bsum_cnt (n : Nat) : ∀ i, bsum n i = cnt (fun x => n.testBit x) i
  | 0 => rfl
  | i + 1 => by
    show bsum n i + n / 2 ^ i % 2 = cnt (fun x => n.testBit x) i + (if n.testBit i = true then 1 else 0)
    rw [bsum_cnt n i]
    have h2 : n / 2 ^ i % 2 < 2 := Nat.mod_lt _ (by decide)
    cases h : n.testBit i with
    | true => rw [tb_iff] at h; rw [h]; rfl
    | false =>
      have : ¬ n / 2 ^ i % 2 = 1 := fun e => by rw [← tb_iff, h] at e; cases e
      have : n / 2 ^ i % 2 = 0 := by omega
      rw [this]; rfl
theorem pc_cnt (n : Nat) : pc n = cnt (fun x => n.testBit x) 12 := bsum_cnt n 12
theorem cnt_ext {p : Nat → Bool} {m : Nat} : ∀ {n : Nat}, m ≤ n → (∀ i, m ≤ i → i < n → p i = false) → cnt p n = cnt p m
  | 0, h, _ => by have : m = 0 := by omega
                  subst this; rfl
  | n + 1, h, hp => by
    by_cases e : m = n + 1
    · subst e; rfl
    · show cnt p n + _ = _
      rw [hp n (by omega) (by omega), cnt_ext (n := n) (by omega) (fun i h1 h2 => hp i h1 (by omega))]
      rfl
/-- a set out of a property -/
def mkm (p : Nat → Bool) : Nat → Nat
  | 0 => 0
  | x + 1 => mkm p x ||| (if p x then 2 ^ x else 0)
theorem mkm_tb (p : Nat → Bool) : ∀ (n y : Nat), (mkm p n).testBit y = (decide (y < n) && p y)
  | 0, y => by simp [mkm]
  | n + 1, y => by
    show (mkm p n ||| (if p n then 2 ^ n else 0)).testBit y = _
    rw [Nat.testBit_or, mkm_tb p n y]
    by_cases e : y = n
    · subst e
      cases hp : p y with
      | true => simp
      | false => simp
    · have e1 : decide (y < n + 1) = decide (y < n) := by rw [decide_eq_decide]; omega
      rw [e1]
      cases hp : p n with
      | true => simp [Nat.testBit_two_pow]; intro h; omega
      | false => simp
theorem mkm_lt (p : Nat → Bool) : ∀ n, mkm p n < 2 ^ n
  | 0 => Nat.one_pos
  | n + 1 => by
    show (mkm p n ||| (if p n then 2 ^ n else 0)) < 2 ^ (n + 1)
    have h1 := mkm_lt p n
    have h2 : 2 ^ n < 2 ^ (n + 1) := Nat.pow_lt_pow_right (by decide) (by omega)
    refine Nat.or_lt_two_pow (by omega) ?_
    split
    · exact h2
    · exact Nat.two_pow_pos _
theorem p12 {n : Nat} (h : n ≤ 12) : 2 ^ n ≤ 4096 := Nat.pow_le_pow_right (n := 2) (by decide) h
/-- those of a who aren't in s -/
theorem nI_andnot {a s : Nat} (ha : a < 4096) (hs : s < 4096) : nI a &&& (nI s ^^^ (-1)) = nI (a &&& (s ^^^ 4095)) := by
  rw [← nI_and]
  have e1 : nI s ^^^ (-1 : Int32) = ~~~ (nI s) := by
    apply Int32.toBitVec_inj.mp
    have : (-1 : Int32).toBitVec = BitVec.allOnes 32 := by decide
    rw [Int32.toBitVec_xor, this, Int32.toBitVec_not, BitVec.xor_allOnes]
  rw [e1]
  apply Int32.toBitVec_inj.mp
  apply BitVec.eq_of_getLsbD_eq
  intro i hi
  have hab : (nI a).toBitVec = BitVec.ofNat 32 a := rfl
  have hsb : (nI s).toBitVec = BitVec.ofNat 32 s := rfl
  have hxb : (nI (s ^^^ 4095)).toBitVec = BitVec.ofNat 32 (s ^^^ 4095) := rfl
  rw [Int32.toBitVec_and, Int32.toBitVec_and, Int32.toBitVec_not, hab, hsb, hxb, BitVec.getLsbD_and, BitVec.getLsbD_and, BitVec.getLsbD_not, BitVec.getLsbD_ofNat, BitVec.getLsbD_ofNat, BitVec.getLsbD_ofNat, Nat.testBit_xor]
  by_cases h12 : i < 12
  · have : Nat.testBit 4095 i = true := by
      have : ∀ j : Fin 12, Nat.testBit 4095 j.1 = true := by decide
      exact this ⟨i, h12⟩
    rw [this]
    simp [hi]
  · have : a.testBit i = false := Nat.testBit_lt_two_pow (Nat.lt_of_lt_of_le ha (Nat.pow_le_pow_right (n := 2) (by decide) (show 12 ≤ i by omega)))
    rw [this]
    simp
theorem andnot_lt {a s : Nat} (ha : a < 4096) : a &&& (s ^^^ 4095) < 4096 := Nat.lt_of_le_of_lt Nat.and_le_left ha
theorem andnot_tb {a s i : Nat} (hi : i < 12) : (a &&& (s ^^^ 4095)).testBit i = (a.testBit i && !s.testBit i) := by
  rw [Nat.testBit_and, Nat.testBit_xor]
  have : Nat.testBit 4095 i = true := by
    have : ∀ j : Fin 12, Nat.testBit 4095 j.1 = true := by decide
    exact this ⟨i, hi⟩
  rw [this]
  simp
/-- how many of a aren't in s -/
theorem bc_andnot {a s : Nat} (ha : a < 4096) (hs : s < 4096) : j_Integer_bitCount (nI a &&& (nI s ^^^ (-1))) = some (nI (cnt (fun x => a.testBit x && !s.testBit x) 12)) := by
  rw [nI_andnot ha hs, bc_eq (andnot_lt ha), pc_cnt]
  congr 2
  exact cnt_cong (fun i hi => andnot_tb hi)
/-- a sum over a set -/
def tsum (f : Nat → Int32) (s : Nat) : Nat → Int32
  | 0 => 0
  | i + 1 => if s.testBit i then tsum f s i + f i else tsum f s i
theorem tb_high {s M x : Nat} (hs : s < 2 ^ M) (hx : M ≤ x) : s.testBit x = false := Nat.testBit_lt_two_pow (Nat.lt_of_lt_of_le hs (Nat.pow_le_pow_right (by decide) hx))
theorem and0_iff {a b : Nat} (h : a < 4096) (hb : b < 4096) : (nI a &&& nI b = (0 : Int32)) ↔ ∀ x, x < 12 → ¬ (a.testBit x = true ∧ b.testBit x = true) := by
  rw [nI_and]
  have hlt : a &&& b < 4096 := Nat.lt_of_le_of_lt Nat.and_le_left h
  constructor
  · intro e x hx hc
    have : a &&& b = 0 := nI_inj (b := 0) (by omega) (by decide) e
    have h2 : (a &&& b).testBit x = true := by rw [Nat.testBit_and, hc.1, hc.2]; rfl
    rw [this] at h2
    simp at h2
  · intro hc
    have : a &&& b = 0 := by
      apply Nat.eq_of_testBit_eq
      intro i
      rw [Nat.testBit_and, Nat.zero_testBit]
      by_cases hi : i < 12
      · have := hc i hi
        cases h1 : a.testBit i <;> cases h2 : b.testBit i <;> simp_all
      · rw [tb_high (M := 12) h (by omega)]
        rfl
    rw [this]
    rfl
/-! what a choice is made of: how many, costs, marks, who is willing, who is guarded, who has which skill, which skills are wanted, how many are needed -/
abbrev CP : Type := Nat × (Nat → Int32) × (Nat → Int32) × (Nat → Bool) × (Nat → Bool) × (Nat → Nat → Bool) × Nat × Nat
def cAll (c : CP) (t : Nat) : Nat := cnt (fun x => c.2.2.2.2.2.1 t x) c.1
def cStay (c : CP) (s t : Nat) : Nat := cnt (fun x => c.2.2.2.2.2.1 t x && !s.testBit x) c.1
def cFor (c : CP) (s : Nat) : Nat := cnt (fun x => s.testBit x && !c.2.2.2.1 x) c.1
def cBar (c : CP) (s : Nat) : Bool := anyB (fun x => s.testBit x && (c.2.2.2.2.1 x && !c.2.2.2.1 x)) c.1
def cLack (c : CP) (s t : Nat) : Bool := c.2.2.2.2.2.2.1.testBit t && (decide (cStay c s t < c.2.2.2.2.2.2.2) && decide (cStay c s t < cAll c t))
def cOk (c : CP) (n s : Nat) : Bool := decide (pc s = n) && (!cBar c s && !anyB (cLack c s) 10)
def cBet (c : CP) (s b : Nat) : Bool := decide (cFor c s < cFor c b ∨ (cFor c s = cFor c b ∧ (tsum c.2.1 s c.1 < tsum c.2.1 b c.1 ∨ (tsum c.2.1 s c.1 = tsum c.2.1 b c.1 ∧ tsum c.2.2.1 s c.1 < tsum c.2.2.1 b c.1))))
def cUpd (c : CP) (s : Nat) (o : Option Nat) : Option Nat := if Option.elim o true (fun b => cBet c s b) then some s else o
theorem cUpd_n (c : CP) (s : Nat) : cUpd c s none = some s := rfl
theorem cUpd_t {c : CP} {s b : Nat} (h : cBet c s b = true) : cUpd c s (some b) = some s := by
  show (if cBet c s b = true then some s else some b) = some s
  rw [if_pos h]
theorem cUpd_f {c : CP} {s b : Nat} (h : ¬ cBet c s b = true) : cUpd c s (some b) = some b := by
  show (if cBet c s b = true then some s else some b) = some b
  rw [if_neg h]
/-- the best of the sets below s -/
def cBst (c : CP) (n : Nat) : Nat → Option Nat
  | 0 => none
  | s + 1 => if cOk c n s then cUpd c s (cBst c n s) else cBst c n s
theorem cBst_lt {c : CP} {n : Nat} : ∀ {s b : Nat}, cBst c n s = some b → b < s
  | 0, b, h => by cases h
  | s + 1, b, h => by
    unfold cBst at h
    split at h
    · unfold cUpd at h
      split at h
      · cases h; omega
      · have := cBst_lt h
        omega
    · have := cBst_lt h
      omega
