/-! bits of Int32 and of Nat -/
theorem sg_bt (n : Nat) {i : Nat} (hi : i < 32) : bt (nI n) i = n.testBit i := by
  show (BitVec.ofNat 32 n).getLsbD i = _
  rw [BitVec.getLsbD_ofNat, decide_eq_true hi, Bool.true_and]
theorem sg_or (a b : Nat) : nI a ||| nI b = nI (a ||| b) := by
  apply b_ext
  intro i hi
  rw [b_or, sg_bt _ hi, sg_bt _ hi, sg_bt _ hi, Nat.testBit_or]
/-- a without b -/
def sg_an (a b : Nat) : Nat := a ^^^ (a &&& b)
theorem sg_anb (a b i : Nat) : (sg_an a b).testBit i = (a.testBit i && !b.testBit i) := by
  unfold sg_an
  rw [Nat.testBit_xor, Nat.testBit_and]
  cases a.testBit i <;> cases b.testBit i <;> rfl
theorem sg_andn (a b : Nat) : nI a &&& (nI b ^^^ (-1)) = nI (sg_an a b) := by
  apply b_ext
  intro i hi
  rw [b_and, b_xor, b_m1 i hi, sg_bt _ hi, sg_bt _ hi, sg_bt _ hi, sg_anb]
  cases a.testBit i <;> cases b.testBit i <;> rfl
theorem sg_anc (a b c : Nat) : sg_an (sg_an a b) c = sg_an (sg_an a c) b := by
  apply Nat.eq_of_testBit_eq
  intro i
  rw [sg_anb, sg_anb, sg_anb, sg_anb]
  cases a.testBit i <;> cases b.testBit i <;> cases c.testBit i <;> rfl
theorem sg_an0 (b : Nat) : sg_an 0 b = 0 := by
  apply Nat.eq_of_testBit_eq
  intro i
  rw [sg_anb, Nat.zero_testBit]
  rfl
/-- every bit of a is one of b -/
def sg_sub (a b : Nat) : Prop := ∀ i, a.testBit i = true → b.testBit i = true
theorem sg_sub_r (a : Nat) : sg_sub a a := fun _ h => h
theorem sg_sub_an (a b : Nat) : sg_sub (sg_an a b) a := by
  intro i h
  rw [sg_anb] at h
  cases ha : a.testBit i
  · rw [ha] at h; exact absurd h (by simp)
  · rfl
theorem sg_sub_t {a b c : Nat} (h : sg_sub a b) (k : sg_sub b c) : sg_sub a c := fun i z => k i (h i z)
theorem sg_sub_and {a b : Nat} (h : sg_sub a b) : a &&& b = a := by
  apply Nat.eq_of_testBit_eq
  intro i
  rw [Nat.testBit_and]
  cases ha : a.testBit i
  · rfl
  · rw [h i ha]; rfl
theorem sg_sub_of {a b : Nat} (h : a &&& b = a) : sg_sub a b := by
  intro i z
  rw [← h, Nat.testBit_and] at z
  cases hb : b.testBit i
  · rw [hb] at z; cases ha : a.testBit i <;> rw [ha] at z <;> exact absurd z (by simp)
  · rfl
theorem sg_sub_le {a b : Nat} (h : sg_sub a b) : a ≤ b := by
  rw [← sg_sub_and h]
  exact Nat.and_le_right
theorem sg_sub0 (a : Nat) : sg_sub 0 a := by
  intro i h
  rw [Nat.zero_testBit] at h
  exact absurd h (by simp)
theorem sg_an_le (a b : Nat) : sg_an a b ≤ a := sg_sub_le (sg_sub_an a b)
theorem sg_an_0 {a b : Nat} : sg_an a b = 0 ↔ sg_sub a b := by
  constructor
  · intro h i z
    have := sg_anb a b i
    rw [h, Nat.zero_testBit, z] at this
    cases hb : b.testBit i
    · rw [hb] at this; exact absurd this (by simp)
    · rfl
  · intro h
    apply Nat.eq_of_testBit_eq
    intro i
    rw [sg_anb, Nat.zero_testBit]
    cases ha : a.testBit i
    · rfl
    · rw [h i ha]; rfl
theorem sg_an_lt {a b i : Nat} (h : a.testBit i = true) (k : b.testBit i = true) : sg_an a b < a := by
  have h1 := sg_an_le a b
  have h2 : sg_an a b ≠ a := by
    intro e
    have := sg_anb a b i
    rw [e, h, k] at this
    exact absurd this (by simp)
  omega
theorem sg_and0 {a b : Nat} : a &&& b = 0 ↔ ∀ i, a.testBit i = true → b.testBit i = false := by
  constructor
  · intro h i z
    have : (a &&& b).testBit i = false := by rw [h, Nat.zero_testBit]
    rw [Nat.testBit_and, z] at this
    cases hb : b.testBit i
    · rfl
    · rw [hb] at this; exact absurd this (by simp)
  · intro h
    apply Nat.eq_of_testBit_eq
    intro i
    rw [Nat.testBit_and, Nat.zero_testBit]
    cases ha : a.testBit i
    · rfl
    · rw [h i ha]; rfl
theorem sg_n0 {a : Nat} (h : a ≠ 0) : ∃ i, a.testBit i = true := Nat.exists_testBit_of_ne_zero h
theorem sg_0 {a : Nat} (h : ∀ i, a.testBit i = false) : a = 0 := by
  apply Nat.eq_of_testBit_eq
  intro i
  rw [h i, Nat.zero_testBit]
theorem sg_p31 {s : Nat} (hs : s < 31) : 2 ^ s < 2 ^ 31 := Nat.pow_lt_pow_right (by decide) hs
theorem sg_s1 {s : Nat} (hs : s < 31) : (1 : Int32) <<< (nI s &&& 31) = nI (2 ^ s) := by
  have h := sg_p31 hs
  have e := pk_shlN (n := 1) (nI s &&& 31) s (s_l s (by omega)) (by omega)
  rw [Nat.one_mul] at e
  exact e
theorem sg_b1 : ∀ i, i < 32 → bt (1 : Int32) i = decide (i = 0) := by decide +kernel
theorem sg_bn (b : Bool) : ∀ i, i < 32 → bt (nI b.toNat) i = (decide (i = 0) && b) := by
  cases b <;> decide +kernel
/-- one bit: (x >> s) & 1 -/
theorem sg_bit (x : Int32) {s : Nat} (hs : s < 32) : (x >>> (nI s &&& 31)) &&& 1 = nI (bt x s).toNat := by
  apply b_ext
  intro i hi
  rw [b_and, b_sshr s hs x hi, sg_b1 i hi, sg_bn _ i hi]
  by_cases h : i = 0
  · subst h
    rw [if_pos (by omega)]
    simp
  · simp [h]
theorem sg_bitN (x : Nat) {s : Nat} (hs : s < 32) : (nI x >>> (nI s &&& 31)) &&& 1 = nI (x.testBit s).toNat := by
  rw [sg_bit _ hs, sg_bt _ hs]
theorem sg_tl (b : Bool) : b.toNat < 2 ^ 31 := by cases b <;> decide
theorem sg_t1 {b : Bool} : nI b.toNat = 1 ↔ b = true := by cases b <;> decide +kernel
theorem sg_t0 {b : Bool} : nI b.toNat = 0 ↔ b = false := by cases b <;> decide +kernel
theorem sg_te {a b : Bool} : nI a.toNat = nI b.toNat ↔ a = b := by cases a <;> cases b <;> decide +kernel
theorem sg_toNat_lt (b : Bool) : b.toNat < 2 := by cases b <;> decide
theorem sg_16 {x : Nat} : x < 65536 ↔ ∀ i, 16 ≤ i → x.testBit i = false := by
  constructor
  · intro h i hi
    exact Nat.testBit_lt_two_pow (Nat.lt_of_lt_of_le h (Nat.pow_le_pow_right (by decide) hi : 2 ^ 16 ≤ 2 ^ i))
  · intro h
    exact Nat.lt_pow_two_of_testBit (n := 16) x h
