section
theorem pk_us {f : Nat → Int32} {k : Nat} {x : Int32} : upd f k x k = x := if_pos rfl
theorem pk_un {f : Nat → Int32} {k j : Nat} {x : Int32} (h : j ≠ k) : upd f k x j = f j := if_neg h
theorem pk_sub {a b : Nat} (h : b ≤ a) : nI a - nI b = nI (a - b) := by
  obtain ⟨c, rfl⟩ : ∃ c, a = c + b := ⟨a - b, by omega⟩
  rw [← nI_add, Int32.add_sub_cancel, Nat.add_sub_cancel]
theorem pk_m1 (n : Nat) : nI (n + 1) + (-1) = nI n := by
  rw [← nI_1, Int32.add_assoc, show (1 : Int32) + (-1) = 0 from rfl, Int32.add_zero]
theorem pk_mul (a b : Nat) : nI a * nI b = nI (a * b) := (Int32.ofNat_mul a b).symm
theorem pk_div {a d : Nat} (ha : a < 2 ^ 31) (h0 : 0 < d) (hd : d < 2 ^ 31) : nI a / nI d = nI (a / d) := by
  apply Int32.toInt_inj.mp
  rw [lg_idiv_nonneg (by rw [nI_toInt ha]; omega) (by rw [nI_toInt hd]; omega), nI_toInt ha, nI_toInt hd, nI_toInt (Nat.lt_of_le_of_lt (Nat.div_le_self a d) ha)]
  first | rfl | exact (Int.natCast_ediv _ _).symm
theorem pk_rem {a d : Nat} (ha : a < 2 ^ 31) (h0 : 0 < d) (hd : d < 2 ^ 31) : nI a - nI a / nI d * nI d = nI (a % d) := by
  rw [pk_div ha h0 hd, pk_mul, pk_sub (Nat.div_mul_le_self a d)]
  exact congrArg nI (by have := Nat.div_add_mod' a d; omega)
theorem pk_ix (x : Int32) {n : Nat} (hn : n < 2 ^ 31) : x < 0 ∨ nI n ≤ x ∨ ∃ j : Nat, j < n ∧ x = nI j := by
  by_cases h : x < 0
  · exact Or.inl h
  · obtain ⟨j, hj, rfl⟩ := nI_of h
    by_cases h2 : j < n
    · exact Or.inr (Or.inr ⟨j, h2, rfl⟩)
    · exact Or.inr (Or.inl (nI_le (by omega) hj))
theorem pk_le {x y : Int32} {A B : Prop} (a b : Nat) (f : a ≤ b → A) (g : b < a → B) (hx : x = nI a := by rfl) (hy : y = nI b := by rfl) (ha : a < 2 ^ 31 := by omega) (hb : b < 2 ^ 31 := by omega) : (x ≤ y → A) ∧ (¬ x ≤ y → B) := by
  subst hx hy
  rw [nI_leI ha hb]
  exact ⟨f, fun z => g (by omega)⟩
theorem pk_lt {x y : Int32} {A B : Prop} (a b : Nat) (f : a < b → A) (g : b ≤ a → B) (hx : x = nI a := by rfl) (hy : y = nI b := by rfl) (ha : a < 2 ^ 31 := by omega) (hb : b < 2 ^ 31 := by omega) : (x < y → A) ∧ (¬ x < y → B) := by
  subst hx hy
  rw [nI_ltI ha hb]
  exact ⟨f, fun z => g (by omega)⟩
theorem pk_eq {x y : Int32} {A B : Prop} (a b : Nat) (f : a = b → A) (g : a ≠ b → B) (hx : x = nI a := by rfl) (hy : y = nI b := by rfl) (ha : a < 2 ^ 31 := by omega) (hb : b < 2 ^ 31 := by omega) : (x = y → A) ∧ (¬ x = y → B) := by
  subst hx hy
  rw [nI_eq ha hb]
  exact ⟨f, g⟩
theorem pk_in {x : Int32} (n N : Nat) (h : n < N) (hx : x = nI n := by rfl) (hN : N < 2 ^ 31 := by omega) : vp_in x N := by
  subst hx
  exact vp_in_nI h hN
theorem pk_cl {x : Int32} (n : Nat) (hx : x = nI n := by rfl) (h : n < 2 ^ 31 := by omega) : x.toNatClampNeg = n := by
  subst hx
  exact nI_clamp h
theorem pk_tn {n : Nat} (h : n < 2 ^ 32) : (nI n).toBitVec.toNat = n := Nat.mod_eq_of_lt h
theorem pk_shl (a s : Int32) (k : Nat) (hs : (s.toBitVec.smod 32).toNat = k) : (a <<< s).toBitVec.toNat = a.toBitVec.toNat * 2 ^ k % 2 ^ 32 := by
  show (a.toBitVec <<< (s.toBitVec.smod 32).toNat).toNat = _
  rw [hs, BitVec.toNat_shiftLeft, Nat.shiftLeft_eq]
theorem pk_shlN {n : Nat} (s : Int32) (k : Nat) (hs : (s.toBitVec.smod 32).toNat = k) (h : n * 2 ^ k < 2 ^ 32) : nI n <<< s = nI (n * 2 ^ k) := by
  apply Int32.toBitVec_inj.mp
  apply BitVec.eq_of_toNat_eq
  have hn : n < 2 ^ 32 := Nat.lt_of_le_of_lt (Nat.le_mul_of_pos_right n (Nat.two_pow_pos k)) h
  rw [pk_shl _ _ k hs, pk_tn hn, pk_tn h, Nat.mod_eq_of_lt h]
theorem pk_shr (a s : Int32) (k : Nat) (hs : (s.toBitVec.smod 32).toNat = k) : (a >>> s).toInt = a.toInt >>> k := by
  show (a.toBitVec.sshiftRight (s.toBitVec.smod 32).toNat).toInt = _
  rw [hs, BitVec.toInt_sshiftRight]
  rfl
theorem pk_shrN {n : Nat} (h : n < 2 ^ 31) (s : Int32) (k : Nat) (hs : (s.toBitVec.smod 32).toNat = k) : nI n >>> s = nI (n / 2 ^ k) := by
  apply Int32.toInt_inj.mp
  have h2 : n / 2 ^ k ≤ n := Nat.div_le_self _ _
  rw [pk_shr _ _ k hs, nI_toInt h, nI_toInt (by omega), Int.shiftRight_eq_div_pow]
  rfl
theorem pk_loop {σ : Type} (W : Nat → Nat → σ → Prop) (I : Nat → σ → Prop) (e i0 : Nat) (s : σ) (hi : i0 ≤ e) (h0 : I i0 s) (hx : ∀ n s, I e s → W (n + 1) e s)
    (hs : ∀ n i s, i < e → I i s → (∀ s', I (i + 1) s' → W n (i + 1) s') → W (n + 1) i s) : ∃ n, W n i0 s :=
  ⟨e + 1, loop_i W I e hx hs (e + 1) i0 s hi (by omega) h0⟩
theorem pk_loopD {σ : Type} (W : Nat → Nat → σ → Prop) (I : Nat → σ → Prop) (hx : ∀ n s, I 0 s → W (n + 1) 0 s)
    (hs : ∀ n i s, I (i + 1) s → (∀ s', I i s' → W n i s') → W (n + 1) (i + 1) s) : ∀ (e : Nat) (s : σ), I e s → W (e + 1) e s := by
  intro e
  induction e with
  | zero => exact fun s h => hx 0 s h
  | succ e ih => exact fun s h => hs (e + 1) e s h (fun s' h' => ih s' h')
theorem lp1 {A1 : Type} (W : Nat → A1 → Prop) (I : A1 → Prop) (μ : A1 → Nat) (hs : ∀ (n : Nat) (a1 : A1), I a1 → (∀ (b1 : A1), I b1 → μ b1 < μ a1 → W n b1) → W (n + 1) a1) (a1 : A1) (h : I a1) : ∃ n, W n a1 :=
  loop_m (σ := A1) (fun n s => W n s) (fun s => I s) (fun s => μ s) (fun n s hI hk => hs n s hI (fun b1 h9 hm => hk b1 h9 hm)) a1 h
theorem pk_least (P : Nat → Prop) (h : ∃ k, P k) : ∃ k, P k ∧ ∀ j, j < k → ¬ P j := by
  obtain ⟨k, hk⟩ := h
  induction k using Nat.strongRecOn with
  | ind k ih =>
    by_cases e : ∃ j, j < k ∧ P j
    · obtain ⟨j, hj, pj⟩ := e
      exact ih j hj pj
    · exact ⟨k, hk, fun j hj pj => e ⟨j, hj, pj⟩⟩
def bt (x : Int32) (i : Nat) : Bool := x.toBitVec.getLsbD i
theorem b_ext {x y : Int32} (h : ∀ i, i < 32 → bt x i = bt y i) : x = y := Int32.toBitVec_inj.mp (BitVec.eq_of_getLsbD_eq (fun i hi => h i hi))
theorem b_or (x y : Int32) (i : Nat) : bt (x ||| y) i = (bt x i || bt y i) := by unfold bt; rw [Int32.toBitVec_or, BitVec.getLsbD_or]
theorem b_and (x y : Int32) (i : Nat) : bt (x &&& y) i = (bt x i && bt y i) := by unfold bt; rw [Int32.toBitVec_and, BitVec.getLsbD_and]
theorem b_xor (x y : Int32) (i : Nat) : bt (x ^^^ y) i = (bt x i ^^ bt y i) := by unfold bt; rw [Int32.toBitVec_xor, BitVec.getLsbD_xor]
theorem b_big {x : Int32} {i : Nat} (h : 32 ≤ i) : bt x i = false := BitVec.getLsbD_of_ge _ _ h
theorem b_m1 : ∀ i, i < 32 → bt (-1) i = true := by decide +kernel
theorem b_0 (i : Nat) : bt 0 i = false := BitVec.getLsbD_zero
theorem s_l : ∀ n, n < 32 → ((nI n &&& 31).toBitVec.smod 32).toNat = n := by decide +kernel
theorem b_shl (n : Nat) (hn : n < 32) (x : Int32) {i : Nat} (hi : i < 32) : bt (x <<< (nI n &&& 31)) i = (decide (n ≤ i) && bt x (i - n)) := by
  unfold bt
  rw [Int32.toBitVec_shiftLeft]
  show (x.toBitVec <<< ((nI n &&& 31).toBitVec.smod 32).toNat).getLsbD i = _
  rw [s_l n hn, BitVec.getLsbD_shiftLeft]
  rcases Nat.lt_or_ge i n with h | h
  · simp [h, Nat.not_le.mpr h]
  · simp [hi, h, Nat.not_lt.mpr h]
theorem b_sshr (n : Nat) (hn : n < 32) (x : Int32) {i : Nat} (hi : i < 32) : bt (x >>> (nI n &&& 31)) i = if n + i < 32 then bt x (n + i) else bt x 31 := by
  unfold bt
  rw [Int32.toBitVec_shiftRight]
  show (x.toBitVec.sshiftRight ((nI n &&& 31).toBitVec.smod 32).toNat).getLsbD i = _
  rw [s_l n hn, BitVec.getLsbD_sshiftRight, BitVec.msb_eq_getLsbD_last]
  simp [hi]
theorem nx_and (a b : Nat) : nI a &&& nI b = nI (a &&& b) := by
  apply Int32.toBitVec_inj.1
  show BitVec.ofNat 32 a &&& BitVec.ofNat 32 b = BitVec.ofNat 32 (a &&& b)
  apply BitVec.eq_of_getLsbD_eq
  intro i hi
  simp [hi]
theorem nx_xor (a b : Nat) : nI a ^^^ nI b = nI (a ^^^ b) := by
  apply Int32.toBitVec_inj.1
  show BitVec.ofNat 32 a ^^^ BitVec.ofNat 32 b = BitVec.ofNat 32 (a ^^^ b)
  apply BitVec.eq_of_getLsbD_eq
  intro i hi
  simp [hi]
end
section
/-! bits of Int32 and of Nat -/
theorem sg_bt (n : Nat) {i : Nat} (hi : i < 32) : bt (nI n) i = n.testBit i := by
  show (BitVec.ofNat 32 n).getLsbD i = _
  rw [BitVec.getLsbD_ofNat, decide_eq_true hi, Bool.true_and]
theorem sg_or (a b : Nat) : nI a ||| nI b = nI (a ||| b) := by
  apply b_ext
  intro i hi
  rw [b_or, sg_bt _ hi, sg_bt _ hi, sg_bt _ hi, Nat.testBit_or]
/-- a without b -/
def sg_an (a b : Nat) : Nat := a ^^^ (a &&& b)
theorem sg_anb (a b i : Nat) : (sg_an a b).testBit i = (a.testBit i && !b.testBit i) := by
  unfold sg_an
  rw [Nat.testBit_xor, Nat.testBit_and]
  cases a.testBit i <;> cases b.testBit i <;> rfl
theorem sg_andn (a b : Nat) : nI a &&& (nI b ^^^ (-1)) = nI (sg_an a b) := by
  apply b_ext
  intro i hi
  rw [b_and, b_xor, b_m1 i hi, sg_bt _ hi, sg_bt _ hi, sg_bt _ hi, sg_anb]
  cases a.testBit i <;> cases b.testBit i <;> rfl
theorem sg_anc (a b c : Nat) : sg_an (sg_an a b) c = sg_an (sg_an a c) b := by
  apply Nat.eq_of_testBit_eq
  intro i
  rw [sg_anb, sg_anb, sg_anb, sg_anb]
  cases a.testBit i <;> cases b.testBit i <;> cases c.testBit i <;> rfl
theorem sg_an0 (b : Nat) : sg_an 0 b = 0 := by
  apply Nat.eq_of_testBit_eq
  intro i
  rw [sg_anb, Nat.zero_testBit]
  rfl
/-- every bit of a is one of b -/
def sg_sub (a b : Nat) : Prop := ∀ i, a.testBit i = true → b.testBit i = true
theorem sg_sub_r (a : Nat) : sg_sub a a := fun _ h => h
theorem sg_sub_an (a b : Nat) : sg_sub (sg_an a b) a := by
  intro i h
  rw [sg_anb] at h
  cases ha : a.testBit i
  · rw [ha] at h; exact absurd h (by simp)
  · rfl
theorem sg_sub_t {a b c : Nat} (h : sg_sub a b) (k : sg_sub b c) : sg_sub a c := fun i z => k i (h i z)
theorem sg_sub_and {a b : Nat} (h : sg_sub a b) : a &&& b = a := by
  apply Nat.eq_of_testBit_eq
  intro i
  rw [Nat.testBit_and]
  cases ha : a.testBit i
  · rfl
  · rw [h i ha]; rfl
theorem sg_sub_of {a b : Nat} (h : a &&& b = a) : sg_sub a b := by
  intro i z
  rw [← h, Nat.testBit_and] at z
  cases hb : b.testBit i
  · rw [hb] at z; cases ha : a.testBit i <;> rw [ha] at z <;> exact absurd z (by simp)
  · rfl
theorem sg_sub_le {a b : Nat} (h : sg_sub a b) : a ≤ b := by
  rw [← sg_sub_and h]
  exact Nat.and_le_right
theorem sg_sub0 (a : Nat) : sg_sub 0 a := by
  intro i h
  rw [Nat.zero_testBit] at h
  exact absurd h (by simp)
theorem sg_an_le (a b : Nat) : sg_an a b ≤ a := sg_sub_le (sg_sub_an a b)
theorem sg_an_0 {a b : Nat} : sg_an a b = 0 ↔ sg_sub a b := by
  constructor
  · intro h i z
    have := sg_anb a b i
    rw [h, Nat.zero_testBit, z] at this
    cases hb : b.testBit i
    · rw [hb] at this; exact absurd this (by simp)
    · rfl
  · intro h
    apply Nat.eq_of_testBit_eq
    intro i
    rw [sg_anb, Nat.zero_testBit]
    cases ha : a.testBit i
    · rfl
    · rw [h i ha]; rfl
theorem sg_an_lt {a b i : Nat} (h : a.testBit i = true) (k : b.testBit i = true) : sg_an a b < a := by
  have h1 := sg_an_le a b
  have h2 : sg_an a b ≠ a := by
    intro e
    have := sg_anb a b i
    rw [e, h, k] at this
    exact absurd this (by simp)
  omega
theorem sg_and0 {a b : Nat} : a &&& b = 0 ↔ ∀ i, a.testBit i = true → b.testBit i = false := by
  constructor
  · intro h i z
    have : (a &&& b).testBit i = false := by rw [h, Nat.zero_testBit]
    rw [Nat.testBit_and, z] at this
    cases hb : b.testBit i
    · rfl
    · rw [hb] at this; exact absurd this (by simp)
  · intro h
    apply Nat.eq_of_testBit_eq
    intro i
    rw [Nat.testBit_and, Nat.zero_testBit]
    cases ha : a.testBit i
    · rfl
    · rw [h i ha]; rfl
theorem sg_n0 {a : Nat} (h : a ≠ 0) : ∃ i, a.testBit i = true := Nat.exists_testBit_of_ne_zero h
theorem sg_0 {a : Nat} (h : ∀ i, a.testBit i = false) : a = 0 := by
  apply Nat.eq_of_testBit_eq
  intro i
  rw [h i, Nat.zero_testBit]
theorem sg_p31 {s : Nat} (hs : s < 31) : 2 ^ s < 2 ^ 31 := Nat.pow_lt_pow_right (by decide) hs
theorem sg_s1 {s : Nat} (hs : s < 31) : (1 : Int32) <<< (nI s &&& 31) = nI (2 ^ s) := by
  have h := sg_p31 hs
  have e := pk_shlN (n := 1) (nI s &&& 31) s (s_l s (by omega)) (by omega)
  rw [Nat.one_mul] at e
  exact e
theorem sg_b1 : ∀ i, i < 32 → bt (1 : Int32) i = decide (i = 0) := by decide +kernel
theorem sg_bn (b : Bool) : ∀ i, i < 32 → bt (nI b.toNat) i = (decide (i = 0) && b) := by
  cases b <;> decide +kernel
/-- one bit: (x >> s) & 1 -/
theorem sg_bit (x : Int32) {s : Nat} (hs : s < 32) : (x >>> (nI s &&& 31)) &&& 1 = nI (bt x s).toNat := by
  apply b_ext
  intro i hi
  rw [b_and, b_sshr s hs x hi, sg_b1 i hi, sg_bn _ i hi]
  by_cases h : i = 0
  · subst h
    rw [if_pos (by omega)]
    simp
  · simp [h]
theorem sg_bitN (x : Nat) {s : Nat} (hs : s < 32) : (nI x >>> (nI s &&& 31)) &&& 1 = nI (x.testBit s).toNat := by
  rw [sg_bit _ hs, sg_bt _ hs]
theorem sg_tl (b : Bool) : b.toNat < 2 ^ 31 := by cases b <;> decide
theorem sg_t1 {b : Bool} : nI b.toNat = 1 ↔ b = true := by cases b <;> decide +kernel
theorem sg_t0 {b : Bool} : nI b.toNat = 0 ↔ b = false := by cases b <;> decide +kernel
theorem sg_te {a b : Bool} : nI a.toNat = nI b.toNat ↔ a = b := by cases a <;> cases b <;> decide +kernel
theorem sg_toNat_lt (b : Bool) : b.toNat < 2 := by cases b <;> decide
theorem sg_16 {x : Nat} : x < 65536 ↔ ∀ i, 16 ≤ i → x.testBit i = false := by
  constructor
  · intro h i hi
    exact Nat.testBit_lt_two_pow (Nat.lt_of_lt_of_le h (Nat.pow_le_pow_right (by decide) hi : 2 ^ 16 ≤ 2 ^ i))
  · intro h
    exact Nat.lt_pow_two_of_testBit (n := 16) x h
end
section
/-! counting, searching, least ones -/
def ct_n (f : Nat → Bool) : Nat → Nat
  | 0 => 0
  | n + 1 => ct_n f n + (f n).toNat
theorem ct_le (f : Nat → Bool) (n : Nat) : ct_n f n ≤ n := by
  induction n with
  | zero => exact Nat.le_refl _
  | succ n ih =>
    have := sg_toNat_lt (f n)
    show ct_n f n + (f n).toNat ≤ n + 1
    omega
theorem ct_mono (f : Nat → Bool) {a b : Nat} (h : a ≤ b) : ct_n f a ≤ ct_n f b := by
  induction b with
  | zero =>
    have : a = 0 := by omega
    subst this
    exact Nat.le_refl _
  | succ b ih =>
    by_cases e : a = b + 1
    · subst e; exact Nat.le_refl _
    · have := ih (by omega)
      show ct_n f a ≤ ct_n f b + (f b).toNat
      omega
theorem ct_congr {f g : Nat → Bool} {n : Nat} (h : ∀ i, i < n → f i = g i) : ct_n f n = ct_n g n := by
  induction n with
  | zero => rfl
  | succ n ih =>
    show ct_n f n + (f n).toNat = ct_n g n + (g n).toNat
    rw [ih (fun i hi => h i (by omega)), h n (by omega)]
theorem ct_sub {f g : Nat → Bool} {n : Nat} (h : ∀ i, i < n → f i = true → g i = true) : ct_n f n ≤ ct_n g n := by
  induction n with
  | zero => exact Nat.le_refl _
  | succ n ih =>
    have h1 := ih (fun i hi => h i (by omega))
    have h2 : (f n).toNat ≤ (g n).toNat := by
      cases hf : f n
      · exact Nat.zero_le _
      · rw [h n (by omega) hf]; exact Nat.le_refl _
    show ct_n f n + (f n).toNat ≤ ct_n g n + (g n).toNat
    omega
theorem ct_lt {f g : Nat → Bool} {n k : Nat} (h : ∀ i, i < n → f i = true → g i = true) (hk : k < n) (h0 : f k = false) (h1 : g k = true) : ct_n f n < ct_n g n := by
  induction n with
  | zero => omega
  | succ n ih =>
    have h3 : ct_n f n ≤ ct_n g n := ct_sub (fun i hi => h i (by omega))
    show ct_n f n + (f n).toNat < ct_n g n + (g n).toNat
    by_cases e : k = n
    · subst e
      rw [h0, h1]
      show ct_n f k + 0 < ct_n g k + 1
      omega
    · have h2 : (f n).toNat ≤ (g n).toNat := by
        cases hf : f n
        · exact Nat.zero_le _
        · rw [h n (by omega) hf]; exact Nat.le_refl _
      have := ih (fun i hi => h i (by omega)) (by omega)
      omega
def ct_u (f : Nat → Bool) (k : Nat) : Nat → Bool := fun j => if j = k then true else f j
theorem ct_us (f : Nat → Bool) (k : Nat) : ct_u f k k = true := if_pos rfl
theorem ct_un (f : Nat → Bool) {k j : Nat} (h : j ≠ k) : ct_u f k j = f j := if_neg h
theorem ct_uo (f : Nat → Bool) (k j : Nat) (h : f j = true) : ct_u f k j = true := by
  by_cases e : j = k
  · subst e; exact ct_us f j
  · rw [ct_un f e, h]
theorem ct_add {f : Nat → Bool} {n k : Nat} (hk : k < n) (h0 : f k = false) : ct_n (ct_u f k) n = ct_n f n + 1 := by
  induction n with
  | zero => omega
  | succ n ih =>
    show ct_n (ct_u f k) n + (ct_u f k n).toNat = ct_n f n + (f n).toNat + 1
    by_cases e : k = n
    · subst e
      rw [ct_us, h0, ct_congr (f := ct_u f k) (g := f) (fun i hi => ct_un f (by omega))]
      rfl
    · rw [ih (by omega), ct_un f (by omega)]
      omega
theorem ct_full {f : Nat → Bool} {n k : Nat} (hk : k < n) (h0 : f k = false) : ct_n f n < n := by
  have h1 := ct_add hk h0
  have h2 := ct_le (ct_u f k) n
  omega
theorem ct_enum {f : Nat → Bool} {n k : Nat} (h : k < ct_n f n) : ∃ q, q < n ∧ f q = true ∧ ct_n f q = k := by
  induction n with
  | zero => exact absurd h (Nat.not_lt_zero _)
  | succ n ih =>
    by_cases e : k < ct_n f n
    · obtain ⟨q, h1, h2, h3⟩ := ih e
      exact ⟨q, by omega, h2, h3⟩
    · have h' : k < ct_n f n + (f n).toNat := h
      have := sg_toNat_lt (f n)
      cases hf : f n
      · rw [hf] at h'
        have h'' : k < ct_n f n + 0 := h'
        omega
      · exact ⟨n, by omega, hf, by omega⟩
theorem ct_pos {f : Nat → Bool} {n q : Nat} (hq : q < n) (hf : f q = true) : ct_n f q < ct_n f n := by
  have h1 := ct_mono f (a := q + 1) (b := n) hq
  have h2 : ct_n f (q + 1) = ct_n f q + 1 := by
    show ct_n f q + (f q).toNat = _
    rw [hf]; rfl
  omega
theorem ct_inj {f : Nat → Bool} {a b : Nat} (ha : f a = true) (hb : f b = true) (h : ct_n f a = ct_n f b) : a = b := by
  rcases Nat.lt_or_ge a b with h1 | h1
  · have := ct_pos h1 ha; omega
  · rcases Nat.lt_or_ge b a with h2 | h2
    · have := ct_pos h2 hb; omega
    · omega
/-- is there one below n -/
def ex_n (f : Nat → Bool) : Nat → Bool
  | 0 => false
  | n + 1 => ex_n f n || f n
theorem ex_iff {f : Nat → Bool} {n : Nat} : ex_n f n = true ↔ ∃ i, i < n ∧ f i = true := by
  induction n with
  | zero => exact ⟨fun h => (Bool.false_ne_true h).elim, fun ⟨i, hi, _⟩ => absurd hi (Nat.not_lt_zero _)⟩
  | succ n ih =>
    show (ex_n f n || f n) = true ↔ _
    rw [Bool.or_eq_true, ih]
    constructor
    · rintro (⟨i, hi, h⟩ | h)
      · exact ⟨i, by omega, h⟩
      · exact ⟨n, by omega, h⟩
    · rintro ⟨i, hi, h⟩
      by_cases e : i = n
      · subst e; exact Or.inr h
      · exact Or.inl ⟨i, by omega, h⟩
theorem ex_not {f : Nat → Bool} {n : Nat} : ex_n f n = false ↔ ∀ i, i < n → f i = false := by
  constructor
  · intro h i hi
    cases hf : f i
    · rfl
    · have := ex_iff.mpr ⟨i, hi, hf⟩
      rw [h] at this
      exact absurd this (by simp)
  · intro h
    cases he : ex_n f n
    · rfl
    · obtain ⟨i, hi, hf⟩ := ex_iff.mp he
      rw [h i hi] at hf
      exact absurd hf (by simp)
theorem ex_congr {f g : Nat → Bool} {n : Nat} (h : ∀ i, i < n → f i = g i) : ex_n f n = ex_n g n := by
  induction n with
  | zero => rfl
  | succ n ih =>
    show (ex_n f n || f n) = (ex_n g n || g n)
    rw [ih (fun i hi => h i (by omega)), h n (by omega)]
/-- all below n -/
def al_n (f : Nat → Bool) (n : Nat) : Bool := !(ex_n (fun i => !(f i)) n)
theorem al_iff {f : Nat → Bool} {n : Nat} : al_n f n = true ↔ ∀ i, i < n → f i = true := by
  unfold al_n
  rw [Bool.not_eq_true', ex_not]
  constructor
  · intro h i hi
    have := h i hi
    cases hf : f i
    · rw [hf] at this; exact absurd this (by simp)
    · rfl
  · intro h i hi
    rw [h i hi]; rfl
theorem al_not {f : Nat → Bool} {n : Nat} : al_n f n = false ↔ ∃ i, i < n ∧ f i = false := by
  unfold al_n
  rw [Bool.not_eq_false', ex_iff]
  constructor
  · rintro ⟨i, hi, h⟩
    refine ⟨i, hi, ?_⟩
    cases hf : f i
    · rfl
    · rw [hf] at h; exact absurd h (by simp)
  · rintro ⟨i, hi, h⟩
    exact ⟨i, hi, by rw [h]; rfl⟩
theorem al_congr {f g : Nat → Bool} {n : Nat} (h : ∀ i, i < n → f i = g i) : al_n f n = al_n g n := by
  unfold al_n
  rw [ex_congr (f := fun i => !(f i)) (g := fun i => !(g i)) (fun i hi => by rw [h i hi])]
theorem bo_iff {a b : Bool} (h : a = true ↔ b = true) : a = b := by
  cases a <;> cases b
  · rfl
  · exact absurd (h.mpr rfl) (by simp)
  · exact absurd (h.mp rfl) (by simp)
  · rfl
theorem bo_nt {a : Bool} (h : ¬ a = true) : a = false := by
  cases a
  · rfl
  · exact absurd rfl h
theorem bo_nf {a : Bool} (h : ¬ a = false) : a = true := by
  cases a
  · exact absurd rfl h
  · rfl
/-- r is the least one below n, or -1 -/
def ls_n (f : Nat → Bool) (n : Nat) (r : Int32) : Prop := (r = -1 ∧ ∀ i, i < n → f i = false) ∨ ∃ k, k < n ∧ r = nI k ∧ f k = true ∧ ∀ i, i < k → f i = false
theorem ls_uniq {f : Nat → Bool} {n : Nat} {a b : Int32} (ha : ls_n f n a) (hb : ls_n f n b) : a = b := by
  rcases ha with ⟨ea, h⟩ | ⟨k, hk, ea, hf, h⟩
  · rcases hb with ⟨eb, _⟩ | ⟨j, hj, eb, hg, _⟩
    · rw [ea, eb]
    · rw [h j hj] at hg; exact absurd hg (by simp)
  · rcases hb with ⟨eb, g⟩ | ⟨j, hj, eb, hg, g⟩
    · rw [g k hk] at hf; exact absurd hf (by simp)
    · have : k = j := by
        rcases Nat.lt_or_ge k j with z | z
        · rw [g k z] at hf; exact absurd hf (by simp)
        · rcases Nat.lt_or_ge j k with y | y
          · rw [h j y] at hg; exact absurd hg (by simp)
          · omega
      rw [ea, eb, this]
theorem ls_congr {f g : Nat → Bool} {n : Nat} {r : Int32} (h : ∀ i, i < n → f i = g i) (k : ls_n f n r) : ls_n g n r := by
  rcases k with ⟨e, z⟩ | ⟨j, hj, e, hf, z⟩
  · exact Or.inl ⟨e, fun i hi => by rw [← h i hi]; exact z i hi⟩
  · exact Or.inr ⟨j, hj, e, by rw [← h j hj]; exact hf, fun i hi => by rw [← h i (by omega)]; exact z i hi⟩
theorem ls_bad {f : Nat → Bool} {n : Nat} {r : Int32} (hn : n < 2 ^ 31) (k : ls_n f n r) : r = -1 ↔ ex_n f n = false := by
  rw [ex_not]
  rcases k with ⟨e, z⟩ | ⟨j, hj, e, hf, z⟩
  · exact ⟨fun _ => z, fun _ => e⟩
  · constructor
    · intro h
      exfalso
      have h2 : nI j = -1 := by rw [← e, h]
      have h3 := congrArg Int32.toInt h2
      rw [nI_toInt (by omega)] at h3
      have h4 : (-1 : Int32).toInt = -1 := by decide
      omega
    · intro h
      rw [h j hj] at hf
      exact absurd hf (by simp)
end
section
/-! what is reached from s0 by st; a walk with a queue; sweeps -/
def rc_R (st : Nat → Nat → Prop) (s0 s : Nat) : Prop := ∀ C : Nat → Prop, C s0 → (∀ a b, C a → st a b → C b) → C s
theorem rc_0 (st : Nat → Nat → Prop) (s0 : Nat) : rc_R st s0 s0 := fun _ h _ => h
theorem rc_s {st : Nat → Nat → Prop} {s0 a b : Nat} (h : rc_R st s0 a) (k : st a b) : rc_R st s0 b := fun C h0 hs => hs a b (h C h0 hs) k
/-- n members of R below 1024 in the queue q -/
def bf_J (st : Nat → Nat → Prop) (s0 : Nat) (R : Nat → Bool) (q : Nat → Int32) (n : Nat) : Prop :=
  n = ct_n R 1024 ∧ R s0 = true ∧ (∀ s, R s = true → rc_R st s0 s ∧ s < 1024) ∧ (∀ s, R s = true → ∃ j, j < n ∧ q j = nI s) ∧ (∀ j, j < n → ∃ s, R s = true ∧ q j = nI s)
/-- the first h of the queue are left -/
def bf_C (st : Nat → Nat → Prop) (R : Nat → Bool) (q : Nat → Int32) (h : Nat) : Prop := ∀ j, j < h → ∀ a b, q j = nI a → a < 1024 → st a b → R b = true
theorem bf_le {st : Nat → Nat → Prop} {s0 n : Nat} {R : Nat → Bool} {q : Nat → Int32} (J : bf_J st s0 R q n) : n ≤ 1024 := by
  rw [J.1]; exact ct_le R 1024
theorem bf_new {st : Nat → Nat → Prop} {s0 n b : Nat} {R : Nat → Bool} {q : Nat → Int32} (J : bf_J st s0 R q n) (hb : b < 1024) (h0 : R b = false) : n < 1024 := by
  rw [J.1]; exact ct_full hb h0
theorem bf_add {st : Nat → Nat → Prop} {s0 n a b : Nat} {R : Nat → Bool} {q : Nat → Int32} (J : bf_J st s0 R q n) (ha : R a = true) (hs : st a b) (hb : b < 1024) (h0 : R b = false) :
    bf_J st s0 (ct_u R b) (upd q n (nI b)) (n + 1) := by
  obtain ⟨h1, h2, h3, h4, h5⟩ := J
  refine ⟨?_, ct_uo R b s0 h2, ?_, ?_, ?_⟩
  · rw [ct_add hb h0, h1]
  · intro s hs'
    by_cases e : s = b
    · subst e; exact ⟨rc_s (h3 a ha).1 hs, hb⟩
    · rw [ct_un R e] at hs'; exact h3 s hs'
  · intro s hs'
    by_cases e : s = b
    · subst e; exact ⟨n, by omega, pk_us⟩
    · rw [ct_un R e] at hs'
      obtain ⟨j, hj, ej⟩ := h4 s hs'
      exact ⟨j, by omega, by rw [pk_un (by omega), ej]⟩
  · intro j hj
    by_cases e : j = n
    · subst e; exact ⟨b, ct_us R b, pk_us⟩
    · obtain ⟨s, hs', es⟩ := h5 j (by omega)
      exact ⟨s, ct_uo R b s hs', by rw [pk_un e, es]⟩
theorem bf_Cadd {st : Nat → Nat → Prop} {n b h : Nat} {R : Nat → Bool} {q : Nat → Int32} (C : bf_C st R q h) (hh : h ≤ n) : bf_C st (ct_u R b) (upd q n (nI b)) h := by
  intro j hj a c ea ha hs
  rw [pk_un (by omega)] at ea
  exact ct_uo R b c (C j hj a c ea ha hs)
theorem bf_0 (st : Nat → Nat → Prop) {s0 : Nat} (h : s0 < 1024) {q : Nat → Int32} : bf_J st s0 (ct_u (fun _ => false) s0) (upd q 0 (nI s0)) 1 := by
  have hz : ct_n (fun _ => false) 1024 = 0 := by
    have : ∀ n, ct_n (fun _ => false) n = 0 := by
      intro n
      induction n with
      | zero => rfl
      | succ n ih => show ct_n (fun _ => false) n + 0 = 0; rw [ih]
    exact this 1024
  refine ⟨?_, ct_us _ _, ?_, ?_, ?_⟩
  · rw [ct_add h rfl, hz]
  · intro s hs
    by_cases e : s = s0
    · subst e; exact ⟨rc_0 st s, h⟩
    · rw [ct_un _ e] at hs; exact absurd hs (by simp)
  · intro s hs
    by_cases e : s = s0
    · subst e; exact ⟨0, by omega, pk_us⟩
    · rw [ct_un _ e] at hs; exact absurd hs (by simp)
  · intro j hj
    have : j = 0 := by omega
    subst this
    exact ⟨s0, ct_us _ _, pk_us⟩
/-- R is just what is reached -/
def rc_is (st : Nat → Nat → Prop) (s0 : Nat) (R : Nat → Bool) : Prop := ∀ s, s < 1024 → (R s = true ↔ rc_R st s0 s)
theorem rc_cl {st : Nat → Nat → Prop} {s0 : Nat} {R : Nat → Bool} (h0 : R s0 = true) (hr : ∀ s, s < 1024 → R s = true → rc_R st s0 s) (hb : ∀ a b, a < 1024 → st a b → b < 1024) (h1 : s0 < 1024)
    (hc : ∀ a b, a < 1024 → R a = true → st a b → R b = true) : rc_is st s0 R := by
  intro s hs
  refine ⟨hr s hs, fun h => ?_⟩
  exact (h (fun x => x < 1024 ∧ R x = true) ⟨h1, h0⟩ (fun a b ⟨ha, hR⟩ k => ⟨hb a b ha k, hc a b ha hR k⟩)).2
theorem bf_end {st : Nat → Nat → Prop} {s0 n h : Nat} {R : Nat → Bool} {q : Nat → Int32} (J : bf_J st s0 R q n) (C : bf_C st R q h) (hh : n ≤ h) (hb : ∀ a b, a < 1024 → st a b → b < 1024) : rc_is st s0 R := by
  obtain ⟨h1, h2, h3, h4, h5⟩ := J
  refine rc_cl h2 (fun s _ hs => (h3 s hs).1) hb (h3 s0 h2).2 ?_
  intro a b ha hR hs
  obtain ⟨j, hj, ej⟩ := h4 a hR
  exact C j (by omega) a b ej ha hs
theorem rc_uniq {st : Nat → Nat → Prop} {s0 : Nat} {R Q : Nat → Bool} (h : rc_is st s0 R) (k : rc_is st s0 Q) : ∀ s, s < 1024 → R s = Q s := by
  intro s hs
  exact bo_iff ((h s hs).trans (k s hs).symm)
/-- a sweep that began with R0 stands at R; g: it has grown; D: the pairs that are done -/
def sw_I (st : Nat → Nat → Prop) (s0 : Nat) (R0 R : Nat → Bool) (g : Bool) (D : Nat → Nat → Prop) : Prop :=
  R s0 = true ∧ (∀ s, s < 1024 → R s = true → rc_R st s0 s) ∧ (∀ s, s < 1024 → R0 s = true → R s = true) ∧
  (g = true → ct_n R0 1024 < ct_n R 1024) ∧ (g = false → (∀ s, s < 1024 → R s = R0 s) ∧ ∀ a b, a < 1024 → R a = true → D a b → R b = true)
theorem sw_step {st : Nat → Nat → Prop} {s0 a b : Nat} {R0 R : Nat → Bool} {g : Bool} {D D' : Nat → Nat → Prop} (I : sw_I st s0 R0 R g D) (ha : a < 1024) (hR : R a = true) (hs : st a b) (hb : b < 1024)
    (hD : ∀ x y, D' x y → D x y ∨ (x = a ∧ y = b)) : sw_I st s0 R0 (ct_u R b) (g || !(R b)) D' := by
  obtain ⟨h1, h2, h3, h4, h5⟩ := I
  refine ⟨ct_uo R b s0 h1, ?_, fun s hs' h => ct_uo R b s (h3 s hs' h), ?_, ?_⟩
  · intro s hs' h
    by_cases e : s = b
    · subst e; exact rc_s (h2 a ha hR) hs
    · rw [ct_un R e] at h; exact h2 s hs' h
  · intro hg
    cases hRb : R b
    · rw [ct_add hb hRb]
      have := ct_sub (f := R0) (g := R) (n := 1024) (fun i hi h => h3 i hi h)
      omega
    · rw [hRb] at hg
      have hg' : g = true := by cases g <;> first | rfl | exact absurd hg (by simp)
      have e : ct_n (ct_u R b) 1024 = ct_n R 1024 := ct_congr (fun i _ => by
        by_cases e : i = b
        · subst e; rw [ct_us, hRb]
        · exact ct_un R e)
      rw [e]; exact h4 hg'
  · intro hg
    cases hRb : R b
    · rw [hRb] at hg; cases g <;> exact absurd hg (by simp)
    · have hg' : g = false := by cases g <;> first | rfl | exact absurd hg (by simp)
      have e : ∀ i, ct_u R b i = R i := fun i => by
        by_cases e : i = b
        · subst e; rw [ct_us, hRb]
        · exact ct_un R e
      obtain ⟨h6, h7⟩ := h5 hg'
      refine ⟨fun s hs' => by rw [e s]; exact h6 s hs', fun x y hx hRx hDx => ?_⟩
      rw [e] at hRx ⊢
      rcases hD x y hDx with h | ⟨_, h⟩
      · exact h7 x y hx hRx h
      · rw [h]; exact hRb
theorem sw_skip {st : Nat → Nat → Prop} {s0 : Nat} {R0 R : Nat → Bool} {g : Bool} {D D' : Nat → Nat → Prop} (I : sw_I st s0 R0 R g D) (hD : ∀ x y, x < 1024 → R x = true → D' x y → D x y) : sw_I st s0 R0 R g D' := by
  obtain ⟨h1, h2, h3, h4, h5⟩ := I
  exact ⟨h1, h2, h3, h4, fun hg => ⟨(h5 hg).1, fun a b ha hR hd => (h5 hg).2 a b ha hR (hD a b ha hR hd)⟩⟩
theorem sw_0 {st : Nat → Nat → Prop} {s0 : Nat} {R : Nat → Bool} (h1 : R s0 = true) (h2 : ∀ s, s < 1024 → R s = true → rc_R st s0 s) : sw_I st s0 R R false (fun _ _ => False) :=
  ⟨h1, h2, fun _ _ h => h, fun h => absurd h (by simp), fun _ => ⟨fun _ _ => rfl, fun _ _ _ _ h => h.elim⟩⟩
/-- between the sweeps: k sweeps done -/
def sv_I (st : Nat → Nat → Prop) (s0 : Nat) (R : Nat → Bool) (g : Bool) (k : Nat) : Prop :=
  R s0 = true ∧ (∀ s, s < 1024 → R s = true → rc_R st s0 s) ∧ (g = true → k < ct_n R 1024) ∧ (g = false → ∀ a b, a < 1024 → R a = true → st a b → R b = true)
theorem sv_step {st : Nat → Nat → Prop} {s0 k : Nat} {R0 R : Nat → Bool} {g : Bool} (V : sv_I st s0 R0 true k) (I : sw_I st s0 R0 R g st) : sv_I st s0 R g (k + 1) := by
  obtain ⟨h1, h2, h3, h4, h5⟩ := I
  refine ⟨h1, h2, fun hg => ?_, fun hg => (h5 hg).2⟩
  have := h4 hg
  have := V.2.2.1 rfl
  omega
theorem sv_end {st : Nat → Nat → Prop} {s0 k : Nat} {R : Nat → Bool} {g : Bool} (V : sv_I st s0 R g k) (h : g = false ∨ 1024 ≤ k) (hb : ∀ a b, a < 1024 → st a b → b < 1024) (h1 : s0 < 1024) : rc_is st s0 R := by
  obtain ⟨a1, a2, a3, a4⟩ := V
  have hg : g = false := by
    rcases h with h | h
    · exact h
    · cases hg : g
      · rfl
      · have := a3 hg
        have := ct_le R 1024
        omega
  exact rc_cl a1 a2 hb h1 (a4 hg)
theorem sv_0 (st : Nat → Nat → Prop) {s0 : Nat} (h : s0 < 1024) : sv_I st s0 (ct_u (fun _ => false) s0) true 0 := by
  refine ⟨ct_us _ _, ?_, fun _ => ?_, fun h => absurd h (by simp)⟩
  · intro s _ hs
    by_cases e : s = s0
    · subst e; exact rc_0 st s
    · rw [ct_un _ e] at hs; exact absurd hs (by simp)
  · have := ct_pos (n := 1024) h (ct_us (fun _ => false) s0)
    omega
end
section
/-! the net: sg signal, dr direction, pe pre, po post of a transition -/
def nt_en (pe : Nat → Nat) (t m : Nat) : Bool := (m &&& pe t) == pe t
def nt_un (pe po : Nat → Nat) (t m : Nat) : Bool := (sg_an m (pe t) &&& po t) != 0
def nt_ic (sg dr : Nat → Nat) (t c : Nat) : Bool := (c.testBit (sg t)).toNat == dr t
def nt_fm (pe po : Nat → Nat) (t m : Nat) : Nat := sg_an m (pe t) ||| po t
def nt_fc (sg dr : Nat → Nat) (t c : Nat) : Nat := if dr t = 1 then c ||| 2 ^ sg t else sg_an c (2 ^ sg t)
def nt_fr (sg dr pe po : Nat → Nat) (t s : Nat) : Nat := nt_fm pe po t (s / 16) * 16 + nt_fc sg dr t (s % 16)
/-- the bounds of a net with S signals -/
def nt_B (S : Nat) (sg dr pe po : Nat → Nat) : Prop := ∀ t, sg t < S ∧ dr t ≤ 1 ∧ pe t < 64 ∧ po t < 64
theorem nt_fm_lt {S : Nat} {sg dr pe po : Nat → Nat} (B : nt_B S sg dr pe po) (t : Nat) {m : Nat} (hm : m < 64) : nt_fm pe po t m < 64 := by
  have h1 : sg_an m (pe t) < 2 ^ 6 := Nat.lt_of_le_of_lt (sg_an_le _ _) hm
  exact Nat.or_lt_two_pow (n := 6) h1 (B t).2.2.2
theorem nt_fc_lt {S : Nat} {sg dr pe po : Nat → Nat} (B : nt_B S sg dr pe po) (t : Nat) {c : Nat} (hc : c < 2 ^ S) : nt_fc sg dr t c < 2 ^ S := by
  unfold nt_fc
  by_cases h : dr t = 1
  · rw [if_pos h]
    exact Nat.or_lt_two_pow hc (Nat.pow_lt_pow_right (by decide) (B t).1)
  · rw [if_neg h]
    exact Nat.lt_of_le_of_lt (sg_an_le _ _) hc
theorem nt_pS {S : Nat} (hS : S ≤ 4) : 2 ^ S ≤ 16 := (Nat.pow_le_pow_right (by decide) hS : 2 ^ S ≤ 2 ^ 4)
theorem nt_fr_div {S : Nat} (hS : S ≤ 4) {sg dr pe po : Nat → Nat} (B : nt_B S sg dr pe po) (t : Nat) {s : Nat} : nt_fr sg dr pe po t s / 16 = nt_fm pe po t (s / 16) ∧ nt_fr sg dr pe po t s % 16 = nt_fc sg dr t (s % 16) := by
  have B4 : nt_B 4 sg dr pe po := fun t => ⟨Nat.lt_of_lt_of_le (B t).1 hS, (B t).2⟩
  have h : nt_fc sg dr t (s % 16) < 2 ^ 4 := nt_fc_lt B4 t (Nat.mod_lt _ (by decide))
  unfold nt_fr
  omega
theorem nt_fr_lt {S : Nat} (hS : S ≤ 4) {sg dr pe po : Nat → Nat} (B : nt_B S sg dr pe po) (t : Nat) {s : Nat} (h : s < 1024) : nt_fr sg dr pe po t s < 1024 := by
  obtain ⟨h1, h2⟩ := nt_fr_div hS B t (s := s)
  have h3 := nt_fm_lt B t (m := s / 16) (by omega)
  omega
theorem nt_fr_c {S : Nat} (hS : S ≤ 4) {sg dr pe po : Nat → Nat} (B : nt_B S sg dr pe po) (t : Nat) {s : Nat} (h : s % 16 < 2 ^ S) : nt_fr sg dr pe po t s % 16 < 2 ^ S := by
  rw [(nt_fr_div hS B t (s := s)).2]
  exact nt_fc_lt B t h
/-- the component's code after a step -/
theorem nt_fcX {S : Nat} {sg dr pe po : Nat → Nat} (B : nt_B S sg dr pe po) (t c : Nat) : sg_an c (2 ^ sg t) ||| dr t * 2 ^ sg t = nt_fc sg dr t c := by
  unfold nt_fc
  have hd := (B t).2.1
  by_cases h : dr t = 1
  · rw [if_pos h, h, Nat.one_mul]
    apply Nat.eq_of_testBit_eq
    intro i
    rw [Nat.testBit_or, Nat.testBit_or, sg_anb]
    cases c.testBit i <;> cases (2 ^ sg t).testBit i <;> rfl
  · have : dr t = 0 := by omega
    rw [if_neg h, this, Nat.zero_mul, Nat.or_zero]
theorem nt_enX (pe : Nat → Nat) (t m : Nat) : sg_an (pe t) m = 0 ↔ nt_en pe t m = true := by
  unfold nt_en
  rw [sg_an_0, beq_iff_eq, Nat.and_comm]
  exact ⟨sg_sub_and, sg_sub_of⟩
/-- a step that explore follows -/
def nt_ok (sg dr pe po : Nat → Nat) (t s : Nat) : Bool := nt_en pe t (s / 16) && (!(nt_un pe po t (s / 16)) && !(nt_ic sg dr t (s % 16)))
def nt_st (T : Nat) (sg dr pe po : Nat → Nat) (a b : Nat) : Prop := ∃ t, t < T ∧ nt_ok sg dr pe po t a = true ∧ b = nt_fr sg dr pe po t a
theorem nt_st_lt {S T : Nat} (hS : S ≤ 4) {sg dr pe po : Nat → Nat} (B : nt_B S sg dr pe po) : ∀ a b, a < 1024 → nt_st T sg dr pe po a b → b < 1024 := by
  rintro a b ha ⟨t, _, _, e⟩
  rw [e]
  exact nt_fr_lt hS B t ha
/-- some enabled transition of a state in R puts a token where one is; repeats a value -/
def nt_U (T : Nat) (pe po : Nat → Nat) (R : Nat → Bool) : Bool := ex_n (fun s => ex_n (fun t => R s && (nt_en pe t (s / 16) && nt_un pe po t (s / 16))) T) 1024
def nt_I (T : Nat) (sg dr pe : Nat → Nat) (R : Nat → Bool) : Bool := ex_n (fun s => ex_n (fun t => R s && (nt_en pe t (s / 16) && nt_ic sg dr t (s % 16))) T) 1024
/-- signal i is excited at m, c -/
def nt_ex (T : Nat) (sg dr pe po : Nat → Nat) (i m c : Nat) : Bool := ex_n (fun t => (sg t == i) && (nt_en pe t m && (!(nt_un pe po t m) && !(nt_ic sg dr t c)))) T
/-- signal i has an enabled transition at m -/
def nt_he (T : Nat) (sg pe : Nat → Nat) (i m : Nat) : Bool := ex_n (fun t => (sg t == i) && nt_en pe t m) T
/-- the next value of signal i at code c: seen and excited per marking -/
def nv_all (R : Nat → Bool) (X : Nat → Bool) (c : Nat) : Bool := al_n (fun m => !(R (16 * m + c)) || X m) 64
def nv_any (R : Nat → Bool) (X : Nat → Bool) (c : Nat) : Bool := ex_n (fun m => R (16 * m + c) && X m) 64
def nv_seen (R : Nat → Bool) (c : Nat) : Bool := ex_n (fun m => R (16 * m + c)) 64
def nt_v (T : Nat) (sg dr pe po : Nat → Nat) (R : Nat → Bool) (i c : Nat) : Nat :=
  if nv_seen R c = false then 2
  else if nv_all R (fun m => nt_ex T sg dr pe po i m c) c = true then 1 - (c.testBit i).toNat
  else if nv_any R (fun m => nt_ex T sg dr pe po i m c) c = false then (c.testBit i).toNat else 3
theorem nt_v_lt (T : Nat) (sg dr pe po : Nat → Nat) (R : Nat → Bool) (i c : Nat) : nt_v T sg dr pe po R i c < 4 := by
  unfold nt_v
  have := sg_toNat_lt (c.testBit i)
  split
  · omega
  · split
    · omega
    · split <;> omega
/-- the same of sets that agree -/
theorem nv_cong {R Q : Nat → Bool} (h : ∀ s, s < 1024 → R s = Q s) {c : Nat} (hc : c < 16) : nv_seen R c = nv_seen Q c ∧ ∀ X, nv_all R X c = nv_all Q X c ∧ nv_any R X c = nv_any Q X c := by
  refine ⟨ex_congr (fun i hi => h _ (by omega)), fun X => ⟨al_congr (fun i hi => ?_), ex_congr (fun i hi => ?_)⟩⟩
  · rw [h _ (by omega)]
  · rw [h _ (by omega)]
theorem nt_v_cong {T : Nat} {sg dr pe po : Nat → Nat} {R Q : Nat → Bool} (h : ∀ s, s < 1024 → R s = Q s) {i c : Nat} (hc : c < 16) : nt_v T sg dr pe po R i c = nt_v T sg dr pe po Q i c := by
  obtain ⟨h1, h2⟩ := nv_cong h hc
  unfold nt_v
  rw [h1, (h2 _).1, (h2 _).2]
theorem nt_U_cong {T : Nat} {pe po : Nat → Nat} {R Q : Nat → Bool} (h : ∀ s, s < 1024 → R s = Q s) : nt_U T pe po R = nt_U T pe po Q :=
  ex_congr (fun s hs => by rw [h s hs])
theorem nt_I_cong {T : Nat} {sg dr pe : Nat → Nat} {R Q : Nat → Bool} (h : ∀ s, s < 1024 → R s = Q s) : nt_I T sg dr pe R = nt_I T sg dr pe Q :=
  ex_congr (fun s hs => by rw [h s hs])
/-- 16 * signal + code of the least torn one -/
def cf_f (S : Nat) (inp : Nat → Bool) (v : Nat → Nat → Nat) : Nat → Bool := fun k => !(inp (k / 16)) && (decide (k % 16 < 2 ^ S) && (v (k / 16) (k % 16) == 3))
end
section
/-! cubes: digits to base three, digit i for signal i -/
def cu_cv (S q c : Nat) : Bool := al_n (fun i => (q / 3 ^ i % 3 == 2) || (q / 3 ^ i % 3 == (c.testBit i).toNat)) S
/-- the cube's codes as a set -/
def cu_m (S q : Nat) : Nat → Nat
  | 0 => 0
  | c + 1 => cu_m S q c ||| (if cu_cv S q c = true then 2 ^ c else 0)
theorem cu_mb (S q n c : Nat) : (cu_m S q n).testBit c = (decide (c < n) && cu_cv S q c) := by
  induction n with
  | zero => show (0 : Nat).testBit c = _; rw [Nat.zero_testBit]; simp
  | succ n ih =>
    show (cu_m S q n ||| (if cu_cv S q n = true then 2 ^ n else 0)).testBit c = _
    rw [Nat.testBit_or, ih]
    by_cases e : c = n
    · subst e
      by_cases h : cu_cv S q c = true
      · rw [if_pos h, Nat.testBit_two_pow, h]; simp
      · rw [if_neg h, bo_nt h]; simp
    · have h2 : (if cu_cv S q n = true then 2 ^ n else 0).testBit c = false := by
        by_cases h : cu_cv S q n = true
        · rw [if_pos h, Nat.testBit_two_pow]
          exact decide_eq_false (fun z => e z.symm)
        · rw [if_neg h, Nat.zero_testBit]
      have h3 : decide (c < n + 1) = decide (c < n) := by
        by_cases h : c < n
        · rw [decide_eq_true h, decide_eq_true (by omega)]
        · rw [decide_eq_false h, decide_eq_false (by omega)]
      rw [h2, h3, Bool.or_false]
theorem cu_m_lt {S q n : Nat} (hn : n ≤ 16) : cu_m S q n < 65536 := by
  apply sg_16.mpr
  intro i hi
  rw [cu_mb, decide_eq_false (by omega)]
  rfl
/-- the first and the last code of a cube, and the cube that these make -/
def cu_lo (f : Nat → Bool) : Nat → Nat
  | 0 => 0
  | n + 1 => if f n = true then n else cu_lo f n
def cu_hi (f : Nat → Bool) : Nat → Nat → Nat
  | 0, k => k
  | n + 1, k => if f k = true then k else cu_hi f n (k + 1)
def cu_mk (S a b : Nat) : Nat → Nat
  | 0 => 0
  | i + 1 => cu_mk S a b i + 3 ^ i * (if a.testBit i = b.testBit i then (a.testBit i).toNat else 2)
theorem cu_lo_c {f g : Nat → Bool} {n : Nat} (h : ∀ i, i < n → f i = g i) : cu_lo f n = cu_lo g n := by
  induction n with
  | zero => rfl
  | succ n ih =>
    show (if f n = true then n else cu_lo f n) = (if g n = true then n else cu_lo g n)
    rw [h n (by omega), ih (fun i hi => h i (by omega))]
theorem cu_hi_c {f g : Nat → Bool} : ∀ {n k : Nat}, (∀ i, i < k + n → f i = g i) → cu_hi f n k = cu_hi g n k := by
  intro n
  induction n with
  | zero => intro k _; rfl
  | succ n ih =>
    intro k h
    show (if f k = true then k else cu_hi f n (k + 1)) = (if g k = true then k else cu_hi g n (k + 1))
    rw [h k (by omega), ih (k := k + 1) (fun i hi => h i (by omega))]
theorem cu_dec1 : ∀ q, q < 3 → cu_mk 1 (cu_lo (cu_cv 1 q) 2) (cu_hi (cu_cv 1 q) 2 0) 1 = q := by decide +kernel
theorem cu_dec2 : ∀ q, q < 9 → cu_mk 2 (cu_lo (cu_cv 2 q) 4) (cu_hi (cu_cv 2 q) 4 0) 2 = q := by decide +kernel
theorem cu_dec3 : ∀ q, q < 27 → cu_mk 3 (cu_lo (cu_cv 3 q) 8) (cu_hi (cu_cv 3 q) 8 0) 3 = q := by decide +kernel
theorem cu_dec4 : ∀ q, q < 81 → cu_mk 4 (cu_lo (cu_cv 4 q) 16) (cu_hi (cu_cv 4 q) 16 0) 4 = q := by decide +kernel
theorem cu_S {P : Nat → Prop} (h1 : P 1) (h2 : P 2) (h3 : P 3) (h4 : P 4) {S : Nat} (a : 1 ≤ S) (b : S ≤ 4) : P S := by
  have : S = 1 ∨ S = 2 ∨ S = 3 ∨ S = 4 := by omega
  rcases this with rfl | rfl | rfl | rfl
  · exact h1
  · exact h2
  · exact h3
  · exact h4
theorem cu_dec {S : Nat} (a : 1 ≤ S) (b : S ≤ 4) : ∀ q, q < 3 ^ S → cu_mk S (cu_lo (cu_cv S q) (2 ^ S)) (cu_hi (cu_cv S q) (2 ^ S) 0) S = q :=
  cu_S (P := fun S => ∀ q, q < 3 ^ S → cu_mk S (cu_lo (cu_cv S q) (2 ^ S)) (cu_hi (cu_cv S q) (2 ^ S) 0) S = q) cu_dec1 cu_dec2 cu_dec3 cu_dec4 a b
theorem cu_inj {S : Nat} (a : 1 ≤ S) (b : S ≤ 4) {p q : Nat} (hp : p < 3 ^ S) (hq : q < 3 ^ S) (h : ∀ c, c < 2 ^ S → cu_cv S p c = cu_cv S q c) : p = q := by
  rw [← cu_dec a b p hp, ← cu_dec a b q hq, cu_lo_c (f := cu_cv S p) (g := cu_cv S q) h, cu_hi_c (f := cu_cv S p) (g := cu_cv S q) (n := 2 ^ S) (k := 0) (fun i hi => h i (by omega))]
/-- the cube of one code -/
def cu_one (c : Nat) : Nat → Nat
  | 0 => 0
  | i + 1 => cu_one c i + 3 ^ i * (c.testBit i).toNat
theorem cu_o1 : ∀ c, c < 2 → cu_one c 1 < 3 ∧ ∀ d, d < 2 → cu_cv 1 (cu_one c 1) d = (c == d) := by decide +kernel
theorem cu_o2 : ∀ c, c < 4 → cu_one c 2 < 9 ∧ ∀ d, d < 4 → cu_cv 2 (cu_one c 2) d = (c == d) := by decide +kernel
theorem cu_o3 : ∀ c, c < 8 → cu_one c 3 < 27 ∧ ∀ d, d < 8 → cu_cv 3 (cu_one c 3) d = (c == d) := by decide +kernel
theorem cu_o4 : ∀ c, c < 16 → cu_one c 4 < 81 ∧ ∀ d, d < 16 → cu_cv 4 (cu_one c 4) d = (c == d) := by decide +kernel
theorem cu_o {S : Nat} (a : 1 ≤ S) (b : S ≤ 4) : ∀ c, c < 2 ^ S → cu_one c S < 3 ^ S ∧ ∀ d, d < 2 ^ S → cu_cv S (cu_one c S) d = (c == d) :=
  cu_S (P := fun S => ∀ c, c < 2 ^ S → cu_one c S < 3 ^ S ∧ ∀ d, d < 2 ^ S → cu_cv S (cu_one c S) d = (c == d)) cu_o1 cu_o2 cu_o3 cu_o4 a b
/-- of three neighbours the third is the other two -/
theorem cu_t1 : ∀ r, r < 1 → ∀ c, c < 2 → cu_cv 1 (3 * r + 2) c = (cu_cv 1 (3 * r) c || cu_cv 1 (3 * r + 1) c) := by decide +kernel
theorem cu_t2 : ∀ r, r < 3 → ∀ c, c < 4 → cu_cv 2 (3 * r + 2) c = (cu_cv 2 (3 * r) c || cu_cv 2 (3 * r + 1) c) := by decide +kernel
theorem cu_t3 : ∀ r, r < 9 → ∀ c, c < 8 → cu_cv 3 (3 * r + 2) c = (cu_cv 3 (3 * r) c || cu_cv 3 (3 * r + 1) c) := by decide +kernel
theorem cu_t4 : ∀ r, r < 27 → ∀ c, c < 16 → cu_cv 4 (3 * r + 2) c = (cu_cv 4 (3 * r) c || cu_cv 4 (3 * r + 1) c) := by decide +kernel
theorem cu_t {S : Nat} (a : 1 ≤ S) (b : S ≤ 4) : ∀ r, r < 3 ^ (S - 1) → ∀ c, c < 2 ^ S → cu_cv S (3 * r + 2) c = (cu_cv S (3 * r) c || cu_cv S (3 * r + 1) c) :=
  cu_S (P := fun S => ∀ r, r < 3 ^ (S - 1) → ∀ c, c < 2 ^ S → cu_cv S (3 * r + 2) c = (cu_cv S (3 * r) c || cu_cv S (3 * r + 1) c)) cu_t1 cu_t2 cu_t3 cu_t4 a b
theorem cu_3 {S : Nat} (a : 1 ≤ S) (b : S ≤ 4) : 3 ^ S = 3 * 3 ^ (S - 1) ∧ 3 ^ (S - 1) ≤ 27 ∧ 2 ^ S ≤ 16 ∧ 2 ≤ 2 ^ S :=
  cu_S (P := fun S => 3 ^ S = 3 * 3 ^ (S - 1) ∧ 3 ^ (S - 1) ≤ 27 ∧ 2 ^ S ≤ 16 ∧ 2 ≤ 2 ^ S) (by decide) (by decide) (by decide) (by decide) a b
/-! implicants and primes of a function v: 1 wanted, 0 barred -/
def pr_im (S : Nat) (v : Nat → Nat) (q : Nat) : Bool := al_n (fun c => !((v c == 0) && cu_cv S q c)) (2 ^ S)
def pr_h1 (S : Nat) (v : Nat → Nat) (q : Nat) : Bool := ex_n (fun c => (v c == 1) && cu_cv S q c) (2 ^ S)
def pr_al (S : Nat) (big small : Nat) : Bool := al_n (fun c => !(cu_cv S small c) || cu_cv S big c) (2 ^ S)
def pr_lg (S : Nat) (v : Nat → Nat) (q : Nat) : Bool := ex_n (fun p => !(p == q) && (pr_im S v p && pr_al S p q)) (3 ^ S)
def pr_p (S : Nat) (v : Nat → Nat) (q : Nat) : Bool := pr_im S v q && (pr_h1 S v q && !(pr_lg S v q))
theorem pr_im_iff {S : Nat} {v : Nat → Nat} {q : Nat} : pr_im S v q = true ↔ ∀ c, c < 2 ^ S → v c = 0 → cu_cv S q c = false := by
  unfold pr_im
  rw [al_iff]
  refine ⟨fun h c hc hv => ?_, fun h c hc => ?_⟩
  · have := h c hc
    rw [hv] at this
    cases hq : cu_cv S q c
    · rfl
    · rw [hq] at this; exact absurd this (by simp)
  · cases hq : cu_cv S q c
    · simp
    · have : v c ≠ 0 := by
        intro hv
        rw [h c hc hv] at hq
        exact absurd hq (by simp)
      simp [this]
theorem pr_al_iff {S p q : Nat} : pr_al S p q = true ↔ ∀ c, c < 2 ^ S → cu_cv S q c = true → cu_cv S p c = true := by
  unfold pr_al
  rw [al_iff]
  refine ⟨fun h c hc hq => ?_, fun h c hc => ?_⟩
  · have := h c hc
    rw [hq] at this
    exact this
  · cases hq : cu_cv S q c
    · rfl
    · rw [h c hc hq]; rfl
theorem pr_lg_iff {S : Nat} {v : Nat → Nat} {q : Nat} : pr_lg S v q = true ↔ ∃ p, p < 3 ^ S ∧ p ≠ q ∧ pr_im S v p = true ∧ pr_al S p q = true := by
  unfold pr_lg
  rw [ex_iff]
  refine ⟨fun ⟨p, hp, h⟩ => ?_, fun ⟨p, hp, h1, h2, h3⟩ => ⟨p, hp, ?_⟩⟩
  · rw [Bool.and_eq_true, Bool.and_eq_true, Bool.not_eq_true', beq_eq_false_iff_ne] at h
    exact ⟨p, hp, h.1, h.2.1, h.2.2⟩
  · rw [Bool.and_eq_true, Bool.and_eq_true, Bool.not_eq_true', beq_eq_false_iff_ne]
    exact ⟨h1, h2, h3⟩
theorem pr_p_iff {S : Nat} {v : Nat → Nat} {q : Nat} : pr_p S v q = true ↔ pr_im S v q = true ∧ pr_h1 S v q = true ∧ pr_lg S v q = false := by
  unfold pr_p
  rw [Bool.and_eq_true, Bool.and_eq_true, Bool.not_eq_true']
/-- every wanted code lies in a prime -/
theorem pr_ex {S : Nat} (a : 1 ≤ S) (b : S ≤ 4) {v : Nat → Nat} {c : Nat} (hc : c < 2 ^ S) (hv : v c = 1) : ∃ q, q < 3 ^ S ∧ pr_p S v q = true ∧ cu_cv S q c = true := by
  have key : ∀ d q, q < 3 ^ S → pr_im S v q = true → cu_cv S q c = true → 65536 - cu_m S q (2 ^ S) ≤ d → ∃ q, q < 3 ^ S ∧ pr_p S v q = true ∧ cu_cv S q c = true := by
    intro d
    induction d with
    | zero =>
      intro q _ _ _ h
      have := cu_m_lt (S := S) (q := q) (n := 2 ^ S) (cu_3 a b).2.2.1
      omega
    | succ d ih =>
      intro q hq hi hcv hd
      cases hl : pr_lg S v q
      · refine ⟨q, hq, pr_p_iff.mpr ⟨hi, ?_, hl⟩, hcv⟩
        unfold pr_h1
        exact ex_iff.mpr ⟨c, hc, by rw [hv, hcv]; rfl⟩
      · obtain ⟨p, hp, hne, him, hal⟩ := pr_lg_iff.mp hl
        have hs : sg_sub (cu_m S q (2 ^ S)) (cu_m S p (2 ^ S)) := by
          intro i h
          rw [cu_mb, Bool.and_eq_true, decide_eq_true_eq] at h
          rw [cu_mb, Bool.and_eq_true, decide_eq_true_eq]
          exact ⟨h.1, pr_al_iff.mp hal i h.1 h.2⟩
        have hle := sg_sub_le hs
        have hneq : cu_m S q (2 ^ S) ≠ cu_m S p (2 ^ S) := by
          intro e
          apply hne
          refine cu_inj a b hp hq (fun i hi' => ?_)
          have h1 := cu_mb S q (2 ^ S) i
          have h2 := cu_mb S p (2 ^ S) i
          rw [e, h2, decide_eq_true hi'] at h1
          exact h1
        have := cu_m_lt (S := S) (q := p) (n := 2 ^ S) (cu_3 a b).2.2.1
        exact ih p hp him (pr_al_iff.mp hal c hc hcv) (by omega)
  obtain ⟨h1, h2⟩ := cu_o a b c hc
  refine key 65536 (cu_one c S) h1 (pr_im_iff.mpr (fun e he hve => ?_)) ?_ (Nat.sub_le _ _)
  · rw [h2 e he]
    cases hce : c == e
    · rfl
    · rw [beq_iff_eq] at hce
      subst hce
      rw [hv] at hve
      exact absurd hve (by simp)
  · rw [h2 c hc]; exact beq_self_eq_true c
/-- at most one prime in three neighbours, so at most 27 -/
theorem pr_one {S : Nat} (a : 1 ≤ S) (b : S ≤ 4) {v : Nat → Nat} {r : Nat} (hr : r < 3 ^ (S - 1)) : (pr_p S v (3 * r)).toNat + (pr_p S v (3 * r + 1)).toNat + (pr_p S v (3 * r + 2)).toNat ≤ 1 := by
  have h3 := (cu_3 a b).1
  have ht := cu_t a b r hr
  have lg : ∀ p q, p < 3 ^ S → p ≠ q → pr_im S v p = true → pr_al S p q = true → pr_p S v q = false := by
    intro p q hp hne hi hal
    apply bo_nt
    intro h
    have := (pr_p_iff.mp h).2.2
    rw [pr_lg_iff.mpr ⟨p, hp, hne, hi, hal⟩] at this
    exact absurd this (by simp)
  have a0 : pr_al S (3 * r + 2) (3 * r) = true := pr_al_iff.mpr (fun c hc h => by rw [ht c hc, h]; rfl)
  have a1 : pr_al S (3 * r + 2) (3 * r + 1) = true := pr_al_iff.mpr (fun c hc h => by rw [ht c hc, h]; exact Bool.or_true _)
  cases h2 : pr_p S v (3 * r + 2)
  · cases h0 : pr_p S v (3 * r)
    · cases pr_p S v (3 * r + 1) <;> decide
    · cases h1 : pr_p S v (3 * r + 1)
      · decide
      · exfalso
        have i0 := pr_im_iff.mp (pr_p_iff.mp h0).1
        have i1 := pr_im_iff.mp (pr_p_iff.mp h1).1
        have i2 : pr_im S v (3 * r + 2) = true := pr_im_iff.mpr (fun c hc hv => by rw [ht c hc, i0 c hc hv, i1 c hc hv]; rfl)
        have := lg (3 * r + 2) (3 * r) (by omega) (by omega) i2 a0
        rw [h0] at this
        exact absurd this (by simp)
  · have i2 := (pr_p_iff.mp h2).1
    rw [lg (3 * r + 2) (3 * r) (by omega) (by omega) i2 a0, lg (3 * r + 2) (3 * r + 1) (by omega) (by omega) i2 a1]
    decide
theorem pr_le {S : Nat} (a : 1 ≤ S) (b : S ≤ 4) (v : Nat → Nat) : ct_n (pr_p S v) (3 ^ S) ≤ 27 := by
  have h3 := cu_3 a b
  have : ∀ r, r ≤ 3 ^ (S - 1) → ct_n (pr_p S v) (3 * r) ≤ r := by
    intro r
    induction r with
    | zero => intro _; exact Nat.le_refl _
    | succ r ih =>
      intro hr
      have h1 := ih (by omega)
      have h2 := pr_one a b (v := v) (r := r) (by omega)
      have e : ct_n (pr_p S v) (3 * (r + 1)) = ct_n (pr_p S v) (3 * r) + (pr_p S v (3 * r)).toNat + (pr_p S v (3 * r + 1)).toNat + (pr_p S v (3 * r + 2)).toNat := by
        rw [show 3 * (r + 1) = 3 * r + 1 + 1 + 1 from by omega]
        rfl
      omega
  rw [h3.1]
  have := this (3 ^ (S - 1)) (Nat.le_refl _)
  omega
theorem pr_cong {S : Nat} {v w : Nat → Nat} (h : ∀ c, c < 2 ^ S → v c = w c) : ∀ q, pr_p S v q = pr_p S w q := by
  have im : ∀ q, pr_im S v q = pr_im S w q := fun q => al_congr (fun c hc => by rw [h c hc])
  intro q
  have h1 : pr_h1 S v q = pr_h1 S w q := ex_congr (fun c hc => by rw [h c hc])
  have h2 : pr_lg S v q = pr_lg S w q := ex_congr (fun p _ => by rw [im p])
  unfold pr_p
  rw [im, h1, h2]
end
section
/-! n of the first np sets cover A -/
def fw_c (np : Nat) (km : Nat → Nat) : Nat → Nat → Prop
  | 0 => fun A => A = 0
  | n + 1 => fun A => ∃ k, k < np ∧ fw_c np km n (sg_an A (km k))
def fw_L (np : Nat) (km : Nat → Nat) (A n : Nat) : Prop := fw_c np km n A ∧ ∀ j, fw_c np km j A → n ≤ j
theorem fw_0 (np : Nat) (km : Nat → Nat) : fw_L np km 0 0 := ⟨rfl, fun _ _ => Nat.zero_le _⟩
theorem fw_u {np : Nat} {km : Nat → Nat} {A m n : Nat} (h : fw_L np km A m) (k : fw_L np km A n) : m = n := Nat.le_antisymm (h.2 _ k.1) (k.2 _ h.1)
theorem fw_first {np : Nat} {km : Nat → Nat} : ∀ n A b, fw_c np km (n + 1) A → A.testBit b = true → ∃ k, k < np ∧ (km k).testBit b = true ∧ fw_c np km n (sg_an A (km k)) := by
  intro n
  induction n with
  | zero =>
    rintro A b ⟨k, hk, h⟩ hb
    refine ⟨k, hk, ?_, h⟩
    have h' : sg_an A (km k) = 0 := h
    exact sg_an_0.mp h' b hb
  | succ n ih =>
    rintro A b ⟨k, hk, h⟩ hb
    cases hkb : (km k).testBit b
    · have hb2 : (sg_an A (km k)).testBit b = true := by rw [sg_anb, hb, hkb]; rfl
      obtain ⟨j, hj, hjb, hc⟩ := ih (sg_an A (km k)) b h hb2
      refine ⟨j, hj, hjb, k, hk, ?_⟩
      rw [sg_anc]
      exact hc
    · exact ⟨k, hk, hkb, h⟩
/-- every member in some set: so many sets do -/
theorem fw_ex {np : Nat} {km : Nat → Nat} : ∀ d A, (∀ i, A.testBit i = true → i < d ∧ ∃ k, k < np ∧ (km k).testBit i = true) → ∃ n, n ≤ d ∧ fw_c np km n A := by
  intro d
  induction d with
  | zero =>
    intro A h
    refine ⟨0, Nat.le_refl _, ?_⟩
    show A = 0
    refine sg_0 (fun i => bo_nt (fun z => ?_))
    exact absurd (h i z).1 (Nat.not_lt_zero _)
  | succ d ih =>
    intro A h
    cases hd : A.testBit d
    · obtain ⟨n, hn, hc⟩ := ih A (fun i hi => by
        have h1 := h i hi
        have : i ≠ d := by intro e; subst e; rw [hd] at hi; exact absurd hi (by simp)
        exact ⟨by omega, h1.2⟩)
      exact ⟨n, by omega, hc⟩
    · obtain ⟨_, k, hk, hkd⟩ := h d hd
      obtain ⟨n, hn, hc⟩ := ih (sg_an A (km k)) (fun i hi => by
        have hA : A.testBit i = true := sg_sub_an A (km k) i hi
        have h1 := h i hA
        have : i ≠ d := by
          intro e
          subst e
          rw [sg_anb, hkd, hd] at hi
          exact absurd hi (by simp)
        exact ⟨by omega, h1.2⟩)
      exact ⟨n + 1, by omega, k, hk, hc⟩
theorem fw_exL {np : Nat} {km : Nat → Nat} {d A : Nat} (h : ∀ i, A.testBit i = true → i < d ∧ ∃ k, k < np ∧ (km k).testBit i = true) : ∃ n, n ≤ d ∧ fw_L np km A n := by
  obtain ⟨n, hn, hc⟩ := fw_ex d A h
  obtain ⟨m, hm, hl⟩ := pk_least (fun n => fw_c np km n A) ⟨n, hc⟩
  have hmj : ∀ j, fw_c np km j A → m ≤ j := by
    intro j hj
    rcases Nat.lt_or_ge j m with z | z
    · exact absurd hj (hl j z)
    · exact z
  exact ⟨m, Nat.le_trans (hmj n hc) hn, hm, hmj⟩
/-- one row of the table: the least over the sets that have member b -/
def fw_m (km F : Nat → Nat) (A b : Nat) : Nat → Nat
  | 0 => 16
  | k + 1 => if (km k).testBit b = true then (if 1 + F (sg_an A (km k)) < fw_m km F A b k then 1 + F (sg_an A (km k)) else fw_m km F A b k) else fw_m km F A b k
theorem fw_mle {km F : Nat → Nat} {A b : Nat} : ∀ n k, k < n → (km k).testBit b = true → fw_m km F A b n ≤ 1 + F (sg_an A (km k)) := by
  intro n
  induction n with
  | zero => intro k hk; omega
  | succ n ih =>
    intro k hk hb
    show (if (km n).testBit b = true then (if 1 + F (sg_an A (km n)) < fw_m km F A b n then 1 + F (sg_an A (km n)) else fw_m km F A b n) else fw_m km F A b n) ≤ _
    by_cases e : k = n
    · subst e
      rw [if_pos hb]
      split <;> omega
    · have := ih k (by omega) hb
      split
      · split <;> omega
      · exact this
theorem fw_mis {km F : Nat → Nat} {A b : Nat} : ∀ n, fw_m km F A b n = 16 ∨ ∃ k, k < n ∧ (km k).testBit b = true ∧ fw_m km F A b n = 1 + F (sg_an A (km k)) := by
  intro n
  induction n with
  | zero => exact Or.inl rfl
  | succ n ih =>
    show (if (km n).testBit b = true then (if 1 + F (sg_an A (km n)) < fw_m km F A b n then 1 + F (sg_an A (km n)) else fw_m km F A b n) else fw_m km F A b n) = 16 ∨ ∃ k, k < n + 1 ∧ (km k).testBit b = true ∧ (if (km n).testBit b = true then (if 1 + F (sg_an A (km n)) < fw_m km F A b n then 1 + F (sg_an A (km n)) else fw_m km F A b n) else fw_m km F A b n) = 1 + F (sg_an A (km k))
    have up : fw_m km F A b n = 16 ∨ ∃ k, k < n + 1 ∧ (km k).testBit b = true ∧ fw_m km F A b n = 1 + F (sg_an A (km k)) := by
      rcases ih with h | ⟨k, hk, h⟩
      · exact Or.inl h
      · exact Or.inr ⟨k, by omega, h⟩
    by_cases hb : (km n).testBit b = true
    · rw [if_pos hb]
      by_cases hl : 1 + F (sg_an A (km n)) < fw_m km F A b n
      · rw [if_pos hl]; exact Or.inr ⟨n, by omega, hb, rfl⟩
      · rw [if_neg hl]; exact up
    · rw [if_neg hb]; exact up
theorem fw_m16 {km F : Nat → Nat} {A b : Nat} : ∀ n, fw_m km F A b n ≤ 16 := by
  intro n
  induction n with
  | zero => exact Nat.le_refl _
  | succ n ih =>
    show (if (km n).testBit b = true then (if 1 + F (sg_an A (km n)) < fw_m km F A b n then 1 + F (sg_an A (km n)) else fw_m km F A b n) else fw_m km F A b n) ≤ 16
    split
    · split <;> omega
    · exact ih
theorem fw_mL {np : Nat} {km F : Nat → Nat} {A b : Nat} (hA : ∀ i, A.testBit i = true → i < 16 ∧ ∃ k, k < np ∧ (km k).testBit i = true) (hb : A.testBit b = true)
    (hF : ∀ k, k < np → (km k).testBit b = true → fw_L np km (sg_an A (km k)) (F (sg_an A (km k)))) : fw_L np km A (fw_m km F A b np) := by
  obtain ⟨n, hn, hc, hl⟩ := fw_exL hA
  have h1 : n ≤ fw_m km F A b np := by
    rcases fw_mis (km := km) (F := F) (A := A) (b := b) np with h | ⟨k, hk, hkb, h⟩
    · omega
    · rw [h]
      refine hl _ ?_
      rw [Nat.add_comm]
      exact ⟨k, hk, (hF k hk hkb).1⟩
  have h2 : fw_m km F A b np ≤ n := by
    cases n with
    | zero =>
      have : A = 0 := hc
      rw [this, Nat.zero_testBit] at hb
      exact absurd hb (by simp)
    | succ n =>
      obtain ⟨k, hk, hkb, h⟩ := fw_first n A b hc hb
      have h3 := fw_mle (km := km) (F := F) (A := A) np k hk hkb
      have h4 := (hF k hk hkb).2 n h
      omega
  have : fw_m km F A b np = n := by omega
  rw [this]
  exact ⟨hc, hl⟩
/-- the chosen ones cover A: so many do -/
theorem fw_of {np : Nat} {km : Nat → Nat} {M : Nat → Bool} : ∀ j A, j ≤ np → (∀ i, A.testBit i = true → ∃ k, k < j ∧ M k = true ∧ (km k).testBit i = true) → fw_c np km (ct_n M j) A := by
  intro j
  induction j with
  | zero =>
    intro A _ h
    show A = 0
    refine sg_0 (fun i => bo_nt (fun z => ?_))
    obtain ⟨k, hk, _⟩ := h i z
    exact absurd hk (Nat.not_lt_zero _)
  | succ j ih =>
    intro A hj h
    show fw_c np km (ct_n M j + (M j).toNat) A
    cases hM : M j
    · refine ih A (by omega) (fun i hi => ?_)
      obtain ⟨k, hk, h1, h2⟩ := h i hi
      have : k ≠ j := by intro e; subst e; rw [hM] at h1; exact absurd h1 (by simp)
      exact ⟨k, by omega, h1, h2⟩
    · refine ⟨j, by omega, ih (sg_an A (km j)) (by omega) (fun i hi => ?_)⟩
      obtain ⟨k, hk, h1, h2⟩ := h i (sg_sub_an _ _ i hi)
      have : k ≠ j := by intro e; subst e; rw [sg_anb, h2] at hi; cases A.testBit i <;> exact absurd hi (by simp)
      exact ⟨k, by omega, h1, h2⟩
theorem ct_rng (f : Nat → Bool) (lo : Nat) : ∀ n, lo ≤ n → ct_n (fun i => f i && decide (lo ≤ i)) n + ct_n f lo = ct_n f n := by
  intro n
  induction n with
  | zero =>
    intro h
    have : lo = 0 := by omega
    subst this
    rfl
  | succ n ih =>
    intro h
    show ct_n (fun i => f i && decide (lo ≤ i)) n + (f n && decide (lo ≤ n)).toNat + ct_n f lo = ct_n f n + (f n).toNat
    by_cases e : lo ≤ n
    · rw [decide_eq_true e, Bool.and_true]
      have := ih e
      omega
    · have e2 : lo = n + 1 := by omega
      subst e2
      have hz : ∀ k, k ≤ n → ct_n (fun i => f i && decide (n + 1 ≤ i)) k = 0 := by
        intro k
        induction k with
        | zero => intro _; rfl
        | succ k ih2 =>
          intro hk
          show ct_n (fun i => f i && decide (n + 1 ≤ i)) k + (f k && decide (n + 1 ≤ k)).toNat = 0
          rw [ih2 (by omega), decide_eq_false (by omega), Bool.and_false]
          rfl
      rw [hz n (Nat.le_refl _), decide_eq_false e, Bool.and_false]
      show 0 + 0 + (ct_n f n + (f n).toNat) = _
      omega
/-! one pass that takes what lowers F -/
def gr_O (km F : Nat → Nat) (W : Nat) : Nat → Nat
  | 0 => W
  | k + 1 => if F (sg_an (gr_O km F W k) (km k)) < F (gr_O km F W k) then sg_an (gr_O km F W k) (km k) else gr_O km F W k
def gr_G (km F : Nat → Nat) (W k : Nat) : Bool := decide (F (sg_an (gr_O km F W k) (km k)) < F (gr_O km F W k))
theorem gr_O1 {km F : Nat → Nat} {W k : Nat} (h : gr_G km F W k = true) : gr_O km F W (k + 1) = sg_an (gr_O km F W k) (km k) := if_pos (of_decide_eq_true h)
theorem gr_O0 {km F : Nat → Nat} {W k : Nat} (h : gr_G km F W k = false) : gr_O km F W (k + 1) = gr_O km F W k := if_neg (of_decide_eq_false h)
section
variable {np : Nat} {km F : Nat → Nat} {W : Nat}
theorem gr_sub : ∀ k, sg_sub (gr_O km F W k) W := by
  intro k
  induction k with
  | zero => exact sg_sub_r W
  | succ k ih =>
    cases h : gr_G km F W k
    · rw [gr_O0 h]; exact ih
    · rw [gr_O1 h]; exact sg_sub_t (sg_sub_an _ _) ih
theorem gr_1 (hF : ∀ A, sg_sub A W → fw_L np km A (F A)) {A k : Nat} (hA : sg_sub A W) (hk : k < np) : F A ≤ F (sg_an A (km k)) + 1 :=
  (hF A hA).2 _ ⟨k, hk, (hF _ (sg_sub_t (sg_sub_an A (km k)) hA)).1⟩
theorem gr_2 (hF : ∀ A, sg_sub A W → fw_L np km A (F A)) {A : Nat} (hA : sg_sub A W) (h0 : F A ≠ 0) : ∃ k, k < np ∧ F (sg_an A (km k)) < F A := by
  have h1 := (hF A hA).1
  cases e : F A with
  | zero => exact absurd e h0
  | succ n =>
    rw [e] at h1
    obtain ⟨k, hk, h2⟩ := h1
    refine ⟨k, hk, ?_⟩
    have := (hF _ (sg_sub_t (sg_sub_an A (km k)) hA)).2 n h2
    omega
theorem gr_cnt (hF : ∀ A, sg_sub A W → fw_L np km A (F A)) : ∀ k, k ≤ np → F (gr_O km F W k) + ct_n (gr_G km F W) k = F W := by
  intro k
  induction k with
  | zero => intro _; rfl
  | succ k ih =>
    intro hk
    have h1 := ih (by omega)
    show F (gr_O km F W (k + 1)) + (ct_n (gr_G km F W) k + (gr_G km F W k).toNat) = F W
    cases h : gr_G km F W k
    · rw [gr_O0 h]
      show _ + (_ + 0) = _
      omega
    · rw [gr_O1 h]
      have h2 := of_decide_eq_true h
      have h3 := gr_1 hF (gr_sub (km := km) (F := F) (W := W) k) (k := k) (by omega)
      show _ + (_ + 1) = _
      omega
theorem gr_use (hF : ∀ A, sg_sub A W → fw_L np km A (F A)) : ∀ i, i ≤ np → ∀ j, j < i → F (gr_O km F W i) ≤ F (sg_an (gr_O km F W i) (km j)) := by
  intro i
  induction i with
  | zero => intro _ j hj; omega
  | succ i ih =>
    intro hi j hj
    have hs := gr_sub (km := km) (F := F) (W := W) i
    cases h : gr_G km F W i
    · rw [gr_O0 h]
      by_cases e : j = i
      · subst e
        have := of_decide_eq_false h
        omega
      · exact ih (by omega) j (by omega)
    · rw [gr_O1 h]
      have h2 := of_decide_eq_true h
      by_cases e : j = i
      · subst e
        have e2 : sg_an (sg_an (gr_O km F W j) (km j)) (km j) = sg_an (gr_O km F W j) (km j) := by
          apply Nat.eq_of_testBit_eq
          intro b
          rw [sg_anb, sg_anb]
          cases (gr_O km F W j).testBit b <;> cases (km j).testBit b <;> rfl
        rw [e2]
        exact Nat.le_refl _
      · have h3 := ih (by omega) j (by omega)
        rw [sg_anc]
        have h4 := gr_1 hF (sg_sub_t (sg_sub_an _ (km j)) hs) (k := i) (by omega)
        have h5 := gr_1 hF hs (k := i) (by omega)
        omega
theorem gr_end (hF : ∀ A, sg_sub A W → fw_L np km A (F A)) : gr_O km F W np = 0 ∧ ct_n (gr_G km F W) np = F W := by
  have hs := gr_sub (km := km) (F := F) (W := W) np
  have h0 : F (gr_O km F W np) = 0 := by
    apply Classical.byContradiction
    intro h
    obtain ⟨k, hk, h1⟩ := gr_2 hF hs h
    have := gr_use hF np (Nat.le_refl _) k hk
    omega
  have h1 := gr_cnt hF np (Nat.le_refl _)
  have h2 := (hF _ hs).1
  rw [h0] at h2
  exact ⟨h2, by omega⟩
theorem gr_mem (k : Nat) : ∀ c, (gr_O km F W k).testBit c = true ↔ W.testBit c = true ∧ ∀ j, j < k → gr_G km F W j = true → (km j).testBit c = false := by
  induction k with
  | zero => exact fun c => ⟨fun h => ⟨h, fun j hj => absurd hj (Nat.not_lt_zero _)⟩, fun h => h.1⟩
  | succ k ih =>
    intro c
    cases h : gr_G km F W k
    · rw [gr_O0 h, ih c]
      refine ⟨fun ⟨a, b⟩ => ⟨a, fun j hj hG => ?_⟩, fun ⟨a, b⟩ => ⟨a, fun j hj hG => b j (by omega) hG⟩⟩
      by_cases e : j = k
      · subst e; rw [h] at hG; exact absurd hG (by simp)
      · exact b j (by omega) hG
    · rw [gr_O1 h, sg_anb, Bool.and_eq_true, ih c, Bool.not_eq_true']
      refine ⟨fun ⟨⟨a, b⟩, d⟩ => ⟨a, fun j hj hG => ?_⟩, fun ⟨a, b⟩ => ⟨⟨a, fun j hj hG => b j (by omega) hG⟩, b k (by omega) h⟩⟩
      by_cases e : j = k
      · subst e; exact d
      · exact b j (by omega) hG
theorem gr_cov (hF : ∀ A, sg_sub A W → fw_L np km A (F A)) {c : Nat} (hc : W.testBit c = true) : ∃ k, k < np ∧ gr_G km F W k = true ∧ (km k).testBit c = true := by
  apply Classical.byContradiction
  intro h
  have h1 := (gr_mem (km := km) (F := F) (W := W) np c).mpr ⟨hc, fun j hj hG => bo_nt (fun z => h ⟨j, hj, hG, z⟩)⟩
  rw [(gr_end hF).1, Nat.zero_testBit] at h1
  exact absurd h1 (by simp)
end
/-! lists as numbers: the first is the highest digit -/
def nu_v (g : Nat → Bool) : Nat → Nat
  | 0 => 0
  | k + 1 => 2 * nu_v g k + (g k).toNat
theorem nu_lt (g : Nat → Bool) (n : Nat) : nu_v g n < 2 ^ n := by
  induction n with
  | zero => exact (by decide : 0 < 2 ^ 0)
  | succ n ih =>
    have := sg_toNat_lt (g n)
    show 2 * nu_v g n + (g n).toNat < 2 ^ (n + 1)
    rw [Nat.pow_succ]
    omega
theorem nu_inj {g h : Nat → Bool} : ∀ n, nu_v g n = nu_v h n → ∀ k, k < n → g k = h k := by
  intro n
  induction n with
  | zero => intro _ k hk; omega
  | succ n ih =>
    intro e k hk
    have e' : 2 * nu_v g n + (g n).toNat = 2 * nu_v h n + (h n).toNat := e
    have a := sg_toNat_lt (g n)
    have b := sg_toNat_lt (h n)
    by_cases ek : k = n
    · subst ek
      have : (g k).toNat = (h k).toNat := by omega
      cases hg : g k <;> cases hh : h k <;> rw [hg, hh] at this <;> first | rfl | exact absurd this (by simp)
    · exact ih (by omega) k (by omega)
theorem nu_first {g h : Nat → Bool} : ∀ n, nu_v g n < nu_v h n → ∃ k, k < n ∧ (∀ j, j < k → g j = h j) ∧ g k = false ∧ h k = true := by
  intro n
  induction n with
  | zero => intro z; exact absurd z (Nat.lt_irrefl _)
  | succ n ih =>
    intro e
    have e' : 2 * nu_v g n + (g n).toNat < 2 * nu_v h n + (h n).toNat := e
    have a := sg_toNat_lt (g n)
    have b := sg_toNat_lt (h n)
    by_cases z : nu_v g n < nu_v h n
    · obtain ⟨k, hk, r⟩ := ih z
      exact ⟨k, by omega, r⟩
    · have z2 : nu_v g n = nu_v h n := by omega
      refine ⟨n, by omega, nu_inj n z2, ?_⟩
      have h1 : (g n).toNat = 0 := by omega
      have h2 : (h n).toNat = 1 := by omega
      cases hg : g n <;> cases hh : h n <;> rw [hg] at h1 <;> rw [hh] at h2 <;> first | exact ⟨rfl, rfl⟩ | exact absurd h1 (by decide) | exact absurd h2 (by decide)
def nu_in (n M k : Nat) : Bool := M.testBit (n - 1 - k)
theorem nu_M {n M : Nat} (hM : M < 2 ^ n) : nu_v (nu_in n M) n = M := by
  have : ∀ j, j ≤ n → nu_v (nu_in n M) j = M / 2 ^ (n - j) := by
    intro j
    induction j with
    | zero => intro _; exact (Nat.div_eq_of_lt hM).symm
    | succ j ih =>
      intro hj
      show 2 * nu_v (nu_in n M) j + (nu_in n M j).toNat = _
      rw [ih (by omega)]
      unfold nu_in
      have e : n - j = n - (j + 1) + 1 := by omega
      rw [e, Nat.pow_succ, ← Nat.div_div_eq_div_mul, show n - 1 - j = n - (j + 1) from by omega, Nat.testBit_eq_decide_div_mod_eq]
      generalize M / 2 ^ (n - (j + 1)) = z
      have : (decide (z % 2 = 1)).toNat = z % 2 := by
        rcases Nat.mod_two_eq_zero_or_one z with h | h <;> rw [h] <;> rfl
      omega
  have h := this n (Nat.le_refl _)
  rw [Nat.sub_self, Nat.pow_zero, Nat.div_one] at h
  exact h
theorem nu_of (g : Nat → Bool) {n k : Nat} (hk : k < n) : nu_in n (nu_v g n) k = g k :=
  nu_inj n (nu_M (nu_lt g n)) k hk
/-- the best set of sets: the fewest, then the greatest number -/
def nu_B (np : Nat) (Cv : (Nat → Bool) → Prop) (n M : Nat) : Prop :=
  M < 2 ^ np ∧ Cv (nu_in np M) ∧ ct_n (nu_in np M) np = n ∧ ∀ M', M' < 2 ^ np → Cv (nu_in np M') → n ≤ ct_n (nu_in np M') np ∧ (ct_n (nu_in np M') np = n → M' ≤ M)
theorem nu_Bu {np : Nat} {Cv : (Nat → Bool) → Prop} {n M n' M' : Nat} (h : nu_B np Cv n M) (k : nu_B np Cv n' M') : n = n' ∧ M = M' := by
  obtain ⟨h1, h2, h3, h4⟩ := h
  obtain ⟨k1, k2, k3, k4⟩ := k
  have a := h4 M' k1 k2
  have b := k4 M h1 h2
  rw [k3] at a
  rw [h3] at b
  have e : n = n' := by omega
  exact ⟨e, Nat.le_antisymm (b.2 e) (a.2 e.symm)⟩
theorem gr_best {np : Nat} {km F : Nat → Nat} {W : Nat} (hF : ∀ A, sg_sub A W → fw_L np km A (F A)) {Cv : (Nat → Bool) → Prop}
    (hC : ∀ g, Cv g ↔ ∀ c, W.testBit c = true → ∃ k, k < np ∧ g k = true ∧ (km k).testBit c = true) : nu_B np Cv (F W) (nu_v (gr_G km F W) np) := by
  have hin : ∀ k, k < np → nu_in np (nu_v (gr_G km F W) np) k = gr_G km F W k := fun k hk => nu_of _ hk
  refine ⟨nu_lt _ np, ?_, ?_, fun M h1 h2 => ?_⟩
  · exact (hC _).mpr (fun c hc => by
      obtain ⟨k, hk, a, b⟩ := gr_cov hF hc
      exact ⟨k, hk, by rw [hin k hk]; exact a, b⟩)
  · rw [ct_congr hin]; exact (gr_end hF).2
  have hM := (hF W (sg_sub_r W)).2 _ (fw_of (M := nu_in np M) np W (Nat.le_refl _) ((hC _).mp h2))
  refine ⟨hM, fun h3 => ?_⟩
  have hge : ¬ nu_v (gr_G km F W) np < nu_v (nu_in np M) np := by
    intro z
    obtain ⟨k, hk, ha, hb, hd⟩ := nu_first np z
    have hs := gr_sub (km := km) (F := F) (W := W) k
    have hsA := sg_sub_t (sg_sub_an (gr_O km F W k) (km k)) hs
    have hfw := fw_of (np := np) (km := km) (M := fun i => nu_in np M i && decide (k + 1 ≤ i)) np (sg_an (gr_O km F W k) (km k)) (Nat.le_refl _) (fun c hc => by
      rw [sg_anb, Bool.and_eq_true, Bool.not_eq_true'] at hc
      obtain ⟨hO, hkc⟩ := hc
      obtain ⟨hW, hno⟩ := (gr_mem k c).mp hO
      obtain ⟨j, hj, hjM, hjc⟩ := (hC _).mp h2 c hW
      refine ⟨j, hj, ?_, hjc⟩
      have hjk : k + 1 ≤ j := by
        apply Classical.byContradiction
        intro hlt
        by_cases e : j = k
        · subst e; rw [hkc] at hjc; exact absurd hjc (by simp)
        · have := hno j (by omega) (by rw [ha j (by omega)]; exact hjM)
          rw [this] at hjc
          exact absurd hjc (by simp)
      rw [hjM, decide_eq_true hjk]
      rfl)
    have hle2 := (hF _ hsA).2 _ hfw
    have hr := ct_rng (nu_in np M) (k + 1) np hk
    have hc1 : ct_n (nu_in np M) (k + 1) = ct_n (gr_G km F W) k + 1 := by
      show ct_n (nu_in np M) k + (nu_in np M k).toNat = _
      rw [hd, ct_congr (f := nu_in np M) (g := gr_G km F W) (fun i hi => (ha i hi).symm)]
      rfl
    have hc2 := gr_cnt hF k (by omega)
    have : gr_G km F W k = true := decide_eq_true (by omega)
    rw [hb] at this
    exact absurd this (by simp)
  rw [nu_M h1] at hge
  omega
/-- the search downwards: the numbers from k on are done -/
def nu_I (np : Nat) (Cv : (Nat → Bool) → Prop) (k n M : Nat) : Prop :=
  (∀ M', k ≤ M' → M' < 2 ^ np → Cv (nu_in np M') → n ≤ ct_n (nu_in np M') np ∧ (ct_n (nu_in np M') np = n → M' ≤ M)) ∧ ((n = 100 ∧ M = 0) ∨ (M < 2 ^ np ∧ k ≤ M ∧ Cv (nu_in np M) ∧ ct_n (nu_in np M) np = n))
theorem nu_take {np : Nat} {Cv : (Nat → Bool) → Prop} {k n M : Nat} (I : nu_I np Cv (k + 1) n M) (hk : k < 2 ^ np) (hc : Cv (nu_in np k)) (hn : ct_n (nu_in np k) np < n) : nu_I np Cv k (ct_n (nu_in np k) np) k := by
  refine ⟨fun M' h1 h2 h3 => ?_, Or.inr ⟨hk, Nat.le_refl _, hc, rfl⟩⟩
  by_cases e : M' = k
  · subst e; exact ⟨Nat.le_refl _, fun _ => Nat.le_refl _⟩
  · have := I.1 M' (by omega) h2 h3
    exact ⟨by omega, fun z => by omega⟩
theorem nu_pass {np : Nat} {Cv : (Nat → Bool) → Prop} {k n M : Nat} (hp : np < 100) (I : nu_I np Cv (k + 1) n M) (h : n ≤ ct_n (nu_in np k) np ∨ ¬ Cv (nu_in np k)) : nu_I np Cv k n M := by
  have hc := ct_le (nu_in np k) np
  refine ⟨fun M' h1 h2 h3 => ?_, ?_⟩
  · by_cases e : M' = k
    · subst e
      rcases h with h | h
      · refine ⟨h, fun z => ?_⟩
        rcases I.2 with ⟨h5, _⟩ | ⟨_, h5, _⟩
        · omega
        · omega
      · exact absurd h3 h
    · exact I.1 M' (by omega) h2 h3
  · rcases I.2 with h5 | ⟨h5, h6, h7⟩
    · exact Or.inl h5
    · exact Or.inr ⟨h5, by omega, h7⟩
theorem nu_start (np : Nat) (Cv : (Nat → Bool) → Prop) : nu_I np Cv (2 ^ np) 100 0 :=
  ⟨fun M' h1 h2 => absurd h2 (by omega), Or.inl ⟨rfl, rfl⟩⟩
theorem nu_end {np : Nat} {Cv : (Nat → Bool) → Prop} {n M M0 : Nat} (hp : np < 100) (I : nu_I np Cv 0 n M) (h0 : M0 < 2 ^ np) (hc : Cv (nu_in np M0)) : nu_B np Cv n M := by
  have h1 := (I.1 M0 (Nat.zero_le _) h0 hc).1
  have h2 := ct_le (nu_in np M0) np
  rcases I.2 with ⟨h5, _⟩ | ⟨h5, _, h6, h7⟩
  · omega
  · exact ⟨h5, h6, h7, fun M' a b => I.1 M' (Nat.zero_le _) a b⟩
end
section
/-! the subsets of W in ascending order: the i-th -/
theorem pd_an2 {a b x y : Nat} (hx : x < 2) (hy : y < 2) : sg_an (2 * a + x) (2 * b + y) = 2 * sg_an a b + sg_an x y := by
  have hxy : sg_an x y < 2 := Nat.lt_of_le_of_lt (sg_an_le x y) hx
  apply Nat.eq_of_testBit_eq
  intro i
  rw [sg_anb]
  cases i with
  | zero =>
    rw [Nat.testBit_zero, Nat.testBit_zero, Nat.testBit_zero, show (2 * a + x) % 2 = x from by omega, show (2 * b + y) % 2 = y from by omega, show (2 * sg_an a b + sg_an x y) % 2 = sg_an x y from by omega]
    have : (x = 0 ∨ x = 1) ∧ (y = 0 ∨ y = 1) := by omega
    rcases this with ⟨rfl | rfl, rfl | rfl⟩ <;> decide
  | succ i =>
    rw [Nat.testBit_succ, Nat.testBit_succ, Nat.testBit_succ, show (2 * a + x) / 2 = a from by omega, show (2 * b + y) / 2 = b from by omega, show (2 * sg_an a b + sg_an x y) / 2 = sg_an a b from by omega, sg_anb]
theorem pd_sub2 {a b x y : Nat} (h : sg_sub a b) (hxy : x ≤ y) (hy : y < 2) : sg_sub (2 * a + x) (2 * b + y) := by
  rw [← sg_an_0, pd_an2 (by omega) hy, sg_an_0.mpr h]
  have : (x = 0 ∨ x = 1) ∧ (y = 0 ∨ y = 1) := by omega
  rcases this with ⟨rfl | rfl, rfl | rfl⟩
  · decide
  · decide
  · omega
  · decide
theorem pd_sub2' {a b x y : Nat} (hx : x < 2) (hy : y < 2) (h : sg_sub (2 * a + x) (2 * b + y)) : sg_sub a b ∧ x ≤ y := by
  rw [← sg_an_0, pd_an2 hx hy] at h
  refine ⟨sg_an_0.mp (by omega), ?_⟩
  have : (x = 0 ∨ x = 1) ∧ (y = 0 ∨ y = 1) := by omega
  rcases this with ⟨rfl | rfl, rfl | rfl⟩
  · omega
  · omega
  · exfalso
    have h2 : sg_an 1 0 = 0 := by omega
    exact absurd h2 (by decide)
  · omega
theorem pd_diff {s W : Nat} (h : sg_sub s W) : sg_an W (W - s) = s := by
  have h1 : W - s = sg_an W s := by
    have : sg_an W s + s = W := by
      have key : ∀ f s W, W < 2 ^ f → sg_sub s W → sg_an W s + s = W := by
        intro f
        induction f with
        | zero =>
          intro s W hW h
          have h0 : W = 0 := by rw [Nat.pow_zero] at hW; omega
          have := sg_sub_le h
          have h1 : s = 0 := by omega
          rw [h0, h1]; decide
        | succ f ih =>
          intro s W hW h
          rw [Nat.pow_succ] at hW
          have eW : W = 2 * (W / 2) + W % 2 := by omega
          have es : s = 2 * (s / 2) + s % 2 := by omega
          rw [eW, es] at h
          obtain ⟨h1, h2⟩ := pd_sub2' (by omega) (by omega) h
          have h3 := ih (s / 2) (W / 2) (by omega) h1
          have h4 := pd_an2 (a := W / 2) (b := s / 2) (x := W % 2) (y := s % 2) (by omega) (by omega)
          rw [← eW, ← es] at h4
          have h5 : sg_an (W % 2) (s % 2) + s % 2 = W % 2 := by
            have : (W % 2 = 0 ∨ W % 2 = 1) ∧ (s % 2 = 0 ∨ s % 2 = 1) := by omega
            rcases this with ⟨e1 | e1, e2 | e2⟩
            · rw [e1, e2]; decide
            · omega
            · rw [e1, e2]; decide
            · rw [e1, e2]; decide
          omega
      exact key W s W Nat.lt_two_pow_self h
    omega
  rw [h1]
  apply Nat.eq_of_testBit_eq
  intro i
  rw [sg_anb, sg_anb]
  cases hs : s.testBit i
  · cases W.testBit i <;> rfl
  · rw [h i hs]; rfl
def pd_n : Nat → Nat → Nat → Nat
  | 0, _, _ => 0
  | f + 1, W, i => if W % 2 = 0 then 2 * pd_n f (W / 2) i else 2 * pd_n f (W / 2) (i / 2) + i % 2
def pd_z : Nat → Nat → Nat
  | 0, _ => 1
  | f + 1, W => if W % 2 = 0 then pd_z f (W / 2) else 2 * pd_z f (W / 2)
theorem pd_e {f W i : Nat} (h : W % 2 = 0) : pd_n (f + 1) W i = 2 * pd_n f (W / 2) i := if_pos h
theorem pd_o {f W i : Nat} (h : W % 2 = 1) : pd_n (f + 1) W i = 2 * pd_n f (W / 2) (i / 2) + i % 2 := if_neg (by omega)
theorem pd_ze {f W : Nat} (h : W % 2 = 0) : pd_z (f + 1) W = pd_z f (W / 2) := if_pos h
theorem pd_zo {f W : Nat} (h : W % 2 = 1) : pd_z (f + 1) W = 2 * pd_z f (W / 2) := if_neg (by omega)
theorem pd_s : ∀ f W i, sg_sub (pd_n f W i) W := by
  intro f
  induction f with
  | zero => intro W i; exact sg_sub0 W
  | succ f ih =>
    intro W i
    have eW : W = 2 * (W / 2) + W % 2 := by omega
    by_cases h : W % 2 = 0
    · have := pd_sub2 (ih (W / 2) i) (x := 0) (y := W % 2) (by omega) (by omega)
      rw [← eW] at this
      rw [pd_e h]; exact this
    · have := pd_sub2 (ih (W / 2) (i / 2)) (x := i % 2) (y := W % 2) (by omega) (by omega)
      rw [← eW] at this
      rw [pd_o (by omega)]; exact this
theorem pd_0 : ∀ f W, pd_n f W 0 = 0 := by
  intro f
  induction f with
  | zero => intro W; rfl
  | succ f ih =>
    intro W
    by_cases h : W % 2 = 0
    · rw [pd_e h, ih]
    · rw [pd_o (by omega), ih]
theorem pd_lt : ∀ f W i j, i < j → j < pd_z f W → pd_n f W i < pd_n f W j := by
  intro f
  induction f with
  | zero =>
    intro W i j h1 h2
    have h3 : j < 1 := h2
    omega
  | succ f ih =>
    intro W i j h1 h2
    by_cases h : W % 2 = 0
    · rw [pd_ze h] at h2
      rw [pd_e h, pd_e h]
      have := ih (W / 2) i j h1 h2
      omega
    · rw [pd_zo (by omega)] at h2
      rw [pd_o (by omega), pd_o (by omega)]
      by_cases e : i / 2 = j / 2
      · rw [e]; omega
      · have := ih (W / 2) (i / 2) (j / 2) (by omega) (by omega)
        omega
theorem pd_inv {f W i j : Nat} (h : pd_n f W i < pd_n f W j) (hi : i < pd_z f W) : i < j := by
  apply Classical.byContradiction
  intro z
  by_cases e : i = j
  · subst e; omega
  · have := pd_lt f W j i (by omega) hi
    omega
theorem pd_su : ∀ f W B, W < 2 ^ f → sg_sub B W → ∃ i, i < pd_z f W ∧ pd_n f W i = B := by
  intro f
  induction f with
  | zero =>
    intro W B hW h
    have := sg_sub_le h
    rw [Nat.pow_zero] at hW
    refine ⟨0, (by decide : 0 < 1), ?_⟩
    show 0 = B
    omega
  | succ f ih =>
    intro W B hW h
    rw [Nat.pow_succ] at hW
    have eW : W = 2 * (W / 2) + W % 2 := by omega
    have eB : B = 2 * (B / 2) + B % 2 := by omega
    rw [eW, eB] at h
    obtain ⟨h1, h2⟩ := pd_sub2' (by omega) (by omega) h
    obtain ⟨i, hi, e⟩ := ih (W / 2) (B / 2) (by omega) h1
    by_cases hw : W % 2 = 0
    · refine ⟨i, by rw [pd_ze hw]; exact hi, ?_⟩
      rw [pd_e hw, e]; omega
    · refine ⟨2 * i + B % 2, by rw [pd_zo (by omega)]; omega, ?_⟩
      rw [pd_o (by omega), show (2 * i + B % 2) / 2 = i from by omega, show (2 * i + B % 2) % 2 = B % 2 from by omega, e]
      omega
theorem pd_nx : ∀ f W i, W < 2 ^ f → i + 1 < pd_z f W → sg_an W (W - pd_n f W i - 1) = pd_n f W (i + 1) := by
  intro f
  induction f with
  | zero =>
    intro W i _ h
    have h3 : i + 1 < 1 := h
    omega
  | succ f ih =>
    intro W i hW h
    have hlt := pd_lt (f + 1) W i (i + 1) (by omega) h
    have hle := sg_sub_le (pd_s (f + 1) W (i + 1))
    rw [Nat.pow_succ] at hW
    have eW : W = 2 * (W / 2) + W % 2 := by omega
    by_cases hw : W % 2 = 0
    · rw [pd_ze hw] at h
      have h1 := ih (W / 2) i (by omega) h
      rw [pd_e hw] at hlt hle
      rw [pd_e hw] at hlt
      rw [pd_e hw, pd_e hw, ← h1]
      have e1 : W - 2 * pd_n f (W / 2) i - 1 = 2 * (W / 2 - pd_n f (W / 2) i - 1) + 1 := by omega
      have e2 : sg_an (2 * (W / 2) + 0) (2 * (W / 2 - pd_n f (W / 2) i - 1) + 1) = _ := pd_an2 (by omega) (by omega)
      rw [e1]
      have e3 : W = 2 * (W / 2) + 0 := by omega
      have e4 : sg_an 0 1 = 0 := by decide
      rw [e4] at e2
      calc sg_an W (2 * (W / 2 - pd_n f (W / 2) i - 1) + 1) = sg_an (2 * (W / 2) + 0) (2 * (W / 2 - pd_n f (W / 2) i - 1) + 1) := by rw [← e3]
        _ = _ := e2
        _ = _ := by omega
    · have hw1 : W % 2 = 1 := by omega
      rw [pd_zo hw1] at h
      have hsub := pd_s f (W / 2) (i / 2)
      have hsl := sg_sub_le hsub
      have e3 : W = 2 * (W / 2) + 1 := by omega
      rw [pd_o hw1, pd_o hw1]
      by_cases hi : i % 2 = 0
      · have e1 : W - (2 * pd_n f (W / 2) (i / 2) + i % 2) - 1 = 2 * (W / 2 - pd_n f (W / 2) (i / 2)) + 0 := by omega
        have e2 : sg_an (2 * (W / 2) + 1) (2 * (W / 2 - pd_n f (W / 2) (i / 2)) + 0) = _ := pd_an2 (by omega) (by omega)
        have e4 : sg_an 1 0 = 1 := by decide
        rw [pd_diff hsub, e4, ← e3] at e2
        rw [e1, e2, show (i + 1) / 2 = i / 2 from by omega, show (i + 1) % 2 = 1 from by omega]
      · have h1 := ih (W / 2) (i / 2) (by omega) (by omega)
        have hlt2 := pd_lt f (W / 2) (i / 2) (i / 2 + 1) (by omega) (by omega)
        have hle2 := sg_sub_le (pd_s f (W / 2) (i / 2 + 1))
        have e1 : W - (2 * pd_n f (W / 2) (i / 2) + i % 2) - 1 = 2 * (W / 2 - pd_n f (W / 2) (i / 2) - 1) + 1 := by omega
        have e2 : sg_an (2 * (W / 2) + 1) (2 * (W / 2 - pd_n f (W / 2) (i / 2) - 1) + 1) = _ := pd_an2 (by omega) (by omega)
        have e4 : sg_an 1 1 = 0 := by decide
        rw [h1, e4, ← e3] at e2
        rw [e1, e2, show (i + 1) / 2 = i / 2 + 1 from by omega, show (i + 1) % 2 = 0 from by omega]
theorem ct_shift (g : Nat → Bool) (n : Nat) : ct_n g (n + 1) = (g 0).toNat + ct_n (fun i => g (i + 1)) n := by
  induction n with
  | zero =>
    show 0 + (g 0).toNat = (g 0).toNat + 0
    omega
  | succ n ih =>
    show ct_n g (n + 1) + (g (n + 1)).toNat = (g 0).toNat + (ct_n (fun i => g (i + 1)) n + (g (n + 1)).toNat)
    rw [ih]; omega
theorem pd_zz : ∀ f W, pd_z f W = 2 ^ ct_n (fun i => W.testBit i) f := by
  intro f
  induction f with
  | zero => intro W; rfl
  | succ f ih =>
    intro W
    rw [ct_shift]
    have e : ct_n (fun i => W.testBit (i + 1)) f = ct_n (fun i => (W / 2).testBit i) f := ct_congr (fun i _ => Nat.testBit_succ W i)
    have e0 : (W.testBit 0).toNat = W % 2 := by
      rw [Nat.testBit_zero]
      rcases Nat.mod_two_eq_zero_or_one W with h | h <;> rw [h] <;> rfl
    rw [e, e0]
    by_cases h : W % 2 = 0
    · rw [pd_ze h, ih, h, Nat.zero_add]
    · have h1 : W % 2 = 1 := by omega
      rw [pd_zo h1, ih, h1, Nat.pow_add, Nat.pow_one]
/-- the next set, as the component reckons it -/
theorem pd_step {s W : Nat} (h : s < W) (hW : W < 2 ^ 31) : (nI s - nI W) &&& nI W = nI (sg_an W (W - s - 1)) := by
  have e1 : nI s - nI W = nI (W - s - 1) ^^^ (-1) := by
    have h2 : nI (W - s - 1) ^^^ (-1) = -(nI (W - s - 1)) - 1 := by
      generalize nI (W - s - 1) = x
      apply Int32.toBitVec_inj.mp
      show x.toBitVec ^^^ (-1 : Int32).toBitVec = -x.toBitVec - 1#32
      rw [show (-1 : Int32).toBitVec = BitVec.allOnes 32 from by decide, BitVec.xor_allOnes, BitVec.neg_eq_not_add, BitVec.add_sub_cancel]
    have h3 : nI W = nI s + nI (W - s - 1) + 1 := by
      rw [nI_add, nI_1]
      congr 1
      omega
    rw [h2, h3]
    grind
  rw [e1, Int32.and_comm, sg_andn]
/-- the least member, as the component reckons it -/
theorem pd_low : ∀ n A, A ≠ 0 → A ≤ n → ∃ b, A.testBit b = true ∧ sg_an A (A - 1) = 2 ^ b := by
  intro n
  induction n with
  | zero => intro A h1 h2; omega
  | succ n ih =>
    intro A h1 h2
    by_cases h : A % 2 = 1
    · refine ⟨0, ?_, ?_⟩
      · rw [Nat.testBit_zero, h]; rfl
      · have e : sg_an (2 * (A / 2) + 1) (2 * (A / 2) + 0) = _ := pd_an2 (by omega) (by omega)
        have e4 : sg_an 1 0 = 1 := by decide
        have e5 : sg_an (A / 2) (A / 2) = 0 := sg_an_0.mpr (sg_sub_r _)
        rw [e4, e5, show 2 * (A / 2) + 1 = A from by omega, show 2 * (A / 2) + 0 = A - 1 from by omega] at e
        rw [e]
    · obtain ⟨b, hb, e⟩ := ih (A / 2) (by omega) (by omega)
      refine ⟨b + 1, ?_, ?_⟩
      · rw [Nat.testBit_succ]; exact hb
      · have e2 : sg_an (2 * (A / 2) + 0) (2 * (A / 2 - 1) + 1) = _ := pd_an2 (by omega) (by omega)
        have e4 : sg_an 0 1 = 0 := by decide
        rw [e, e4, show 2 * (A / 2) + 0 = A from by omega, show 2 * (A / 2 - 1) + 1 = A - 1 from by omega] at e2
        rw [e2, Nat.pow_succ]
        omega
theorem pd_neg {A : Nat} (h : A ≠ 0) : nI A &&& -(nI A) = nI (sg_an A (A - 1)) := by
  have e : -(nI A) = nI (A - 1) ^^^ (-1) := by
    have h2 : nI (A - 1) ^^^ (-1) = -(nI (A - 1)) - 1 := by
      generalize nI (A - 1) = x
      apply Int32.toBitVec_inj.mp
      show x.toBitVec ^^^ (-1 : Int32).toBitVec = -x.toBitVec - 1#32
      rw [show (-1 : Int32).toBitVec = BitVec.allOnes 32 from by decide, BitVec.xor_allOnes, BitVec.neg_eq_not_add, BitVec.add_sub_cancel]
    have h3 : nI A = nI (A - 1) + 1 := by
      rw [nI_1]
      congr 1
      omega
    rw [h2, h3]
    grind
  rw [e, sg_andn]
end
section
/-! the primes in their order; the cover; the gates; the circuit against the net -/
theorem cu_lo_is {f : Nat → Bool} : ∀ {n q : Nat}, q < n → f q = true → f (cu_lo f n) = true ∧ cu_lo f n < n := by
  intro n
  induction n with
  | zero => intro q h; omega
  | succ n ih =>
    intro q h hf
    show f (if f n = true then n else cu_lo f n) = true ∧ (if f n = true then n else cu_lo f n) < n + 1
    by_cases e : f n = true
    · rw [if_pos e]; exact ⟨e, by omega⟩
    · rw [if_neg e]
      have : q ≠ n := by intro z; subst z; exact e hf
      have := ih (q := q) (by omega) hf
      exact ⟨this.1, by omega⟩
/-- how many primes, the k-th prime, the k-th prime's codes -/
def pq_n (S : Nat) (v : Nat → Nat) : Nat := ct_n (pr_p S v) (3 ^ S)
def pq_q (S : Nat) (v : Nat → Nat) (k : Nat) : Nat := cu_lo (fun q => pr_p S v q && (ct_n (pr_p S v) q == k)) (3 ^ S)
def pq_m (S : Nat) (v : Nat → Nat) (k : Nat) : Nat := cu_m S (pq_q S v k) (2 ^ S)
theorem pq_is {S : Nat} {v : Nat → Nat} {k : Nat} (h : k < pq_n S v) : pr_p S v (pq_q S v k) = true ∧ ct_n (pr_p S v) (pq_q S v k) = k ∧ pq_q S v k < 3 ^ S := by
  obtain ⟨q, hq, hp, hc⟩ := ct_enum h
  have := cu_lo_is (f := fun q => pr_p S v q && (ct_n (pr_p S v) q == k)) hq (by show (_ && _) = true; rw [hp, hc, beq_self_eq_true]; rfl)
  have h1 : (pr_p S v (pq_q S v k) && (ct_n (pr_p S v) (pq_q S v k) == k)) = true := this.1
  rw [Bool.and_eq_true, beq_iff_eq] at h1
  exact ⟨h1.1, h1.2, this.2⟩
theorem pq_of {S : Nat} {v : Nat → Nat} {q : Nat} (hq : q < 3 ^ S) (hp : pr_p S v q = true) : ct_n (pr_p S v) q < pq_n S v ∧ pq_q S v (ct_n (pr_p S v) q) = q := by
  have h := ct_pos hq hp
  obtain ⟨a, b, c⟩ := pq_is (S := S) (v := v) h
  exact ⟨h, ct_inj a hp b⟩
theorem pq_le {S : Nat} (a : 1 ≤ S) (b : S ≤ 4) (v : Nat → Nat) : pq_n S v ≤ 27 := pr_le a b v
theorem pq_cong {S : Nat} {v w : Nat → Nat} (h : ∀ c, c < 2 ^ S → v c = w c) : pq_n S v = pq_n S w ∧ pq_q S v = pq_q S w := by
  have e : pr_p S v = pr_p S w := funext (pr_cong h)
  unfold pq_n
  refine ⟨by rw [e], funext (fun k => ?_)⟩
  unfold pq_q
  rw [e]
/-- the codes with value a -/
def pq_x (v : Nat → Nat) (a : Nat) : Nat → Nat
  | 0 => 0
  | c + 1 => pq_x v a c ||| (if v c = a then 2 ^ c else 0)
theorem pq_xb (v : Nat → Nat) (a n c : Nat) : (pq_x v a n).testBit c = (decide (c < n) && decide (v c = a)) := by
  induction n with
  | zero => show (0 : Nat).testBit c = _; rw [Nat.zero_testBit]; simp
  | succ n ih =>
    show (pq_x v a n ||| (if v n = a then 2 ^ n else 0)).testBit c = _
    rw [Nat.testBit_or, ih]
    by_cases e : c = n
    · subst e
      by_cases h : v c = a
      · rw [if_pos h, Nat.testBit_two_pow, decide_eq_true h]; simp
      · rw [if_neg h, decide_eq_false h]; simp
    · have h2 : (if v n = a then 2 ^ n else 0).testBit c = false := by
        by_cases h : v n = a
        · rw [if_pos h, Nat.testBit_two_pow]
          exact decide_eq_false (fun z => e z.symm)
        · rw [if_neg h, Nat.zero_testBit]
      have h3 : decide (c < n + 1) = decide (c < n) := by
        by_cases h : c < n
        · rw [decide_eq_true h, decide_eq_true (by omega)]
        · rw [decide_eq_false h, decide_eq_false (by omega)]
      rw [h2, h3, Bool.or_false]
theorem pq_xlt {v : Nat → Nat} {a n : Nat} (hn : n ≤ 16) : pq_x v a n < 65536 := by
  apply sg_16.mpr
  intro i hi
  rw [pq_xb, decide_eq_false (by omega)]
  rfl
def pq_w (v : Nat → Nat) (n : Nat) : Nat := pq_x v 1 n
theorem pq_wb (v : Nat → Nat) (n c : Nat) : (pq_w v n).testBit c = (decide (c < n) && decide (v c = 1)) := pq_xb v 1 n c
/-- what the masks of the component say -/
theorem pq_mh1 {S : Nat} {v : Nat → Nat} {q : Nat} : cu_m S q (2 ^ S) &&& pq_x v 1 (2 ^ S) = 0 ↔ pr_h1 S v q = false := by
  unfold pr_h1
  rw [sg_and0, ex_not]
  refine ⟨fun h c hc => ?_, fun h c hc => ?_⟩
  · have h1 := h c
    rw [cu_mb, pq_xb, decide_eq_true hc, Bool.true_and, Bool.true_and] at h1
    cases hq : cu_cv S q c
    · exact Bool.and_false _
    · have := of_decide_eq_false (h1 hq)
      simp [this]
  · rw [cu_mb, Bool.and_eq_true, decide_eq_true_eq] at hc
    have h1 := h c hc.1
    rw [hc.2, Bool.and_true, beq_eq_false_iff_ne] at h1
    rw [pq_xb, decide_eq_false h1, Bool.and_false]
theorem pq_mim {S : Nat} {v : Nat → Nat} {q : Nat} : cu_m S q (2 ^ S) &&& pq_x v 0 (2 ^ S) = 0 ↔ pr_im S v q = true := by
  rw [sg_and0, pr_im_iff]
  refine ⟨fun h c hc hv => bo_nt (fun hq => ?_), fun h c hc => ?_⟩
  · have h1 := h c
    rw [cu_mb, pq_xb, decide_eq_true hc, Bool.true_and, Bool.true_and] at h1
    exact of_decide_eq_false (h1 hq) hv
  · rw [cu_mb, Bool.and_eq_true, decide_eq_true_eq] at hc
    rw [pq_xb]
    by_cases hv : v c = 0
    · rw [h c hc.1 hv] at hc
      exact absurd hc.2 (by simp)
    · rw [decide_eq_false hv, Bool.and_false]
theorem pq_mal {S p q : Nat} : sg_an (cu_m S q (2 ^ S)) (cu_m S p (2 ^ S)) = 0 ↔ pr_al S p q = true := by
  rw [sg_an_0, pr_al_iff]
  refine ⟨fun h c hc hq => ?_, fun h c hc => ?_⟩
  · have := h c (by rw [cu_mb, decide_eq_true hc, hq]; rfl)
    rw [cu_mb, Bool.and_eq_true] at this
    exact this.2
  · rw [cu_mb, Bool.and_eq_true, decide_eq_true_eq] at hc
    rw [cu_mb, decide_eq_true hc.1, h c hc.1 hc.2]
    rfl
/-- the chosen primes meet code c -/
def pq_sc (S : Nat) (v : Nat → Nat) (g : Nat → Bool) (c : Nat) : Bool := ex_n (fun k => g k && cu_cv S (pq_q S v k) c) (pq_n S v)
/-- the chosen primes are a cover -/
def pq_C (S : Nat) (v : Nat → Nat) (g : Nat → Bool) : Prop := ∀ c, c < 2 ^ S → v c = 1 → pq_sc S v g c = true
theorem pq_Ciff {S : Nat} {v : Nat → Nat} (g : Nat → Bool) : pq_C S v g ↔ ∀ c, (pq_w v (2 ^ S)).testBit c = true → ∃ k, k < pq_n S v ∧ g k = true ∧ (pq_m S v k).testBit c = true := by
  refine ⟨fun h c hc => ?_, fun h c hc hv => ?_⟩
  · rw [pq_wb, Bool.and_eq_true, decide_eq_true_eq, decide_eq_true_eq] at hc
    obtain ⟨k, hk, hg⟩ := ex_iff.mp (h c hc.1 hc.2)
    rw [Bool.and_eq_true] at hg
    refine ⟨k, hk, hg.1, ?_⟩
    unfold pq_m
    rw [cu_mb, decide_eq_true hc.1, hg.2]
    rfl
  · obtain ⟨k, hk, hg, hm⟩ := h c (by rw [pq_wb, decide_eq_true hc, decide_eq_true hv]; rfl)
    unfold pq_m at hm
    rw [cu_mb, Bool.and_eq_true] at hm
    exact ex_iff.mpr ⟨k, hk, by rw [hg, hm.2]; rfl⟩
/-- every wanted code lies in one of the primes -/
theorem pq_hit {S : Nat} (a : 1 ≤ S) (b : S ≤ 4) {v : Nat → Nat} {i : Nat} (h : (pq_w v (2 ^ S)).testBit i = true) : i < 16 ∧ ∃ k, k < pq_n S v ∧ (pq_m S v k).testBit i = true := by
  rw [pq_wb, Bool.and_eq_true, decide_eq_true_eq, decide_eq_true_eq] at h
  have h16 := (cu_3 a b).2.2.1
  obtain ⟨q, hq, hp, hc⟩ := pr_ex a b h.1 h.2
  obtain ⟨h1, h2⟩ := pq_of hq hp
  refine ⟨by omega, ct_n (pr_p S v) q, h1, ?_⟩
  unfold pq_m
  rw [h2, cu_mb, decide_eq_true h.1, hc]
  rfl
theorem pq_wlt {S : Nat} (b : S ≤ 4) {v : Nat → Nat} : pq_w v (2 ^ S) < 65536 := pq_xlt (nt_pS b)
/-- the cover: its size n, its number M -/
def pq_B (S : Nat) (v : Nat → Nat) (n M : Nat) : Prop := nu_B (pq_n S v) (pq_C S v) n M
theorem pq_full {S : Nat} (a : 1 ≤ S) (b : S ≤ 4) (v : Nat → Nat) : ∃ M, M < 2 ^ pq_n S v ∧ pq_C S v (nu_in (pq_n S v) M) := by
  refine ⟨nu_v (fun _ => true) (pq_n S v), nu_lt _ _, (pq_Ciff _).mpr (fun c hc => ?_)⟩
  obtain ⟨_, k, hk, hm⟩ := pq_hit a b hc
  exact ⟨k, hk, nu_of _ hk, hm⟩
theorem pq_Ccong {S : Nat} {v w : Nat → Nat} (h : ∀ c, c < 2 ^ S → v c = w c) : pq_C S v = pq_C S w := by
  obtain ⟨h1, h2⟩ := pq_cong h
  funext g
  apply propext
  unfold pq_C pq_sc
  rw [h1, h2]
  exact ⟨fun z c hc hv => z c hc (by rw [h c hc]; exact hv), fun z c hc hv => z c hc (by rw [← h c hc]; exact hv)⟩
theorem pq_Bcong {S : Nat} {v w : Nat → Nat} (h : ∀ c, c < 2 ^ S → v c = w c) {n M : Nat} (k : pq_B S v n M) : pq_B S w n M := by
  unfold pq_B at k ⊢
  rw [← (pq_cong h).1, ← pq_Ccong h]
  exact k
/-- the met states: dv i c: output i is driven at c -/
def me_ok (inp : Nat → Bool) (dv : Nat → Nat → Bool) (sg pe : Nat → Nat) (t s : Nat) : Bool := nt_en pe t (s / 16) && (inp (sg t) || dv (sg t) (s % 16))
def me_st (T : Nat) (inp : Nat → Bool) (dv : Nat → Nat → Bool) (sg dr pe po : Nat → Nat) (a b : Nat) : Prop := ∃ t, t < T ∧ me_ok inp dv sg pe t a = true ∧ b = nt_fr sg dr pe po t a
theorem me_st_lt {S T : Nat} (hS : S ≤ 4) {inp : Nat → Bool} {dv : Nat → Nat → Bool} {sg dr pe po : Nat → Nat} (B : nt_B S sg dr pe po) : ∀ a b, a < 1024 → me_st T inp dv sg dr pe po a b → b < 1024 := by
  rintro a b ha ⟨t, _, _, e⟩
  rw [e]
  exact nt_fr_lt hS B t ha
/-- what a state shows -/
def sh_n (S T : Nat) (dv : Nat → Nat → Bool) (sg pe : Nat → Nat) (s : Nat) : Bool := ex_n (fun i => dv i (s % 16) && !(nt_he T sg pe i (s / 16))) S
def sh_h (S T : Nat) (inp : Nat → Bool) (dv : Nat → Nat → Bool) (sg dr pe po : Nat → Nat) (s : Nat) : Bool :=
  ex_n (fun i => ex_n (fun t => dv i (s % 16) && (!(sg t == i) && (me_ok inp dv sg pe t s && !(dv i (nt_fr sg dr pe po t s % 16))))) T) S
def sh_s (S T : Nat) (inp : Nat → Bool) (dv : Nat → Nat → Bool) (sg pe : Nat → Nat) (s : Nat) : Bool :=
  !(ex_n (fun i => dv i (s % 16) || (nt_he T sg pe i (s / 16) && inp i)) S) && ex_n (fun i => nt_he T sg pe i (s / 16)) S
/-- the same of the component's masks: D driven, E enabled -/
theorem mk_n {S T : Nat} {dv : Nat → Nat → Bool} {sg pe : Nat → Nat} {s D E : Nat} (hD : ∀ i, D.testBit i = (decide (i < S) && dv i (s % 16))) (hE : ∀ i, E.testBit i = nt_he T sg pe i (s / 16)) :
    sg_an D E = 0 ↔ sh_n S T dv sg pe s = false := by
  unfold sh_n
  rw [sg_an_0, ex_not]
  refine ⟨fun h i hi => ?_, fun h i hi => ?_⟩
  · have h1 := h i
    rw [hD, hE, decide_eq_true hi, Bool.true_and] at h1
    cases hd : dv i (s % 16)
    · rfl
    · rw [h1 hd]; rfl
  · rw [hD, Bool.and_eq_true, decide_eq_true_eq] at hi
    have h1 := h i hi.1
    rw [hi.2, Bool.true_and, Bool.not_eq_false'] at h1
    rw [hE]; exact h1
theorem mk_s {S T im : Nat} {dv : Nat → Nat → Bool} {sg pe : Nat → Nat} {s D E : Nat} (hD : ∀ i, D.testBit i = (decide (i < S) && dv i (s % 16))) (hE : ∀ i, E.testBit i = nt_he T sg pe i (s / 16)) (hS : ∀ t, sg t < S) :
    (sg_an E im ≠ 0 ∧ D = 0 ∧ E &&& im = 0) ↔ sh_s S T im.testBit dv sg pe s = true := by
  have hlt : ∀ i, nt_he T sg pe i (s / 16) = true → i < S := by
    intro i hi
    obtain ⟨t, _, h⟩ := ex_iff.mp hi
    rw [Bool.and_eq_true, beq_iff_eq] at h
    rw [← h.1]; exact hS t
  unfold sh_s
  rw [Bool.and_eq_true, Bool.not_eq_true', ex_not, ex_iff]
  constructor
  · rintro ⟨h1, h2, h3⟩
    refine ⟨fun i hi => ?_, ?_⟩
    · have h4 := hD i
      rw [h2, Nat.zero_testBit, decide_eq_true hi, Bool.true_and] at h4
      rw [← h4, Bool.false_or]
      have h5 := sg_and0.mp h3 i
      rw [hE] at h5
      cases hh : nt_he T sg pe i (s / 16)
      · rfl
      · rw [h5 hh]; rfl
    · obtain ⟨i, hi⟩ := sg_n0 h1
      rw [sg_anb, Bool.and_eq_true, hE] at hi
      exact ⟨i, hlt i hi.1, hi.1⟩
  · rintro ⟨h1, i, hi, h2⟩
    have h3 : ∀ j, E.testBit j = true → im.testBit j = false := by
      intro j hj
      rw [hE] at hj
      have := h1 j (hlt j hj)
      rw [hj] at this
      rw [Bool.or_eq_false_iff] at this
      exact this.2
    refine ⟨?_, ?_, sg_and0.mpr h3⟩
    · intro h0
      have h4 := sg_an_0.mp h0 i (by rw [hE]; exact h2)
      rw [h3 i (by rw [hE]; exact h2)] at h4
      exact absurd h4 (by simp)
    · refine sg_0 (fun j => ?_)
      rw [hD]
      by_cases hj : j < S
      · have := h1 j hj
        rw [Bool.or_eq_false_iff] at this
        rw [this.1, Bool.and_false]
      · rw [decide_eq_false hj]; rfl
theorem mk_h {S T : Nat} {inp : Nat → Bool} {dv : Nat → Nat → Bool} {sg dr pe po : Nat → Nat} {s D : Nat} {D' : Nat → Nat} (hD : ∀ i, D.testBit i = (decide (i < S) && dv i (s % 16)))
    (hD' : ∀ t i, (D' t).testBit i = (decide (i < S) && dv i (nt_fr sg dr pe po t s % 16))) :
    ex_n (fun t => me_ok inp dv sg pe t s && !(sg_an (sg_an D (2 ^ sg t)) (D' t) == 0)) T = sh_h S T inp dv sg dr pe po s := by
  apply bo_iff
  unfold sh_h
  rw [ex_iff, ex_iff]
  constructor
  · rintro ⟨t, ht, h⟩
    rw [Bool.and_eq_true, Bool.not_eq_true', beq_eq_false_iff_ne] at h
    obtain ⟨i, hi⟩ := sg_n0 h.2
    rw [sg_anb, sg_anb, Bool.and_eq_true, Bool.and_eq_true, Bool.not_eq_true', Bool.not_eq_true', hD, hD', Bool.and_eq_true, decide_eq_true_eq, Nat.testBit_two_pow, decide_eq_false_iff_not] at hi
    obtain ⟨⟨⟨hS, hd⟩, hne⟩, hd'⟩ := hi
    rw [decide_eq_true hS, Bool.true_and] at hd'
    refine ⟨i, hS, ex_iff.mpr ⟨t, ht, ?_⟩⟩
    rw [hd, h.1, hd', beq_eq_false_iff_ne.mpr hne]
    rfl
  · rintro ⟨i, hS, h⟩
    obtain ⟨t, ht, h⟩ := ex_iff.mp h
    rw [Bool.and_eq_true, Bool.and_eq_true, Bool.and_eq_true, Bool.not_eq_true', Bool.not_eq_true', beq_eq_false_iff_ne] at h
    obtain ⟨hd, hne, hok, hd'⟩ := h
    refine ⟨t, ht, ?_⟩
    rw [hok, Bool.true_and, Bool.not_eq_true', beq_eq_false_iff_ne]
    intro h0
    have h1 := sg_an_0.mp h0 i (by rw [sg_anb, hD, hd, decide_eq_true hS, Nat.testBit_two_pow, decide_eq_false hne]; rfl)
    rw [hD', hd', Bool.and_false] at h1
    exact absurd h1 (by simp)
end
section
/-! what the walks need beside -/
theorem bo_br {b : Bool} {A B : Prop} (f : b = false → A) (g : b = true → B) : (nI b.toNat = 0 → A) ∧ (¬ nI b.toNat = 0 → B) :=
  ⟨fun h => f (sg_t0.mp h), fun h => g (bo_nf (fun z => h (sg_t0.mpr z)))⟩
theorem bo_br1 {b : Bool} {A B : Prop} (f : b = true → A) (g : b = false → B) : (nI b.toNat = 1 → A) ∧ (¬ nI b.toNat = 1 → B) :=
  ⟨fun h => f (sg_t1.mp h), fun h => g (bo_nt (fun z => h (sg_t1.mpr z)))⟩
theorem bo_or (a b : Bool) : nI a.toNat ||| nI b.toNat = nI (a || b).toNat := by cases a <;> cases b <;> decide +kernel
theorem bo_and (a b : Bool) : nI a.toNat &&& nI b.toNat = nI (a && b).toNat := by cases a <;> cases b <;> decide +kernel
theorem bo_nar (b : Bool) : narrow .boolean (.int (nI b.toNat)) = .int (nI b.toNat) := by cases b <;> rfl
theorem bo_vn (b : Bool) : vp_nar .boolean (nI b.toNat) = nI b.toNat := by cases b <;> rfl
theorem bo_e1 : nI true.toNat = 1 := rfl
theorem bo_e0 : nI false.toNat = 0 := rfl
def xe_ex (R X : Nat → Bool) (c j : Nat) : Bool := ex_n (fun s => (s % 16 == c) && (R s && X s)) j
theorem xe_any {R X : Nat → Bool} {c : Nat} (hc : c < 16) : xe_ex R X c 1024 = ex_n (fun m => R (16 * m + c) && X (16 * m + c)) 64 := by
  apply bo_iff
  unfold xe_ex
  rw [ex_iff, ex_iff]
  constructor
  · rintro ⟨s, hs, h⟩
    rw [Bool.and_eq_true, beq_iff_eq] at h
    refine ⟨s / 16, by omega, ?_⟩
    rw [show 16 * (s / 16) + c = s from by omega]
    exact h.2
  · rintro ⟨m, hm, h⟩
    refine ⟨16 * m + c, by omega, ?_⟩
    rw [h, show (16 * m + c) % 16 = c from by omega, beq_self_eq_true]
    rfl
/-- the component's marks of a code -/
def xe_A (T : Nat) (sg dr pe po : Nat → Nat) (R : Nat → Bool) (j : Nat) (as aa ao : Nat → Int32) : Prop := ∀ c, c < 16 → as c = nI (xe_ex R (fun _ => true) c j).toNat ∧ ∀ i, i < 4 →
  bt (aa c) i = !(xe_ex R (fun s => !(nt_ex T sg dr pe po i (s / 16) (s % 16))) c j) ∧ bt (ao c) i = xe_ex R (fun s => nt_ex T sg dr pe po i (s / 16) (s % 16)) c j
theorem xe_seen {T : Nat} {sg dr pe po : Nat → Nat} {R : Nat → Bool} {as aa ao : Nat → Int32} (A : xe_A T sg dr pe po R 1024 as aa ao) {c : Nat} (hc : c < 16) : as c = nI (nv_seen R c).toNat := by
  rw [(A c hc).1, xe_any hc]
  unfold nv_seen
  rw [ex_congr (f := fun m => R (16 * m + c) && true) (g := fun m => R (16 * m + c)) (fun i _ => Bool.and_true _)]
theorem xe_all {T : Nat} {sg dr pe po : Nat → Nat} {R : Nat → Bool} {as aa ao : Nat → Int32} (A : xe_A T sg dr pe po R 1024 as aa ao) {c i : Nat} (hc : c < 16) (hi : i < 4) :
    bt (aa c) i = nv_all R (fun m => nt_ex T sg dr pe po i m c) c ∧ bt (ao c) i = nv_any R (fun m => nt_ex T sg dr pe po i m c) c := by
  obtain ⟨h1, h2⟩ := (A c hc).2 i hi
  have e1 : ∀ m, (16 * m + c) / 16 = m := fun m => by omega
  have e2 : ∀ m, (16 * m + c) % 16 = c := fun m => by omega
  constructor
  · rw [h1, xe_any hc]
    unfold nv_all al_n
    rw [ex_congr (fun m _ => ?_)]
    dsimp only
    rw [e1, e2]
    cases R (16 * m + c) <;> cases nt_ex T sg dr pe po i m c <;> rfl
  · rw [h2, xe_any hc]
    unfold nv_any
    rw [ex_congr (fun m _ => ?_)]
    dsimp only
    rw [e1, e2]
/-- one state more -/
theorem xe_no {R X : Nat → Bool} {c j : Nat} (h : R j = false) : xe_ex R X c (j + 1) = xe_ex R X c j := by
  show (xe_ex R X c j || ((j % 16 == c) && (R j && X j))) = _
  rw [h]; simp
theorem xe_ne {R X : Nat → Bool} {c j : Nat} (h : c ≠ j % 16) : xe_ex R X c (j + 1) = xe_ex R X c j := by
  show (xe_ex R X c j || ((j % 16 == c) && (R j && X j))) = _
  rw [beq_eq_false_iff_ne.mpr (fun z => h z.symm)]; simp
theorem xe_eq {R X : Nat → Bool} {j : Nat} (h : R j = true) : xe_ex R X (j % 16) (j + 1) = (xe_ex R X (j % 16) j || X j) := by
  show (xe_ex R X (j % 16) j || ((j % 16 == j % 16) && (R j && X j))) = _
  rw [h, beq_self_eq_true]; rfl
theorem xe_skip {T : Nat} {sg dr pe po : Nat → Nat} {R : Nat → Bool} {as aa ao : Nat → Int32} {j : Nat} (A : xe_A T sg dr pe po R j as aa ao) (h : R j = false) : xe_A T sg dr pe po R (j + 1) as aa ao := by
  intro c hc
  obtain ⟨h1, h2⟩ := A c hc
  refine ⟨by rw [xe_no h]; exact h1, fun i hi => ?_⟩
  rw [xe_no h, xe_no h]
  exact h2 i hi
theorem xe_put {T : Nat} {sg dr pe po : Nat → Nat} {R : Nat → Bool} {as aa ao : Nat → Int32} {j M : Nat} (A : xe_A T sg dr pe po R j as aa ao) (h : R j = true)
    (hM : ∀ i, M.testBit i = nt_ex T sg dr pe po i (j / 16) (j % 16)) : xe_A T sg dr pe po R (j + 1) (upd as (j % 16) 1) (upd aa (j % 16) (aa (j % 16) &&& nI M)) (upd ao (j % 16) (ao (j % 16) ||| nI M)) := by
  intro c hc
  obtain ⟨h1, h2⟩ := A c hc
  by_cases e : c = j % 16
  · subst e
    rw [pk_us, pk_us, pk_us]
    refine ⟨?_, fun i hi => ?_⟩
    · rw [xe_eq h, Bool.or_true]; rfl
    · obtain ⟨h3, h4⟩ := h2 i hi
      rw [xe_eq h, xe_eq h, b_and, b_or, h3, h4, sg_bt M (by omega), hM i]
      refine ⟨?_, rfl⟩
      cases xe_ex R (fun s => !(nt_ex T sg dr pe po i (s / 16) (s % 16))) (j % 16) j <;> cases nt_ex T sg dr pe po i (j / 16) (j % 16) <;> rfl
  · rw [pk_un e, pk_un e, pk_un e, xe_ne e]
    refine ⟨h1, fun i hi => ?_⟩
    rw [xe_ne e, xe_ne e]
    exact h2 i hi
theorem xe_0 (T : Nat) (sg dr pe po : Nat → Nat) (R : Nat → Bool) {as aa ao : Nat → Int32} (h : ∀ c, c < 16 → as c = 0 ∧ aa c = -1 ∧ ao c = 0) : xe_A T sg dr pe po R 0 as aa ao := by
  intro c hc
  obtain ⟨h1, h2, h3⟩ := h c hc
  refine ⟨h1, fun i hi => ?_⟩
  rw [h2, h3, b_m1 i (by omega), b_0]
  exact ⟨rfl, rfl⟩
theorem xe_cong {T : Nat} {sg dr pe po : Nat → Nat} {R Q : Nat → Bool} (h : ∀ s, s < 1024 → R s = Q s) {as aa ao : Nat → Int32} (A : xe_A T sg dr pe po R 1024 as aa ao) : xe_A T sg dr pe po Q 1024 as aa ao := by
  have e : ∀ X c, xe_ex R X c 1024 = xe_ex Q X c 1024 := fun X c => ex_congr (fun s hs => by rw [h s hs])
  intro c hc
  obtain ⟨h1, h2⟩ := A c hc
  refine ⟨by rw [← e]; exact h1, fun i hi => ?_⟩
  rw [← e, ← e]
  exact h2 i hi
/-- the least torn one: the first 16 * i + c are not torn -/
theorem cf_row {S : Nat} {inp : Nat → Bool} {v : Nat → Nat → Nat} {i : Nat} (h : ∀ k, k < 16 * i + 2 ^ S → cf_f S inp v k = false) : ∀ k, k < 16 * (i + 1) → cf_f S inp v k = false := by
  intro k hk
  rcases Nat.lt_or_ge k (16 * i + 2 ^ S) with z | z
  · exact h k z
  · unfold cf_f
    by_cases e : k % 16 < 2 ^ S
    · exfalso; omega
    · rw [decide_eq_false e]; simp
theorem cf_at {S : Nat} (hS : S ≤ 4) {inp : Nat → Bool} {v : Nat → Nat → Nat} {i c : Nat} (hc : c < 2 ^ S) : cf_f S inp v (16 * i + c) = (!(inp i) && (v i c == 3)) := by
  have := nt_pS hS
  unfold cf_f
  rw [show (16 * i + c) / 16 = i from by omega, show (16 * i + c) % 16 = c from by omega, decide_eq_true hc, Bool.true_and]
/-- the queue: some state among the first h shows f -/
def qu_x (f : Nat → Bool) (q : Nat → Int32) (h : Nat) (b : Bool) : Prop := b = true ↔ ∃ j a, j < h ∧ a < 1024 ∧ q j = nI a ∧ f a = true
theorem qu_0 (f : Nat → Bool) (q : Nat → Int32) : qu_x f q 0 false := ⟨fun h => absurd h (by simp), fun ⟨_, _, h, _⟩ => absurd h (Nat.not_lt_zero _)⟩
theorem qu_s {f : Nat → Bool} {q q' : Nat → Int32} {h n a : Nat} {b : Bool} (H : qu_x f q h b) (hh : h < n) (ha : a < 1024) (e : q h = nI a) (hq : ∀ j, j < n → q' j = q j) : qu_x f q' (h + 1) (b || f a) := by
  unfold qu_x at H ⊢
  rw [Bool.or_eq_true, H]
  constructor
  · rintro (⟨j, x, h1, h2, h3, h4⟩ | h4)
    · exact ⟨j, x, by omega, h2, by rw [hq j (by omega)]; exact h3, h4⟩
    · exact ⟨h, a, by omega, ha, by rw [hq h hh]; exact e, h4⟩
  · rintro ⟨j, x, h1, h2, h3, h4⟩
    rw [hq j (by omega)] at h3
    by_cases ej : j = h
    · subst ej
      rw [e, nI_eq (by omega) (by omega)] at h3
      rw [h3]; exact Or.inr h4
    · exact Or.inl ⟨j, x, by omega, h2, h3, h4⟩
theorem qu_end {st : Nat → Nat → Prop} {s0 n h : Nat} {R f : Nat → Bool} {q : Nat → Int32} {b : Bool} (J : bf_J st s0 R q n) (H : qu_x f q h b) (hh : h = n) : b = ex_n (fun s => R s && f s) 1024 := by
  obtain ⟨h1, h2, h3, h4, h5⟩ := J
  unfold qu_x at H
  apply bo_iff
  rw [H, ex_iff]
  constructor
  · rintro ⟨j, a, z1, z2, z3, z4⟩
    obtain ⟨s, y1, y2⟩ := h5 j (by omega)
    rw [z3, nI_eq (by omega) (by have := (h3 s y1).2; omega)] at y2
    subst y2
    exact ⟨a, z2, by rw [y1, z4]; rfl⟩
  · rintro ⟨s, z1, z2⟩
    rw [Bool.and_eq_true] at z2
    obtain ⟨j, y1, y2⟩ := h4 s z2.1
    exact ⟨j, s, by omega, z1, y2, z2.2⟩
theorem nt_Ux (T : Nat) (pe po : Nat → Nat) (R : Nat → Bool) : nt_U T pe po R = ex_n (fun s => R s && ex_n (fun t => nt_en pe t (s / 16) && nt_un pe po t (s / 16)) T) 1024 := by
  apply bo_iff
  unfold nt_U
  rw [ex_iff, ex_iff]
  constructor
  · rintro ⟨s, hs, h⟩
    obtain ⟨t, ht, h⟩ := ex_iff.mp h
    rw [Bool.and_eq_true] at h
    exact ⟨s, hs, by rw [h.1, ex_iff.mpr ⟨t, ht, h.2⟩]; rfl⟩
  · rintro ⟨s, hs, h⟩
    rw [Bool.and_eq_true] at h
    obtain ⟨t, ht, h2⟩ := ex_iff.mp h.2
    exact ⟨s, hs, ex_iff.mpr ⟨t, ht, by rw [h.1, h2]; rfl⟩⟩
theorem nt_Ix (T : Nat) (sg dr pe : Nat → Nat) (R : Nat → Bool) : nt_I T sg dr pe R = ex_n (fun s => R s && ex_n (fun t => nt_en pe t (s / 16) && nt_ic sg dr t (s % 16)) T) 1024 := by
  apply bo_iff
  unfold nt_I
  rw [ex_iff, ex_iff]
  constructor
  · rintro ⟨s, hs, h⟩
    obtain ⟨t, ht, h⟩ := ex_iff.mp h
    rw [Bool.and_eq_true] at h
    exact ⟨s, hs, by rw [h.1, ex_iff.mpr ⟨t, ht, h.2⟩]; rfl⟩
  · rintro ⟨s, hs, h⟩
    rw [Bool.and_eq_true] at h
    obtain ⟨t, ht, h2⟩ := ex_iff.mp h.2
    exact ⟨s, hs, ex_iff.mpr ⟨t, ht, by rw [h.1, h2]; rfl⟩⟩
end
section
/-! the readers' terms -/
theorem iv_le {n : Nat} (h : n < 1024) : n < 2 ^ 31 := by omega
theorem iv_31 {n k : Nat} (h : n < k) (hk : k ≤ 65536 := by omega) : n < 2 ^ 31 := by omega
theorem iv_n0 {n : Nat} (h : n < 2 ^ 31) : nI n = 0 ↔ n = 0 := by rw [← nI_0]; exact nI_eq h (by omega)
theorem iv_enY {pe : Nat → Nat} {t m : Nat} (hm : m < 64) (hp : pe t < 64) : nI m &&& nI (pe t) = nI (pe t) ↔ nt_en pe t m = true := by
  have h : m &&& pe t < 2 ^ 31 := Nat.lt_of_le_of_lt Nat.and_le_left (by omega)
  rw [nx_and, nI_eq h (by omega)]
  unfold nt_en
  exact beq_iff_eq.symm
theorem iv_enX {pe : Nat → Nat} {t m : Nat} (hp : pe t < 64) : nI (pe t) &&& (nI m ^^^ (-1)) = 0 ↔ nt_en pe t m = true := by
  have h : sg_an (pe t) m < 2 ^ 31 := Nat.lt_of_le_of_lt (sg_an_le _ _) (by omega)
  rw [sg_andn, iv_n0 h, nt_enX]
theorem iv_un {pe po : Nat → Nat} {t m : Nat} (hm : m < 64) : (nI m &&& (nI (pe t) ^^^ (-1))) &&& nI (po t) = 0 ↔ nt_un pe po t m = false := by
  have h : sg_an m (pe t) &&& po t < 2 ^ 31 := Nat.lt_of_le_of_lt Nat.and_le_left (Nat.lt_of_le_of_lt (sg_an_le _ _) (by omega))
  rw [sg_andn, nx_and, iv_n0 h]
  unfold nt_un
  rw [bne_eq_false_iff_eq]
theorem iv_ic {sg dr : Nat → Nat} {t c : Nat} (hs : sg t < 4) (hd : dr t ≤ 1) : (nI c >>> (nI (sg t) &&& 31)) &&& 1 = nI (dr t) ↔ nt_ic sg dr t c = true := by
  rw [sg_bitN c (by omega), nI_eq (sg_tl _) (by omega)]
  unfold nt_ic
  exact beq_iff_eq.symm
theorem iv_fm {pe po : Nat → Nat} {t m : Nat} : (nI m &&& (nI (pe t) ^^^ (-1))) ||| nI (po t) = nI (nt_fm pe po t m) := by
  rw [sg_andn, sg_or]; rfl
theorem iv_16 (a b : Nat) : nI a * 16 + nI b = nI (a * 16 + b) := by
  show nI a * nI 16 + nI b = _
  rw [pk_mul, nI_add]
theorem iv_16' (a b : Nat) : 16 * nI a + nI b = nI (16 * a + b) := by
  show nI 16 * nI a + nI b = _
  rw [pk_mul, nI_add]
theorem iv_fcX {S : Nat} (hS : S ≤ 4) {sg dr pe po : Nat → Nat} (B : nt_B S sg dr pe po) {t c : Nat} : (nI c &&& (((1 : Int32) <<< (nI (sg t) &&& 31)) ^^^ (-1))) ||| (nI (dr t) <<< (nI (sg t) &&& 31)) = nI (nt_fc sg dr t c) := by
  have hs := (B t).1
  have hd := (B t).2.1
  have h16 : 2 ^ sg t ≤ 16 := nt_pS (by omega)
  have hm : dr t * 2 ^ sg t ≤ 16 := by
    have : dr t = 0 ∨ dr t = 1 := by omega
    rcases this with e | e <;> rw [e] <;> omega
  rw [sg_s1 (by omega), sg_andn, pk_shlN (nI (sg t) &&& 31) (sg t) (s_l _ (by omega)) (by omega), sg_or, nt_fcX B]
theorem iv_bS {S : Nat} (hS : S ≤ 4) {sg dr pe po : Nat → Nat} (B : nt_B S sg dr pe po) (t : Nat) : sg t < 4 ∧ dr t ≤ 1 ∧ pe t < 64 ∧ po t < 64 := ⟨Nat.lt_of_lt_of_le (B t).1 hS, (B t).2⟩
theorem iv_div {s : Nat} (h : s < 1024) : nI s / 16 = nI (s / 16) := pk_div (d := 16) (by omega) (by omega) (by omega)
theorem iv_rem {s : Nat} (h : s < 1024) : nI s - nI s / 16 * 16 = nI (s % 16) := pk_rem (d := 16) (by omega) (by omega) (by omega)
theorem iv_p {k : Nat} (hk : k < 31) : (1 : Int32) <<< (nI k &&& 31) = nI (2 ^ k) := sg_s1 hk
/-- an int within 0 and n, as a number -/
theorem iv_ix (x : Int32) {n : Nat} (hn : n < 2 ^ 31) : (∃ j, j < n ∧ x = nI j) ∨ (x < 0 ∨ nI n ≤ x) := by
  rcases pk_ix x hn with h | h | h
  · exact Or.inr (Or.inl h)
  · exact Or.inr (Or.inr h)
  · exact Or.inl h
theorem iv_up (sg : Nat → Nat) (k x : Nat) : upd (fun j => nI (sg j)) k (nI x) = fun j => nI (if j = k then x else sg j) := by
  funext j
  show (if j = k then nI x else nI (sg j)) = _
  by_cases e : j = k
  · rw [if_pos e, if_pos e]
  · rw [if_neg e, if_neg e]
theorem iv_upb (im k : Nat) (b : Bool) (im' : Nat) (h : ∀ j, im'.testBit j = if j = k then b else im.testBit j) : upd (fun j => nI (im.testBit j).toNat) k (nI b.toNat) = fun j => nI (im'.testBit j).toNat := by
  funext j
  show (if j = k then nI b.toNat else nI (im.testBit j).toNat) = _
  rw [h j]
  by_cases e : j = k
  · rw [if_pos e, if_pos e]
  · rw [if_neg e, if_neg e]
end
section
/-! the two states -/
def cu_ar (S : Nat) : Nat → Int32 := fun q => if q < 3 ^ S then nI (cu_m S q (2 ^ S)) else 0
def xt (P S T : Nat) (sg dr pe po : Nat → Nat) (im s0 : Nat) (tb : Nat → Int32) (vd us ic rc pc mc ln lh ls : Int32) (ar asn aa ao apt act acu aco aq apc af ad am : Nat → Int32) : SX :=
  (nI S, nI (2 ^ P), nI (2 ^ S), nI (3 ^ S), nI T, nI im, nI s0, vd, us, ic, rc, pc, mc, ln, lh, ls, cu_ar S, (fun j => nI (sg j)), (fun j => nI (dr j)), (fun j => nI (pe j)), (fun j => nI (po j)), tb, ar, asn, aa, ao, apt, act, acu, aco, aq, apc, af, ad, am, 65536)
def yt (P S T : Nat) (sg dr pe po : Nat → Nat) (im s0 : Nat) (tb : Nat → Int32) (vd pc cm cc : Int32) (yr ym yn yi yp yv : Nat → Int32) : SY :=
  (nI P, nI S, nI (s0 / 16), nI (s0 % 16), nI T, vd, pc, cm, cc, (fun j => nI (sg j)), (fun j => nI (dr j)), (fun j => nI (pe j)), (fun j => nI (po j)), (fun j => nI (im.testBit j).toNat), tb, yr, ym, yn, yi, yp, yv)
/-- the bounds -/
def nt_K (P S T : Nat) (sg dr pe po : Nat → Nat) (im s0 : Nat) : Prop := (2 ≤ P ∧ P ≤ 6) ∧ (1 ≤ S ∧ S ≤ 4) ∧ T ≤ 12 ∧ nt_B S sg dr pe po ∧ im < 16 ∧ s0 < 1024 ∧ s0 % 16 < 2 ^ S
end
section
/-! the reference's readers -/
section
variable {P S T : Nat} {sg dr pe po : Nat → Nat} {im s0 : Nat} {tb : Nat → Int32}
variable {vd us ic rc pc mc ln lh ls cm cc : Int32} {ar asn aa ao apt act acu aco aq apc af ad am yr ym yn yi yp yv : Nat → Int32}
theorem bo_if {c : Prop} {b : Bool} {post : Int32 → Prop} (hc : c ↔ b = true) (h : post (nI b.toNat)) : (c → post 1) ∧ (¬ c → post 0) := by
  cases b
  · exact ⟨fun z => absurd (hc.mp z) (by simp), fun _ => h⟩
  · exact ⟨fun _ => h, fun z => absurd (hc.mpr rfl) z⟩
theorem bo_if0 {c : Prop} {b : Bool} {post : Int32 → Prop} (hc : c ↔ b = false) (h : post (nI b.toNat)) : (c → post 0) ∧ (¬ c → post 1) := by
  cases b
  · exact ⟨fun _ => h, fun z => absurd (hc.mpr rfl) z⟩
  · exact ⟨fun z => absurd (hc.mp z) (by simp), fun _ => h⟩
theorem yw_enabled (K : nt_K P S T sg dr pe po im s0) {t m : Nat} (ht : t < T) (hm : m < 64) {post : Int32 → Prop} (h : post (nI (nt_en pe t m).toNat)) : wpY_enabled post (yt P S T sg dr pe po im s0 tb vd pc cm cc yr ym yn yi yp yv) (nI t) (nI m) := by
  have hT := K.2.2.1
  have hB := iv_bS K.2.1.2 K.2.2.2.1 t
  have hv : vp_in (nI t) 12 := vp_in_nI (by omega) (by decide)
  unfold wpY_enabled yt
  try dsimp only
  rw [nI_clamp (by omega)]
  exact ⟨hv, hv, bo_if (iv_enY hm hB.2.2.1) h⟩
theorem yw_unsafe (K : nt_K P S T sg dr pe po im s0) {t m : Nat} (ht : t < T) (hm : m < 64) {post : Int32 → Prop} (h : post (nI (nt_un pe po t m).toNat)) : wpY_unsafe post (yt P S T sg dr pe po im s0 tb vd pc cm cc yr ym yn yi yp yv) (nI t) (nI m) := by
  have hT := K.2.2.1
  have hv : vp_in (nI t) 12 := vp_in_nI (by omega) (by decide)
  unfold wpY_unsafe yt
  try dsimp only
  rw [nI_clamp (by omega)]
  exact ⟨hv, hv, bo_if0 (iv_un hm) h⟩
theorem yw_inconsistent (K : nt_K P S T sg dr pe po im s0) {t c : Nat} (ht : t < T) {post : Int32 → Prop} (h : post (nI (nt_ic sg dr t c).toNat)) : wpY_inconsistent post (yt P S T sg dr pe po im s0 tb vd pc cm cc yr ym yn yi yp yv) (nI t) (nI c) := by
  have hT := K.2.2.1
  have hB := iv_bS K.2.1.2 K.2.2.2.1 t
  have hv : vp_in (nI t) 12 := vp_in_nI (by omega) (by decide)
  unfold wpY_inconsistent yt
  try dsimp only
  rw [nI_clamp (by omega)]
  exact ⟨hv, hv, bo_if (iv_ic hB.1 hB.2.1) h⟩
theorem yw_cellAfter (K : nt_K P S T sg dr pe po im s0) {t m c : Nat} (ht : t < T) {post : Int32 → Prop} (h : post (nI (nt_fm pe po t m * 16 + nt_fc sg dr t c))) : wpY_cellAfter post (yt P S T sg dr pe po im s0 tb vd pc cm cc yr ym yn yi yp yv) (nI t) (nI m) (nI c) := by
  have hT := K.2.2.1
  have hB := iv_bS K.2.1.2 K.2.2.2.1 t
  have hv : vp_in (nI t) 12 := vp_in_nI (by omega) (by decide)
  unfold wpY_cellAfter yt
  try dsimp only
  rw [nI_clamp (by omega)]
  refine ⟨hv, nm_r (sg_s1 (by omega)) ⟨hv, hv, nm_r iv_fm ⟨hv, ?_⟩⟩⟩
  rw [Nat.mul_comm] at h
  by_cases hd : dr t = 1
  · refine br_t (by rw [hd]; rfl) (nm_r (sg_or _ _) ?_)
    rw [iv_16']
    unfold nt_fc at h
    rw [if_pos hd] at h
    exact h
  · refine br_f (fun z => hd ((nI_eq (b := 1) (by omega) (by omega)).mp z)) (nm_r (sg_andn _ _) ?_)
    rw [iv_16']
    unfold nt_fc at h
    rw [if_neg hd] at h
    exact h
theorem yw_cellAfterS (K : nt_K P S T sg dr pe po im s0) {t s : Nat} (ht : t < T) {post : Int32 → Prop} (h : post (nI (nt_fr sg dr pe po t s))) : wpY_cellAfter post (yt P S T sg dr pe po im s0 tb vd pc cm cc yr ym yn yi yp yv) (nI t) (nI (s / 16)) (nI (s % 16)) := yw_cellAfter K ht h
theorem yw_excited (K : nt_K P S T sg dr pe po im s0) {i m c : Nat} (hi : i < 4) (hm : m < 64) {post : Int32 → Prop} (h : post (nI (nt_ex T sg dr pe po i m c).toNat)) : wpY_excited post (yt P S T sg dr pe po im s0 tb vd pc cm cc yr ym yn yi yp yv) (nI i) (nI m) (nI c) := by
  have hT := K.2.2.1
  let f : Nat → Bool := fun t => (sg t == i) && (nt_en pe t m && (!(nt_un pe po t m) && !(nt_ic sg dr t c)))
  refine loop_0 (σ := Unit) (fun n t _ => wY_excited_3 post (nI i) (nI m) (nI c) (nI P) (nI S) (nI (s0 / 16)) (nI (s0 % 16)) (nI T) vd pc cm cc (fun j => nI (sg j)) (fun j => nI (dr j)) (fun j => nI (pe j)) (fun j => nI (po j)) (fun j => nI (im.testBit j).toNat) tb yr ym yn yi yp yv n (nI t)) (fun t _ => ∀ j, j < t → f j = false) T () (fun j hj => absurd hj (Nat.not_lt_zero _)) ?_ ?_
  · intro n _ hI
    have e : nt_ex T sg dr pe po i m c = false := ex_not.mpr hI
    rw [e] at h
    exact br_t (nI_le (Nat.le_refl _) (by omega)) h
  · intro n t _ ht hI ih
    have hB := iv_bS K.2.1.2 K.2.2.2.1 t
    have hn : f t = false → wY_excited_3 post (nI i) (nI m) (nI c) (nI P) (nI S) (nI (s0 / 16)) (nI (s0 % 16)) (nI T) vd pc cm cc (fun j => nI (sg j)) (fun j => nI (dr j)) (fun j => nI (pe j)) (fun j => nI (po j)) (fun j => nI (im.testBit j).toNat) tb yr ym yn yi yp yv n (nI (t + 1)) := fun hf => ih () (lt_s hI hf)
    refine br_f (nI_ge ht (by omega)) ⟨vp_in_nI (by omega) (by decide), ?_⟩
    try dsimp only
    rw [nI_clamp (by omega)]
    by_cases hs : sg t = i
    · refine br_t (by rw [hs]) (yw_enabled K ht hm (bo_br (fun h1 => nm_r (nI_1 t) (hn ?_)) (fun h1 => ?_)))
      · show ((sg t == i) && (nt_en pe t m && _)) = false
        rw [h1]; simp
      refine yw_unsafe K ht hm (bo_br (fun h2 => ?_) (fun h2 => nm_r (nI_1 t) (hn ?_)))
      · refine yw_inconsistent K ht (bo_br (fun h3 => ?_) (fun h3 => nm_r (nI_1 t) (hn ?_)))
        · have e : nt_ex T sg dr pe po i m c = true := ex_iff.mpr ⟨t, ht, by rw [h1, h2, h3, hs, beq_self_eq_true]; rfl⟩
          rw [e] at h
          exact h
        · show ((sg t == i) && (nt_en pe t m && (_ && !(nt_ic sg dr t c)))) = false
          rw [h3]; simp
      · show ((sg t == i) && (nt_en pe t m && (!(nt_un pe po t m) && _))) = false
        rw [h2]; simp
    · refine br_f (fun z => hs ((nI_eq (by omega) (by omega)).mp z)) (nm_r (nI_1 t) (hn ?_))
      show ((sg t == i) && _) = false
      rw [beq_eq_false_iff_ne.mpr hs]; rfl
/-- counts of the markings of a code -/
theorem yw_valueFor (K : nt_K P S T sg dr pe po im s0) {R : Nat → Bool} (hR : ∀ s, s < 1024 → yr s = nI (R s).toNat) {i c : Nat} (hi : i < 4) (hc : c < 16) {post : Int32 → Prop} (h : post (nI (nt_v T sg dr pe po R i c))) : wpY_valueFor post (yt P S T sg dr pe po im s0 tb vd pc cm cc yr ym yn yi yp yv) (nI i) (nI c) := by
  let f : Nat → Bool := fun m => R (16 * m + c)
  let g : Nat → Bool := fun m => R (16 * m + c) && nt_ex T sg dr pe po i m c
  refine loop_0 (σ := Unit) (fun n m _ => wY_valueFor_8 post (nI i) (nI c) (nI P) (nI S) (nI (s0 / 16)) (nI (s0 % 16)) (nI T) vd pc cm cc (fun j => nI (sg j)) (fun j => nI (dr j)) (fun j => nI (pe j)) (fun j => nI (po j)) (fun j => nI (im.testBit j).toNat) tb yr ym yn yi yp yv n (nI (ct_n f m)) (nI (ct_n g m)) (nI m)) (fun _ _ => True) 64 () trivial ?_ ?_
  · intro n _ _
    have hf := ct_le f 64
    have hg := ct_le g 64
    refine br_t (nI_le (Nat.le_refl 64) (by omega)) (nm_r (sg_bitN c (by omega)) ?_)
    have seen : nv_seen R c = false ↔ ct_n f 64 = 0 := by
      unfold nv_seen
      rw [ex_not]
      constructor
      · intro z
        rw [ct_congr (f := f) (g := fun _ => false) z]
        decide +kernel
      · intro z k hk
        apply bo_nt
        intro hf
        have := ct_pos (f := f) hk hf
        omega
    have none : nv_any R (fun m => nt_ex T sg dr pe po i m c) c = false ↔ ct_n g 64 = 0 := by
      unfold nv_any
      rw [ex_not]
      constructor
      · intro z
        rw [ct_congr (f := g) (g := fun _ => false) z]
        decide +kernel
      · intro z k hk
        apply bo_nt
        intro hf
        have := ct_pos (f := g) hk hf
        omega
    have all : nv_all R (fun m => nt_ex T sg dr pe po i m c) c = true ↔ ct_n g 64 = ct_n f 64 := by
      unfold nv_all
      rw [al_iff]
      constructor
      · intro z
        refine ct_congr (fun k hk => ?_)
        have := z k hk
        show (R (16 * k + c) && nt_ex T sg dr pe po i k c) = R (16 * k + c)
        cases hr : R (16 * k + c)
        · rfl
        · rw [hr] at this
          exact this
      · intro z k hk
        cases hr : R (16 * k + c)
        · rfl
        · cases he : nt_ex T sg dr pe po i k c
          · exfalso
            have := ct_lt (f := g) (g := f) (n := 64) (k := k) (fun j hj hgj => by
              have h2 : (R (16 * j + c) && nt_ex T sg dr pe po i j c) = true := hgj
              rw [Bool.and_eq_true] at h2
              exact h2.1) hk (by show (R (16 * k + c) && nt_ex T sg dr pe po i k c) = false; rw [he, Bool.and_false]) hr
            omega
          · exact he
    unfold nt_v at h
    by_cases h1 : nv_seen R c = false
    · rw [if_pos h1] at h
      exact br_t (by rw [seen.mp h1]; rfl) h
    · rw [if_neg h1] at h
      refine br_f (fun z => h1 (seen.mpr ((iv_n0 (by omega)).mp z))) ?_
      by_cases h2 : nv_all R (fun m => nt_ex T sg dr pe po i m c) c = true
      · rw [if_pos h2] at h
        refine br_t (by rw [all.mp h2]) ?_
        have e : (1 : Int32) - nI (c.testBit i).toNat = nI (1 - (c.testBit i).toNat) := pk_sub (a := 1) (by have := sg_toNat_lt (c.testBit i); omega)
        rw [e]
        exact h
      · rw [if_neg h2] at h
        refine br_f (fun z => h2 (all.mpr ((nI_eq (by omega) (by omega)).mp z))) ?_
        by_cases h3 : nv_any R (fun m => nt_ex T sg dr pe po i m c) c = false
        · rw [if_pos h3] at h
          exact br_t (by rw [none.mp h3]; rfl) h
        · rw [if_neg h3] at h
          exact br_f (fun z => h3 (none.mpr ((iv_n0 (by omega)).mp z))) h
  · intro n m _ hm _ ih
    have hn := ih () trivial
    have e16 : 16 * nI m + nI c = nI (16 * m + c) := iv_16' m c
    refine br_f (nI_ge hm (by decide)) ?_
    try dsimp only
    rw [e16, nI_clamp (by omega), hR _ (by omega)]
    refine ⟨vp_in_nI (by omega) (by decide), bo_br (fun h1 => nm_r (nI_1 m) ?_) (fun h1 => nm_r (nI_1 _) (yw_excited K hi hm (bo_br (fun h2 => nm_r (nI_1 m) ?_) (fun h2 => nm_r (nI_1 _) (nm_r (nI_1 m) ?_)))))⟩
    · have e1 : ct_n f (m + 1) = ct_n f m := by show ct_n f m + (R (16 * m + c)).toNat = _; rw [h1]; rfl
      have e2 : ct_n g (m + 1) = ct_n g m := by show ct_n g m + (R (16 * m + c) && _).toNat = _; rw [h1]; rfl
      rw [e1, e2] at hn
      exact hn
    · have e1 : ct_n f (m + 1) = ct_n f m + 1 := by show ct_n f m + (R (16 * m + c)).toNat = _; rw [h1]; rfl
      have e2 : ct_n g (m + 1) = ct_n g m := by show ct_n g m + (R (16 * m + c) && nt_ex T sg dr pe po i m c).toNat = _; rw [h2, Bool.and_false]; rfl
      rw [e1, e2] at hn
      exact hn
    · have e1 : ct_n f (m + 1) = ct_n f m + 1 := by show ct_n f m + (R (16 * m + c)).toNat = _; rw [h1]; rfl
      have e2 : ct_n g (m + 1) = ct_n g m + 1 := by show ct_n g m + (R (16 * m + c) && nt_ex T sg dr pe po i m c).toNat = _; rw [h1, h2]; rfl
      rw [e1, e2] at hn
      exact hn
end
end
section
/-! the reference's explore -/
section
variable {P S T : Nat} {sg dr pe po : Nat → Nat} {im s0 : Nat} {tb : Nat → Int32}
variable {vd us ic rc pc mc ln lh ls cm cc : Int32} {ar asn aa ao apt act acu aco aq apc af ad am yr ym yn yi yp yv : Nat → Int32}
/-- the array holds the set -/
def rp_A (a : Nat → Int32) (R : Nat → Bool) : Prop := ∀ s, s < 1024 → a s = nI (R s).toNat
theorem rp_u {a : Nat → Int32} {R : Nat → Bool} (h : rp_A a R) (b : Nat) : rp_A (upd a b (vp_nar .boolean 1)) (ct_u R b) := by
  intro s hs
  by_cases e : s = b
  · subst e
    rw [pk_us, ct_us]
    exact bo_vn true
  · rw [pk_un e, ct_un R e]
    exact h s hs
/-- the verdict of a reached set -/
def nt_J (S T : Nat) (sg dr pe po : Nat → Nat) (im : Nat) (R : Nat → Bool) : Nat :=
  if nt_U T pe po R = true then 2 else if nt_I T sg dr pe R = true then 3 else if ex_n (cf_f S im.testBit (nt_v T sg dr pe po R)) (16 * S) = true then 4 else 1
theorem yw_leastConflict (K : nt_K P S T sg dr pe po im s0) {R : Nat → Bool} (hR : rp_A yr R) {post : Int32 → Prop} (h : ∀ r, ls_n (cf_f S im.testBit (nt_v T sg dr pe po R)) (16 * S) r → post r) : wpY_leastConflict post (yt P S T sg dr pe po im s0 tb vd pc cm cc yr ym yn yi yp yv) := by
  have hS := K.2.1
  have hp := nt_pS hS.2
  refine loop_0 (σ := Unit) (fun n i _ => wY_leastConflict_2 post (nI P) (nI S) (nI (s0 / 16)) (nI (s0 % 16)) (nI T) vd pc cm cc (fun j => nI (sg j)) (fun j => nI (dr j)) (fun j => nI (pe j)) (fun j => nI (po j)) (fun j => nI (im.testBit j).toNat) tb yr ym yn yi yp yv n (nI i)) (fun i _ => ∀ k, k < 16 * i → cf_f S im.testBit (nt_v T sg dr pe po R) k = false) S () (fun j hj => absurd hj (Nat.not_lt_zero _)) ?_ ?_
  · intro n _ hI
    exact br_t (nI_le (Nat.le_refl _) (by omega)) (h _ (Or.inl ⟨rfl, hI⟩))
  · intro n i _ hi hI ih
    refine br_f (nI_ge hi (by omega)) ?_
    refine loop_0 (σ := Unit) (fun n' c _ => wY_leastConflict_12 post (wY_leastConflict_2 post (nI P) (nI S) (nI (s0 / 16)) (nI (s0 % 16)) (nI T) vd pc cm cc (fun j => nI (sg j)) (fun j => nI (dr j)) (fun j => nI (pe j)) (fun j => nI (po j)) (fun j => nI (im.testBit j).toNat) tb yr ym yn yi yp yv n) (nI i) (nI P) (nI S) (nI (s0 / 16)) (nI (s0 % 16)) (nI T) vd pc cm cc (fun j => nI (sg j)) (fun j => nI (dr j)) (fun j => nI (pe j)) (fun j => nI (po j)) (fun j => nI (im.testBit j).toNat) tb yr ym yn yi yp yv n' (nI c)) (fun c _ => ∀ k, k < 16 * i + c → cf_f S im.testBit (nt_v T sg dr pe po R) k = false) (2 ^ S) () hI ?_ ?_
    · intro n' _ hI'
      refine br_t (by rw [sg_s1 (by omega)]; exact nI_le (Nat.le_refl _) (by omega)) (nm_r (nI_1 i) (ih () (cf_row hI')))
    · intro n' c _ hc hI' ih'
      refine br_f (by rw [sg_s1 (by omega)]; exact nI_ge hc (by omega)) ⟨vp_in_nI (by omega) (by decide), ?_⟩
      try dsimp only
      rw [nI_clamp (by omega)]
      have hat := cf_at hS.2 (inp := im.testBit) (v := nt_v T sg dr pe po R) (i := i) hc
      refine bo_br (fun h1 => yw_valueFor K hR (by omega) (by omega) ?_) (fun h1 => nm_r (nI_1 c) (ih' () ?_))
      · have hv := nt_v_lt T sg dr pe po R i c
        by_cases h3 : nt_v T sg dr pe po R i c = 3
        · refine br_t (by rw [h3]; rfl) ?_
          rw [iv_16']
          refine h _ (Or.inr ⟨16 * i + c, by omega, rfl, ?_, hI'⟩)
          rw [hat, h1, h3]; rfl
        · refine br_f (fun z => h3 ((nI_eq (b := 3) (by omega) (by omega)).mp z)) (nm_r (nI_1 c) (ih' () ?_))
          refine lt_s (i := 16 * i + c) hI' ?_
          rw [hat, beq_eq_false_iff_ne.mpr h3, Bool.and_false]
      · refine lt_s (i := 16 * i + c) hI' ?_
        rw [hat, h1]; rfl
theorem yw_someUnsafe (K : nt_K P S T sg dr pe po im s0) {R : Nat → Bool} (hR : rp_A yr R) {post : Int32 → Prop} (h : post (nI (nt_U T pe po R).toNat)) : wpY_someUnsafe post (yt P S T sg dr pe po im s0 tb vd pc cm cc yr ym yn yi yp yv) := by
  have hT := K.2.2.1
  refine loop_0 (σ := Unit) (fun n s _ => wY_someUnsafe_2 post (nI P) (nI S) (nI (s0 / 16)) (nI (s0 % 16)) (nI T) vd pc cm cc (fun j => nI (sg j)) (fun j => nI (dr j)) (fun j => nI (pe j)) (fun j => nI (po j)) (fun j => nI (im.testBit j).toNat) tb yr ym yn yi yp yv n (nI s)) (fun s _ => ∀ k, k < s → ex_n (fun t => R k && (nt_en pe t (k / 16) && nt_un pe po t (k / 16))) T = false) 1024 () (fun j hj => absurd hj (Nat.not_lt_zero _)) ?_ ?_
  · intro n _ hI
    have e : nt_U T pe po R = false := ex_not.mpr hI
    rw [e] at h
    exact br_t (nI_le (Nat.le_refl 1024) (by decide)) h
  · intro n s _ hs hI ih
    refine br_f (nI_ge hs (by decide)) ?_
    refine loop_0 (σ := Unit) (fun n' t _ => wY_someUnsafe_11 post (wY_someUnsafe_2 post (nI P) (nI S) (nI (s0 / 16)) (nI (s0 % 16)) (nI T) vd pc cm cc (fun j => nI (sg j)) (fun j => nI (dr j)) (fun j => nI (pe j)) (fun j => nI (po j)) (fun j => nI (im.testBit j).toNat) tb yr ym yn yi yp yv n) (nI s) (nI P) (nI S) (nI (s0 / 16)) (nI (s0 % 16)) (nI T) vd pc cm cc (fun j => nI (sg j)) (fun j => nI (dr j)) (fun j => nI (pe j)) (fun j => nI (po j)) (fun j => nI (im.testBit j).toNat) tb yr ym yn yi yp yv n' (nI t)) (fun t _ => ∀ k, k < t → (R s && (nt_en pe k (s / 16) && nt_un pe po k (s / 16))) = false) T () (fun j hj => absurd hj (Nat.not_lt_zero _)) ?_ ?_
    · intro n' _ hI'
      exact br_t (nI_le (Nat.le_refl _) (by omega)) (nm_r (nI_1 s) (ih () (lt_s hI (ex_not.mpr hI'))))
    · intro n' t _ ht hI' ih'
      refine br_f (nI_ge ht (by omega)) ⟨vp_in_nI hs (by decide), ?_⟩
      try dsimp only
      rw [nI_clamp (by omega), hR s hs, iv_div hs]
      refine bo_br (fun h1 => nm_r (nI_1 t) (ih' () (lt_s hI' (by rw [h1]; rfl)))) (fun h1 => ⟨by decide, yw_enabled K ht (by omega) (bo_br (fun h2 => nm_r (nI_1 t) (ih' () (lt_s hI' (by rw [h2]; simp)))) (fun h2 => ⟨by decide, yw_unsafe K ht (by omega) (bo_br (fun h3 => nm_r (nI_1 t) (ih' () (lt_s hI' (by rw [h3]; simp)))) (fun h3 => ?_))⟩))⟩)
      have e : nt_U T pe po R = true := ex_iff.mpr ⟨s, hs, ex_iff.mpr ⟨t, ht, by rw [h1, h2, h3]; rfl⟩⟩
      rw [e] at h
      exact h
theorem yw_someInconsistent (K : nt_K P S T sg dr pe po im s0) {R : Nat → Bool} (hR : rp_A yr R) {post : Int32 → Prop} (h : post (nI (nt_I T sg dr pe R).toNat)) : wpY_someInconsistent post (yt P S T sg dr pe po im s0 tb vd pc cm cc yr ym yn yi yp yv) := by
  have hT := K.2.2.1
  refine loop_0 (σ := Unit) (fun n s _ => wY_someInconsistent_2 post (nI P) (nI S) (nI (s0 / 16)) (nI (s0 % 16)) (nI T) vd pc cm cc (fun j => nI (sg j)) (fun j => nI (dr j)) (fun j => nI (pe j)) (fun j => nI (po j)) (fun j => nI (im.testBit j).toNat) tb yr ym yn yi yp yv n (nI s)) (fun s _ => ∀ k, k < s → ex_n (fun t => R k && (nt_en pe t (k / 16) && nt_ic sg dr t (k % 16))) T = false) 1024 () (fun j hj => absurd hj (Nat.not_lt_zero _)) ?_ ?_
  · intro n _ hI
    have e : nt_I T sg dr pe R = false := ex_not.mpr hI
    rw [e] at h
    exact br_t (nI_le (Nat.le_refl 1024) (by decide)) h
  · intro n s _ hs hI ih
    refine br_f (nI_ge hs (by decide)) ?_
    refine loop_0 (σ := Unit) (fun n' t _ => wY_someInconsistent_11 post (wY_someInconsistent_2 post (nI P) (nI S) (nI (s0 / 16)) (nI (s0 % 16)) (nI T) vd pc cm cc (fun j => nI (sg j)) (fun j => nI (dr j)) (fun j => nI (pe j)) (fun j => nI (po j)) (fun j => nI (im.testBit j).toNat) tb yr ym yn yi yp yv n) (nI s) (nI P) (nI S) (nI (s0 / 16)) (nI (s0 % 16)) (nI T) vd pc cm cc (fun j => nI (sg j)) (fun j => nI (dr j)) (fun j => nI (pe j)) (fun j => nI (po j)) (fun j => nI (im.testBit j).toNat) tb yr ym yn yi yp yv n' (nI t)) (fun t _ => ∀ k, k < t → (R s && (nt_en pe k (s / 16) && nt_ic sg dr k (s % 16))) = false) T () (fun j hj => absurd hj (Nat.not_lt_zero _)) ?_ ?_
    · intro n' _ hI'
      exact br_t (nI_le (Nat.le_refl _) (by omega)) (nm_r (nI_1 s) (ih () (lt_s hI (ex_not.mpr hI'))))
    · intro n' t _ ht hI' ih'
      refine br_f (nI_ge ht (by omega)) ⟨vp_in_nI hs (by decide), ?_⟩
      try dsimp only
      rw [nI_clamp (by omega), hR s hs, iv_rem hs, iv_div hs]
      refine bo_br (fun h1 => nm_r (nI_1 t) (ih' () (lt_s hI' (by rw [h1]; rfl)))) (fun h1 => ⟨by decide, yw_enabled K ht (by omega) (bo_br (fun h2 => nm_r (nI_1 t) (ih' () (lt_s hI' (by rw [h2]; simp)))) (fun h2 => ⟨by decide, yw_inconsistent K ht (bo_br (fun h3 => nm_r (nI_1 t) (ih' () (lt_s hI' (by rw [h3]; simp)))) (fun h3 => ?_))⟩))⟩)
      have e : nt_I T sg dr pe R = true := ex_iff.mpr ⟨s, hs, ex_iff.mpr ⟨t, ht, by rw [h1, h2, h3]; rfl⟩⟩
      rw [e] at h
      exact h
/-- the pairs that a sweep has done -/
def sw_D (st : Nat → Nat → Prop) (ok : Nat → Nat → Bool) (fr : Nat → Nat → Nat) (i t : Nat) : Nat → Nat → Prop := fun x y => (x < i ∧ st x y) ∨ (x = i ∧ ∃ k, k < t ∧ ok k x = true ∧ y = fr k x)
theorem sw_Dno {st : Nat → Nat → Prop} {ok : Nat → Nat → Bool} {fr : Nat → Nat → Nat} {i t : Nat} {R : Nat → Bool} (h : R i = false ∨ ok t i = false) : ∀ x y, x < 1024 → R x = true → sw_D st ok fr i (t + 1) x y → sw_D st ok fr i t x y := by
  rintro x y _ hR (z | ⟨rfl, k, hk, ho, e⟩)
  · exact Or.inl z
  · refine Or.inr ⟨rfl, k, ?_, ho, e⟩
    by_cases ek : k = t
    · subst ek
      rcases h with h | h
      · rw [h] at hR; exact absurd hR (by simp)
      · rw [h] at ho; exact absurd ho (by simp)
    · omega
theorem sw_Dyes {st : Nat → Nat → Prop} {ok : Nat → Nat → Bool} {fr : Nat → Nat → Nat} {i t : Nat} : ∀ x y, sw_D st ok fr i (t + 1) x y → sw_D st ok fr i t x y ∨ (x = i ∧ y = fr t i) := by
  rintro x y (z | ⟨rfl, k, hk, ho, e⟩)
  · exact Or.inl (Or.inl z)
  · by_cases ek : k = t
    · subst ek; exact Or.inr ⟨rfl, e⟩
    · exact Or.inl (Or.inr ⟨rfl, k, by omega, ho, e⟩)
theorem yw_sweepReach (K : nt_K P S T sg dr pe po im s0) {R0 : Nat → Bool} (hR : rp_A yr R0) (h1 : R0 s0 = true) (h2 : ∀ s, s < 1024 → R0 s = true → rc_R (nt_st T sg dr pe po) s0 s) {post : Int32 → SY → Prop}
    (h : ∀ (g : Bool) (R : Nat → Bool) (yr' : Nat → Int32), rp_A yr' R → sw_I (nt_st T sg dr pe po) s0 R0 R g (nt_st T sg dr pe po) → post (nI g.toNat) (yt P S T sg dr pe po im s0 tb vd pc cm cc yr' ym yn yi yp yv)) : wpY_sweepReach post (yt P S T sg dr pe po im s0 tb vd pc cm cc yr ym yn yi yp yv) := by
  have hT := K.2.2.1
  refine loop_0 (σ := Bool × (Nat → Bool) × (Nat → Int32)) (fun n i s => wY_sweepReach_4 post (nI P) (nI S) (nI (s0 / 16)) (nI (s0 % 16)) (nI T) vd pc cm cc n (nI s.1.toNat) (nI i) (fun j => nI (sg j)) (fun j => nI (dr j)) (fun j => nI (pe j)) (fun j => nI (po j)) (fun j => nI (im.testBit j).toNat) tb s.2.2 ym yn yi yp yv)
    (fun i s => rp_A s.2.2 s.2.1 ∧ sw_I (nt_st T sg dr pe po) s0 R0 s.2.1 s.1 (sw_D (nt_st T sg dr pe po) (nt_ok sg dr pe po) (nt_fr sg dr pe po) i 0)) 1024 (false, R0, yr) ⟨hR, sw_skip (sw_0 h1 h2) ?_⟩ ?_ ?_
  · rintro x y _ _ (⟨z, _⟩ | ⟨_, k, hk, _⟩)
    · exact absurd z (Nat.not_lt_zero _)
    · exact absurd hk (Nat.not_lt_zero _)
  · rintro n ⟨g, R, yr'⟩ ⟨hA, hI⟩
    exact br_t (nI_le (Nat.le_refl 1024) (by decide)) ⟨bo_nar g, h g R yr' hA (sw_skip hI (fun x y hx _ z => Or.inl ⟨hx, z⟩))⟩
  · rintro n i ⟨g, R, yr'⟩ hi ⟨hA, hI⟩ ih
    refine br_f (nI_ge hi (by decide)) ?_
    refine loop_0 (σ := Bool × (Nat → Bool) × (Nat → Int32)) (fun n' t s => wY_sweepReach_13 post (wY_sweepReach_4 post (nI P) (nI S) (nI (s0 / 16)) (nI (s0 % 16)) (nI T) vd pc cm cc n) (nI i) (nI P) (nI S) (nI (s0 / 16)) (nI (s0 % 16)) (nI T) vd pc cm cc n' (nI s.1.toNat) (nI t) (fun j => nI (sg j)) (fun j => nI (dr j)) (fun j => nI (pe j)) (fun j => nI (po j)) (fun j => nI (im.testBit j).toNat) tb s.2.2 ym yn yi yp yv)
      (fun t s => rp_A s.2.2 s.2.1 ∧ sw_I (nt_st T sg dr pe po) s0 R0 s.2.1 s.1 (sw_D (nt_st T sg dr pe po) (nt_ok sg dr pe po) (nt_fr sg dr pe po) i t)) T (g, R, yr') ⟨hA, hI⟩ ?_ ?_
    · rintro n' ⟨g, R, yr'⟩ ⟨hA, hI⟩
      refine br_t (nI_le (Nat.le_refl _) (by omega)) (nm_r (nI_1 i) (ih (g, R, yr') ⟨hA, sw_skip hI ?_⟩))
      rintro x y _ _ (⟨z, y1⟩ | ⟨_, k, hk, _⟩)
      · by_cases e : x = i
        · subst e
          obtain ⟨k, a, b, c⟩ := y1
          exact Or.inr ⟨rfl, k, a, b, c⟩
        · exact Or.inl ⟨by omega, y1⟩
      · exact absurd hk (Nat.not_lt_zero _)
    · rintro n' t ⟨g, R, yr'⟩ ht ⟨hA, hI⟩ ih'
      have hA' : rp_A yr' R := hA
      have hno : (R i = false ∨ nt_ok sg dr pe po t i = false) → wY_sweepReach_13 post (wY_sweepReach_4 post (nI P) (nI S) (nI (s0 / 16)) (nI (s0 % 16)) (nI T) vd pc cm cc n) (nI i) (nI P) (nI S) (nI (s0 / 16)) (nI (s0 % 16)) (nI T) vd pc cm cc n' (nI g.toNat) (nI (t + 1)) (fun j => nI (sg j)) (fun j => nI (dr j)) (fun j => nI (pe j)) (fun j => nI (po j)) (fun j => nI (im.testBit j).toNat) tb yr' ym yn yi yp yv := fun z => ih' (g, R, yr') ⟨hA, sw_skip hI (sw_Dno z)⟩
      refine br_f (nI_ge ht (by omega)) ⟨by decide, nm_r (iv_div hi) ⟨by decide, nm_r (iv_rem hi) ⟨vp_in_nI hi (by decide), ?_⟩⟩⟩
      try dsimp only
      rw [nI_clamp (by omega), hA' i hi]
      refine bo_br (fun z1 => nm_r (nI_1 t) (hno (Or.inl z1))) (fun z1 => yw_enabled K ht (by omega) (bo_br (fun z2 => nm_r (nI_1 t) (hno (Or.inr ?_))) (fun z2 => yw_unsafe K ht (by omega) (bo_br (fun z3 => yw_inconsistent K ht (bo_br (fun z4 => yw_cellAfterS K ht ?_) (fun z4 => nm_r (nI_1 t) (hno (Or.inr ?_))))) (fun z3 => nm_r (nI_1 t) (hno (Or.inr ?_)))))))
      · unfold nt_ok; rw [z2]; rfl
      · have hb : nt_fr sg dr pe po t i < 1024 := nt_fr_lt K.2.1.2 K.2.2.2.1 t hi
        have hst : nt_st T sg dr pe po i (nt_fr sg dr pe po t i) := ⟨t, ht, by unfold nt_ok; rw [z2, z3, z4]; rfl, rfl⟩
        have hstep : sw_I (nt_st T sg dr pe po) s0 R0 (ct_u R (nt_fr sg dr pe po t i)) (g || !(R (nt_fr sg dr pe po t i))) (sw_D (nt_st T sg dr pe po) (nt_ok sg dr pe po) (nt_fr sg dr pe po) i (t + 1)) := sw_step hI hi z1 hst hb sw_Dyes
        have hrep := rp_u hA' (nt_fr sg dr pe po t i)
        refine ⟨vp_in_nI hb (by decide), ?_⟩
        rw [nI_clamp (n := nt_fr sg dr pe po t i) (by omega), hA' _ hb]
        refine bo_br (fun z5 => ⟨vp_in_nI hb (by decide), nm_e (nm_r (nI_1 t) ?_)⟩) (fun z5 => ⟨vp_in_nI hb (by decide), nm_e (nm_r (nI_1 t) ?_)⟩)
        · rw [z5, Bool.not_false, Bool.or_true] at hstep
          exact ih' (true, _, _) ⟨hrep, hstep⟩
        · rw [z5, Bool.not_true, Bool.or_false] at hstep
          exact ih' (g, _, _) ⟨hrep, hstep⟩
      · unfold nt_ok; rw [z4]; simp
      · unfold nt_ok; rw [z3]; simp
end
end
section
/-! the reference's explore, its end -/
section
variable {P S T : Nat} {sg dr pe po : Nat → Nat} {im s0 : Nat} {tb : Nat → Int32}
variable {vd us ic rc pc mc ln lh ls cm cc : Int32} {ar asn aa ao apt act acu aco aq apc af ad am yr ym yn yi yp yv : Nat → Int32}
theorem yw_judge (K : nt_K P S T sg dr pe po im s0) {R : Nat → Bool} (hR : rp_A yr R) {post : Int32 → SY → Prop}
    (h : post (nI (nt_J S T sg dr pe po im R)) (yt P S T sg dr pe po im s0 tb (nI (nt_J S T sg dr pe po im R)) pc cm cc yr ym yn yi yp yv)) : wY_explore_78 post (nI P) (nI S) (nI (s0 / 16)) (nI (s0 % 16)) (nI T) vd pc cm cc (fun j => nI (sg j)) (fun j => nI (dr j)) (fun j => nI (pe j)) (fun j => nI (po j)) (fun j => nI (im.testBit j).toNat) tb yr ym yn yi yp yv := by
  have hS := K.2.1
  unfold nt_J at h
  refine yw_someUnsafe K hR (bo_br (fun h1 => yw_someInconsistent K hR (bo_br (fun h2 => yw_leastConflict K hR (fun r hr => ?_)) (fun h2 => ?_))) (fun h1 => ?_))
  · rw [if_neg (by rw [h1]; simp), if_neg (by rw [h2]; simp)] at h
    have hb := ls_bad (by omega) hr
    by_cases h3 : ex_n (cf_f S im.testBit (nt_v T sg dr pe po R)) (16 * S) = true
    · rw [if_pos h3] at h
      exact br_f (fun z => by rw [hb.mp z] at h3; exact absurd h3 (by simp)) h
    · rw [if_neg h3] at h
      exact br_t (hb.mpr (bo_nt h3)) h
  · rw [if_neg (by rw [h1]; simp), if_pos h2] at h
    exact h
  · rw [if_pos h1] at h
    exact h
theorem yw_clear (q : Nat → Int32) (i : Nat) (h : ∀ k, k < i → q k = 0) : ∀ k, k < i + 1 → upd q i (vp_nar .boolean 0) k = 0 := by
  intro k hk
  by_cases e : k = i
  · subst e
    rw [pk_us]
    exact bo_vn false
  · rw [pk_un e]
    exact h k (by omega)
theorem yw_s0 {s0 : Nat} : 16 * nI (s0 / 16) + nI (s0 % 16) = nI s0 := by
  rw [iv_16']
  congr 1
  omega
theorem yw_explore (K : nt_K P S T sg dr pe po im s0) {post : Int32 → SY → Prop}
    (h : ∀ (R : Nat → Bool) (yr' : Nat → Int32), rp_A yr' R → rc_is (nt_st T sg dr pe po) s0 R → post (nI (nt_J S T sg dr pe po im R)) (yt P S T sg dr pe po im s0 tb (nI (nt_J S T sg dr pe po im R)) pc cm cc yr' ym yn yi yp yv)) : wpY_explore post (yt P S T sg dr pe po im s0 tb 0 pc cm cc yr ym yn yi yp yv) := by
  have hs0 := K.2.2.2.2.2.1
  have hb := nt_st_lt (T := T) K.2.1.2 K.2.2.2.1
  refine br_t rfl ?_
  refine loop_0 (σ := Nat → Int32) (fun n i q => wY_explore_14 post (nI P) (nI S) (nI (s0 / 16)) (nI (s0 % 16)) (nI T) 0 pc cm cc n (nI i) (fun j => nI (sg j)) (fun j => nI (dr j)) (fun j => nI (pe j)) (fun j => nI (po j)) (fun j => nI (im.testBit j).toNat) tb q ym yn yi yp yv) (fun i q => ∀ k, k < i → q k = 0) 1024 yr (fun k hk => absurd hk (Nat.not_lt_zero _)) ?_ ?_
  · intro n q hq
    refine br_t (nI_le (Nat.le_refl 1024) (by decide)) ?_
    try dsimp only
    rw [yw_s0, nI_clamp (by omega)]
    refine ⟨vp_in_nI hs0 (by decide), nm_e ?_⟩
    have hrep : rp_A (upd q s0 (vp_nar .boolean 1)) (ct_u (fun _ => false) s0) := rp_u (fun s hs => hq s hs) s0
    refine loop_0 (σ := Bool × (Nat → Bool) × (Nat → Int32)) (fun n k s => wY_explore_56 post n (nI s.1.toNat) (nI k) (nI P) (nI S) (nI (s0 / 16)) (nI (s0 % 16)) (nI T) 0 pc cm cc (fun j => nI (sg j)) (fun j => nI (dr j)) (fun j => nI (pe j)) (fun j => nI (po j)) (fun j => nI (im.testBit j).toNat) tb s.2.2 ym yn yi yp yv) (fun k s => rp_A s.2.2 s.2.1 ∧ sv_I (nt_st T sg dr pe po) s0 s.2.1 s.1 k) 1024 (true, ct_u (fun _ => false) s0, _) ⟨hrep, sv_0 _ hs0⟩ ?_ ?_
    · rintro n ⟨g, R, yr'⟩ ⟨hA, hV⟩
      exact br_t (nI_le (Nat.le_refl 1024) (by decide)) (yw_judge K hA (h R yr' hA (sv_end hV (Or.inr (Nat.le_refl _)) hb hs0)))
    · rintro n k ⟨g, R, yr'⟩ hk ⟨hA, hV⟩ ih
      refine br_f (nI_ge hk (by decide)) ?_
      cases g
      · exact br_t rfl (yw_judge K hA (h R yr' hA (sv_end hV (Or.inl rfl) hb hs0)))
      · refine br_f (show ¬ nI true.toNat = 0 from by decide) (yw_sweepReach K hA hV.1 hV.2.1 (fun g2 R2 yr2 hA2 hI2 => ?_))
        exact nm_r (nI_1 k) (ih (g2, R2, yr2) ⟨hA2, sv_step hV hI2⟩)
  · intro n i q hi hq ih
    refine br_f (nI_ge hi (by decide)) ⟨vp_in_nI hi (by decide), ?_⟩
    rw [nI_clamp (by omega)]
    exact nm_e (nm_r (nI_1 i) (ih _ (yw_clear q i hq)))
/-- the count of the reached states -/
theorem yw_states (K : nt_K P S T sg dr pe po im s0) {R : Nat → Bool} (hR : rp_A yr R) (hv : ¬ vd = 0) {post : Int32 → Prop} (h : post (nI (ct_n R 1024))) : wpY_states post (yt P S T sg dr pe po im s0 tb vd pc cm cc yr ym yn yi yp yv) := by
  refine br_f hv ?_
  refine loop_0 (σ := Unit) (fun n s _ => wY_states_13 post (nI P) (nI S) (nI (s0 / 16)) (nI (s0 % 16)) (nI T) vd pc cm cc (fun j => nI (sg j)) (fun j => nI (dr j)) (fun j => nI (pe j)) (fun j => nI (po j)) (fun j => nI (im.testBit j).toNat) tb yr ym yn yi yp yv n (nI (ct_n R s)) (nI s)) (fun _ _ => True) 1024 () trivial ?_ ?_
  · intro n _ _
    exact br_t (nI_le (Nat.le_refl 1024) (by decide)) h
  · intro n s _ hs _ ih
    have hn := ih () trivial
    refine br_f (nI_ge hs (by decide)) ⟨vp_in_nI hs (by decide), ?_⟩
    rw [nI_clamp (by omega), hR s hs]
    refine bo_br (fun h1 => nm_r (nI_1 s) ?_) (fun h1 => nm_r (nI_1 _) (nm_r (nI_1 s) ?_))
    · have e1 : ct_n R (s + 1) = ct_n R s := by show ct_n R s + (R s).toNat = _; rw [h1]; rfl
      rw [e1] at hn
      exact hn
    · have e1 : ct_n R (s + 1) = ct_n R s + 1 := by show ct_n R s + (R s).toNat = _; rw [h1]; rfl
      rw [e1] at hn
      exact hn
end
end
section
/-! the component's readers -/
section
variable {P S T : Nat} {sg dr pe po : Nat → Nat} {im s0 : Nat} {tb : Nat → Int32}
variable {vd us ic rc pc mc ln lh ls cm cc : Int32} {ar asn aa ao apt act acu aco aq apc af ad am yr ym yn yi yp yv : Nat → Int32}
theorem xw_isSignal_t (hS : S ≤ 4) {i : Nat} (hi : i < S) {post : Int32 → Prop} (h : post 1) : wpX_isSignal post (xt P S T sg dr pe po im s0 tb vd us ic rc pc mc ln lh ls ar asn aa ao apt act acu aco aq apc af ad am) (nI i) :=
  br_f (nI_pos (by omega)) (br_f (nI_ge hi (by omega)) h)
theorem xw_isSignal_f {x : Int32} (hx : x < 0 ∨ nI S ≤ x) {post : Int32 → Prop} (h : post 0) : wpX_isSignal post (xt P S T sg dr pe po im s0 tb vd us ic rc pc mc ln lh ls ar asn aa ao apt act acu aco aq apc af ad am) x := by
  by_cases h0 : x < 0
  · exact br_t h0 h
  · rcases hx with z | z
    · exact absurd z h0
    · exact br_f h0 (br_t z h)
theorem xw_isMarking_t (hP : P ≤ 6) {i : Nat} (hi : i < 2 ^ P) {post : Int32 → Prop} (h : post 1) : wpX_isMarking post (xt P S T sg dr pe po im s0 tb vd us ic rc pc mc ln lh ls ar asn aa ao apt act acu aco aq apc af ad am) (nI i) := by
  have : 2 ^ P ≤ 2 ^ 6 := Nat.pow_le_pow_right (by decide) hP
  exact br_f (nI_pos (by omega)) (br_f (nI_ge hi (by omega)) h)
theorem xw_isMarking_f {x : Int32} (hx : x < 0 ∨ nI (2 ^ P) ≤ x) {post : Int32 → Prop} (h : post 0) : wpX_isMarking post (xt P S T sg dr pe po im s0 tb vd us ic rc pc mc ln lh ls ar asn aa ao apt act acu aco aq apc af ad am) x := by
  by_cases h0 : x < 0
  · exact br_t h0 h
  · rcases hx with z | z
    · exact absurd z h0
    · exact br_f h0 (br_t z h)
theorem xw_isCode_t (hS : S ≤ 4) {i : Nat} (hi : i < 2 ^ S) {post : Int32 → Prop} (h : post 1) : wpX_isCode post (xt P S T sg dr pe po im s0 tb vd us ic rc pc mc ln lh ls ar asn aa ao apt act acu aco aq apc af ad am) (nI i) := by
  have := nt_pS hS
  exact br_f (nI_pos (by omega)) (br_f (nI_ge hi (by omega)) h)
theorem xw_isCode_f {x : Int32} (hx : x < 0 ∨ nI (2 ^ S) ≤ x) {post : Int32 → Prop} (h : post 0) : wpX_isCode post (xt P S T sg dr pe po im s0 tb vd us ic rc pc mc ln lh ls ar asn aa ao apt act acu aco aq apc af ad am) x := by
  by_cases h0 : x < 0
  · exact br_t h0 h
  · rcases hx with z | z
    · exact absurd z h0
    · exact br_f h0 (br_t z h)
theorem xw_isOutput (hS : S ≤ 4) {i : Nat} (hi : i < S) {post : Int32 → Prop} (h : post (nI (!(im.testBit i)).toNat)) : wpX_isOutput post (xt P S T sg dr pe po im s0 tb vd us ic rc pc mc ln lh ls ar asn aa ao apt act acu aco aq apc af ad am) (nI i) := by
  unfold wpX_isOutput xt
  dsimp only
  refine xw_isSignal_t hS hi (br_f (by decide) ?_)
  show ((nI im >>> (nI i &&& 31)) &&& 1 = 0 → post 1) ∧ (¬ (nI im >>> (nI i &&& 31)) &&& 1 = 0 → post 0)
  rw [sg_bitN im (by omega)]
  refine bo_if ?_ h
  rw [sg_t0, Bool.not_eq_true']
theorem xw_isOutput_f {x : Int32} (hx : x < 0 ∨ nI S ≤ x) {post : Int32 → Prop} (h : post 0) : wpX_isOutput post (xt P S T sg dr pe po im s0 tb vd us ic rc pc mc ln lh ls ar asn aa ao apt act acu aco aq apc af ad am) x := by
  unfold wpX_isOutput xt
  dsimp only
  exact xw_isSignal_f hx (br_t rfl h)
theorem xw_isEnabled (K : nt_K P S T sg dr pe po im s0) {t s : Nat} (ht : t < T) (hs : s < 1024) {post : Int32 → Prop} (h : post (nI (nt_en pe t (s / 16)).toNat)) : wpX_isEnabled post (xt P S T sg dr pe po im s0 tb vd us ic rc pc mc ln lh ls ar asn aa ao apt act acu aco aq apc af ad am) (nI t) (nI s) := by
  have hT := K.2.2.1
  have hB := iv_bS K.2.1.2 K.2.2.2.1 t
  have hv : vp_in (nI t) 12 := vp_in_nI (by omega) (by decide)
  unfold wpX_isEnabled xt wpX_markingOf
  try dsimp only
  rw [nI_clamp (by omega), iv_div hs]
  exact ⟨hv, by decide, bo_if (iv_enX hB.2.2.1) h⟩
theorem xw_isUnsafe (K : nt_K P S T sg dr pe po im s0) {t s : Nat} (ht : t < T) (hs : s < 1024) {post : Int32 → Prop} (h : post (nI (nt_un pe po t (s / 16)).toNat)) : wpX_isUnsafe post (xt P S T sg dr pe po im s0 tb vd us ic rc pc mc ln lh ls ar asn aa ao apt act acu aco aq apc af ad am) (nI t) (nI s) := by
  have hT := K.2.2.1
  have hv : vp_in (nI t) 12 := vp_in_nI (by omega) (by decide)
  unfold wpX_isUnsafe xt wpX_markingOf
  try dsimp only
  rw [nI_clamp (by omega), iv_div hs]
  exact ⟨by decide, hv, nm_e ⟨hv, bo_if0 (iv_un (by omega)) h⟩⟩
theorem xw_isInconsistent (K : nt_K P S T sg dr pe po im s0) {t s : Nat} (ht : t < T) (hs : s < 1024) {post : Int32 → Prop} (h : post (nI (nt_ic sg dr t (s % 16)).toNat)) : wpX_isInconsistent post (xt P S T sg dr pe po im s0 tb vd us ic rc pc mc ln lh ls ar asn aa ao apt act acu aco aq apc af ad am) (nI t) (nI s) := by
  have hT := K.2.2.1
  have hB := iv_bS K.2.1.2 K.2.2.2.1 t
  have hv : vp_in (nI t) 12 := vp_in_nI (by omega) (by decide)
  unfold wpX_isInconsistent xt wpX_codeOf wpX_bit
  try dsimp only
  rw [nI_clamp (by omega), iv_rem hs]
  exact ⟨by decide, hv, hv, bo_if (iv_ic hB.1 hB.2.1) h⟩
theorem xw_fire (K : nt_K P S T sg dr pe po im s0) {t s : Nat} (ht : t < T) (hs : s < 1024) {post : Int32 → Prop} (h : post (nI (nt_fr sg dr pe po t s))) : wpX_fire post (xt P S T sg dr pe po im s0 tb vd us ic rc pc mc ln lh ls ar asn aa ao apt act acu aco aq apc af ad am) (nI t) (nI s) := by
  have hT := K.2.2.1
  have hv : vp_in (nI t) 12 := vp_in_nI (by omega) (by decide)
  unfold wpX_fire xt wpX_markingOf wpX_codeOf wpX_stateOf
  try dsimp only
  rw [nI_clamp (by omega), iv_rem hs, iv_div hs]
  refine ⟨by decide, hv, hv, nm_r iv_fm ⟨hv, nm_e ⟨by decide, hv, nm_r (iv_fcX K.2.1.2 K.2.2.2.1) ?_⟩⟩⟩
  rw [iv_16]
  exact h
/-- the set of the signals with f, as the component gathers it -/
theorem xm_step {T : Nat} {sg : Nat → Nat} {f : Nat → Bool} {M t : Nat} (h : ∀ i, M.testBit i = ex_n (fun k => (sg k == i) && f k) t) :
    (f t = false → ∀ i, M.testBit i = ex_n (fun k => (sg k == i) && f k) (t + 1)) ∧ (f t = true → ∀ i, (M ||| 2 ^ sg t).testBit i = ex_n (fun k => (sg k == i) && f k) (t + 1)) := by
  refine ⟨fun hf i => ?_, fun hf i => ?_⟩
  · show M.testBit i = (ex_n (fun k => (sg k == i) && f k) t || ((sg t == i) && f t))
    rw [hf, Bool.and_false, Bool.or_false]
    exact h i
  · show (M ||| 2 ^ sg t).testBit i = (ex_n (fun k => (sg k == i) && f k) t || ((sg t == i) && f t))
    rw [hf, Bool.and_true, Nat.testBit_or, h i, Nat.testBit_two_pow]
    congr 1
theorem xm_0 {sg : Nat → Nat} {f : Nat → Bool} : ∀ i, (0 : Nat).testBit i = ex_n (fun k => (sg k == i) && f k) 0 := fun i => Nat.zero_testBit i
theorem xw_enabledSignals (K : nt_K P S T sg dr pe po im s0) {s : Nat} (hs : s < 1024) {post : Int32 → Prop} (h : ∀ M, (∀ i, M.testBit i = nt_he T sg pe i (s / 16)) → post (nI M)) : wpX_enabledSignals post (xt P S T sg dr pe po im s0 tb vd us ic rc pc mc ln lh ls ar asn aa ao apt act acu aco aq apc af ad am) (nI s) := by
  have hT := K.2.2.1
  refine loop_0 (σ := Nat) (fun n t M => wX_enabledSignals_4 post (nI s) (nI S) (nI (2 ^ P)) (nI (2 ^ S)) (nI (3 ^ S)) (nI T) (nI im) (nI s0) vd us ic rc pc mc ln lh ls (cu_ar S) (fun j => nI (sg j)) (fun j => nI (dr j)) (fun j => nI (pe j)) (fun j => nI (po j)) tb ar asn aa ao apt act acu aco aq apc af ad am 65536 n (nI M) (nI t)) (fun t M => ∀ i, M.testBit i = ex_n (fun k => (sg k == i) && nt_en pe k (s / 16)) t) T 0 xm_0 ?_ ?_
  · intro n M hI
    exact br_t (nI_le (Nat.le_refl _) (by omega)) (h M hI)
  · intro n t M ht hI ih
    have hB := iv_bS K.2.1.2 K.2.2.2.1 t
    obtain ⟨a, b⟩ := xm_step (T := T) (f := fun k => nt_en pe k (s / 16)) hI
    refine br_f (nI_ge ht (by omega)) (xw_isEnabled K ht hs (bo_br (fun z => nm_r (nI_1 t) (ih M (a z))) (fun z => ⟨vp_in_nI (by omega) (by decide), ?_⟩)))
    try dsimp only
    rw [nI_clamp (by omega), sg_s1 (by omega)]
    exact nm_r (sg_or _ _) (nm_r (nI_1 t) (ih _ (b z)))
theorem xw_excitedSignals (K : nt_K P S T sg dr pe po im s0) {s : Nat} (hs : s < 1024) {post : Int32 → Prop} (h : ∀ M, (∀ i, M.testBit i = nt_ex T sg dr pe po i (s / 16) (s % 16)) → post (nI M)) : wpX_excitedSignals post (xt P S T sg dr pe po im s0 tb vd us ic rc pc mc ln lh ls ar asn aa ao apt act acu aco aq apc af ad am) (nI s) := by
  have hT := K.2.2.1
  refine loop_0 (σ := Nat) (fun n t M => wX_excitedSignals_4 post (nI s) (nI S) (nI (2 ^ P)) (nI (2 ^ S)) (nI (3 ^ S)) (nI T) (nI im) (nI s0) vd us ic rc pc mc ln lh ls (cu_ar S) (fun j => nI (sg j)) (fun j => nI (dr j)) (fun j => nI (pe j)) (fun j => nI (po j)) tb ar asn aa ao apt act acu aco aq apc af ad am 65536 n (nI M) (nI t)) (fun t M => ∀ i, M.testBit i = ex_n (fun k => (sg k == i) && (nt_en pe k (s / 16) && (!(nt_un pe po k (s / 16)) && !(nt_ic sg dr k (s % 16))))) t) T 0 xm_0 ?_ ?_
  · intro n M hI
    exact br_t (nI_le (Nat.le_refl _) (by omega)) (h M hI)
  · intro n t M ht hI ih
    have hB := iv_bS K.2.1.2 K.2.2.2.1 t
    obtain ⟨a, b⟩ := xm_step (T := T) (f := fun k => nt_en pe k (s / 16) && (!(nt_un pe po k (s / 16)) && !(nt_ic sg dr k (s % 16)))) hI
    refine br_f (nI_ge ht (by omega)) (xw_isEnabled K ht hs (bo_br (fun z => nm_r (nI_1 t) (ih M (a (by (try dsimp only); rw [z]; rfl)))) (fun z => xw_isUnsafe K ht hs (bo_br (fun z2 => xw_isInconsistent K ht hs (bo_br (fun z3 => ⟨vp_in_nI (by omega) (by decide), ?_⟩) (fun z3 => nm_r (nI_1 t) (ih M (a (by (try dsimp only); rw [z3]; simp)))))) (fun z2 => nm_r (nI_1 t) (ih M (a (by (try dsimp only); rw [z2]; simp))))))))
    try dsimp only
    rw [nI_clamp (by omega), sg_s1 (by omega)]
    exact nm_r (sg_or _ _) (nm_r (nI_1 t) (ih _ (b (by (try dsimp only); rw [z, z2, z3]; rfl))))
theorem xw_nextOf (K : nt_K P S T sg dr pe po im s0) {R : Nat → Bool} (A : xe_A T sg dr pe po R 1024 asn aa ao) {i c : Nat} (hi : i < 4) (hc : c < 16) {post : Int32 → Prop} (h : post (nI (nt_v T sg dr pe po R i c))) : wpX_nextOf post (xt P S T sg dr pe po im s0 tb vd us ic rc pc mc ln lh ls ar asn aa ao apt act acu aco aq apc af ad am) (nI i) (nI c) := by
  have hv : vp_in (nI c) 16 := vp_in_nI hc (by decide)
  obtain ⟨e1, e2⟩ := xe_all A hc hi
  unfold wpX_nextOf xt wpX_bit
  try dsimp only
  rw [nI_clamp (by omega), sg_bitN c (by omega), xe_seen A hc, sg_bit (aa c) (by omega), sg_bit (ao c) (by omega), e1, e2]
  unfold nt_v at h
  refine ⟨hv, bo_br (fun z => ?_) (fun z => ⟨hv, bo_br1 (fun z2 => ?_) (fun z2 => ⟨hv, bo_br (fun z3 => ?_) (fun z3 => ?_)⟩)⟩)⟩
  · rw [if_pos z] at h
    exact h
  · rw [if_neg (by rw [z]; simp), if_pos z2] at h
    have e : (1 : Int32) - nI (c.testBit i).toNat = nI (1 - (c.testBit i).toNat) := pk_sub (a := 1) (by have := sg_toNat_lt (c.testBit i); omega)
    rw [e]
    exact h
  · rw [if_neg (by rw [z]; simp), if_neg (by rw [z2]; simp), if_pos z3] at h
    exact h
  · rw [if_neg (by rw [z]; simp), if_neg (by rw [z2]; simp), if_neg (by rw [z3]; simp)] at h
    exact h
theorem xw_leastConflict (K : nt_K P S T sg dr pe po im s0) {R : Nat → Bool} (A : xe_A T sg dr pe po R 1024 asn aa ao) {post : Int32 → Prop} (h : ∀ r, ls_n (cf_f S im.testBit (nt_v T sg dr pe po R)) (16 * S) r → post r) : wpX_leastConflict post (xt P S T sg dr pe po im s0 tb vd us ic rc pc mc ln lh ls ar asn aa ao apt act acu aco aq apc af ad am) := by
  have hS := K.2.1
  have hp := nt_pS hS.2
  refine loop_0 (σ := Unit) (fun n i _ => wX_leastConflict_2 post (nI S) (nI (2 ^ P)) (nI (2 ^ S)) (nI (3 ^ S)) (nI T) (nI im) (nI s0) vd us ic rc pc mc ln lh ls (cu_ar S) (fun j => nI (sg j)) (fun j => nI (dr j)) (fun j => nI (pe j)) (fun j => nI (po j)) tb ar asn aa ao apt act acu aco aq apc af ad am 65536 n (nI i)) (fun i _ => ∀ k, k < 16 * i → cf_f S im.testBit (nt_v T sg dr pe po R) k = false) S () (fun j hj => absurd hj (Nat.not_lt_zero _)) ?_ ?_
  · intro n _ hI
    exact br_t (nI_le (Nat.le_refl _) (by omega)) (h _ (Or.inl ⟨rfl, hI⟩))
  · intro n i _ hi hI ih
    refine br_f (nI_ge hi (by omega)) ?_
    refine loop_0 (σ := Unit) (fun n' c _ => wX_leastConflict_12 post (wX_leastConflict_2 post (nI S) (nI (2 ^ P)) (nI (2 ^ S)) (nI (3 ^ S)) (nI T) (nI im) (nI s0) vd us ic rc pc mc ln lh ls (cu_ar S) (fun j => nI (sg j)) (fun j => nI (dr j)) (fun j => nI (pe j)) (fun j => nI (po j)) tb ar asn aa ao apt act acu aco aq apc af ad am 65536 n) (nI i) (nI S) (nI (2 ^ P)) (nI (2 ^ S)) (nI (3 ^ S)) (nI T) (nI im) (nI s0) vd us ic rc pc mc ln lh ls (cu_ar S) (fun j => nI (sg j)) (fun j => nI (dr j)) (fun j => nI (pe j)) (fun j => nI (po j)) tb ar asn aa ao apt act acu aco aq apc af ad am 65536 n' (nI c)) (fun c _ => ∀ k, k < 16 * i + c → cf_f S im.testBit (nt_v T sg dr pe po R) k = false) (2 ^ S) () hI ?_ ?_
    · intro n' _ hI'
      exact br_t (nI_le (Nat.le_refl _) (by omega)) (nm_r (nI_1 i) (ih () (cf_row hI')))
    · intro n' c _ hc hI' ih'
      have hat := cf_at hS.2 (inp := im.testBit) (v := nt_v T sg dr pe po R) (i := i) hc
      refine br_f (nI_ge hc (by omega)) (xw_isOutput hS.2 hi (bo_br (fun h1 => nm_r (nI_1 c) (ih' () ?_)) (fun h1 => xw_nextOf K A (by omega) (by omega) ?_)))
      · refine lt_s (i := 16 * i + c) hI' ?_
        rw [hat, h1]; rfl
      · have hv := nt_v_lt T sg dr pe po R i c
        by_cases h3 : nt_v T sg dr pe po R i c = 3
        · refine br_t (by rw [h3]; rfl) ?_
          rw [iv_16']
          refine h _ (Or.inr ⟨16 * i + c, by omega, rfl, ?_, hI'⟩)
          rw [hat, h1, h3]; rfl
        · refine br_f (fun z => h3 ((nI_eq (b := 3) (by omega) (by omega)).mp z)) (nm_r (nI_1 c) (ih' () ?_))
          refine lt_s (i := 16 * i + c) hI' ?_
          rw [hat, beq_eq_false_iff_ne.mpr h3, Bool.and_false]
theorem xw_judge (K : nt_K P S T sg dr pe po im s0) {R : Nat → Bool} (A : xe_A T sg dr pe po R 1024 asn aa ao) {post : Int32 → Prop} (h : post (nI (nt_J S T sg dr pe po im R))) : wpX_judge post (xt P S T sg dr pe po im s0 tb vd (nI (nt_U T pe po R).toNat) (nI (nt_I T sg dr pe R).toNat) rc pc mc ln lh ls ar asn aa ao apt act acu aco aq apc af ad am) := by
  have hS := K.2.1
  unfold nt_J at h
  refine bo_br (fun h1 => bo_br (fun h2 => xw_leastConflict K A (fun r hr => ?_)) (fun h2 => ?_)) (fun h1 => ?_)
  · rw [if_neg (by rw [h1]; simp), if_neg (by rw [h2]; simp)] at h
    have hb := ls_bad (by omega) hr
    by_cases h3 : ex_n (cf_f S im.testBit (nt_v T sg dr pe po R)) (16 * S) = true
    · rw [if_pos h3] at h
      exact br_f (fun z => by rw [hb.mp z] at h3; exact absurd h3 (by simp)) h
    · rw [if_neg h3] at h
      exact br_t (hb.mpr (bo_nt h3)) h
  · rw [if_neg (by rw [h1]; simp), if_pos h2] at h
    exact h
  · rw [if_pos h1] at h
    exact h
end
end
section
/-! the component's walk over the net -/
section
variable {P S T : Nat} {sg dr pe po : Nat → Nat} {im s0 : Nat} {tb : Nat → Int32}
variable {vd us ic rc pc mc ln lh ls cm cc : Int32} {ar asn aa ao apt act acu aco aq apc af ad am yr ym yn yi yp yv : Nat → Int32}
theorem xw_reach {R : Nat → Bool} (hA : rp_A ar R) {b n : Nat} (hb : b < 1024) {post : SX → Prop} (h1 : R b = true → post (xt P S T sg dr pe po im s0 tb vd us ic (nI n) pc mc ln lh ls ar asn aa ao apt act acu aco aq apc af ad am)) (hn : R b = false → n < 1024)
    (h0 : R b = false → post (xt P S T sg dr pe po im s0 tb vd us ic (nI (n + 1)) pc mc ln lh ls (upd ar b (vp_nar .boolean 1)) asn aa ao apt act acu aco (upd aq n (nI b)) apc af ad am)) : wpX_reach post (xt P S T sg dr pe po im s0 tb vd us ic (nI n) pc mc ln lh ls ar asn aa ao apt act acu aco aq apc af ad am) (nI b) := by
  have hv : vp_in (nI b) 1024 := vp_in_nI hb (by decide)
  unfold wpX_reach xt
  try dsimp only
  rw [nI_clamp (n := b) (by omega), hA b hb]
  refine ⟨hv, bo_br (fun z => ⟨hv, nm_e ⟨vp_in_nI (hn z) (by decide), ?_⟩⟩) (fun z => h1 z)⟩
  rw [nI_clamp (n := n) (by have := hn z; omega)]
  exact nm_e (nm_r (nI_1 n) (h0 z))
/-- the flags of one state -/
def fl_U (T : Nat) (pe po : Nat → Nat) (a : Nat) : Bool := ex_n (fun t => nt_en pe t (a / 16) && nt_un pe po t (a / 16)) T
def fl_I (T : Nat) (sg dr pe : Nat → Nat) (a : Nat) : Bool := ex_n (fun t => nt_en pe t (a / 16) && nt_ic sg dr t (a % 16)) T
theorem bo_fit (b : Bool) : fits .boolean (.int (nI b.toNat)) = true := by cases b <;> decide +kernel
theorem xw_leaveReached (K : nt_K P S T sg dr pe po im s0) {R : Nat → Bool} {n h a : Nat} {u i : Bool} (hA : rp_A ar R) (J : bf_J (nt_st T sg dr pe po) s0 R aq n) (C : bf_C (nt_st T sg dr pe po) R aq h) (hh : h < n) (hRa : R a = true) (ha : a < 1024) (hq : aq h = nI a) {post : SX → Prop}
    (hp : ∀ (n' : Nat) (R' : Nat → Bool) (ar' aq' : Nat → Int32), rp_A ar' R' → bf_J (nt_st T sg dr pe po) s0 R' aq' n' → bf_C (nt_st T sg dr pe po) R' aq' (h + 1) → n ≤ n' → (∀ j, j < n → aq' j = aq j) →
      post (xt P S T sg dr pe po im s0 tb vd (nI (u || fl_U T pe po a).toNat) (nI (i || fl_I T sg dr pe a).toNat) (nI n') pc mc ln lh ls ar' asn aa ao apt act acu aco aq' apc af ad am)) : wpX_leaveReached post (xt P S T sg dr pe po im s0 tb vd (nI u.toNat) (nI i.toNat) (nI n) pc mc ln lh ls ar asn aa ao apt act acu aco aq apc af ad am) (nI a) := by
  have hT := K.2.2.1
  have e1 : nI u.toNat = nI (u || ex_n (fun t => nt_en pe t (a / 16) && nt_un pe po t (a / 16)) 0).toNat := by
    show _ = nI (u || false).toNat
    rw [Bool.or_false]
  have e2 : nI i.toNat = nI (i || ex_n (fun t => nt_en pe t (a / 16) && nt_ic sg dr t (a % 16)) 0).toNat := by
    show _ = nI (i || false).toNat
    rw [Bool.or_false]
  rw [e1, e2]
  refine loop_0 (σ := Nat × (Nat → Bool) × (Nat → Int32) × (Nat → Int32)) (fun k t s => wX_leaveReached_2 post (nI a) k (nI t) (nI S) (nI (2 ^ P)) (nI (2 ^ S)) (nI (3 ^ S)) (nI T) (nI im) (nI s0) vd (nI (u || ex_n (fun t => nt_en pe t (a / 16) && nt_un pe po t (a / 16)) t).toNat) (nI (i || ex_n (fun t => nt_en pe t (a / 16) && nt_ic sg dr t (a % 16)) t).toNat) (nI s.1) pc mc ln lh ls (cu_ar S) (fun j => nI (sg j)) (fun j => nI (dr j)) (fun j => nI (pe j)) (fun j => nI (po j)) tb s.2.2.1 asn aa ao apt act acu aco s.2.2.2 apc af ad am 65536)
    (fun t s => rp_A s.2.2.1 s.2.1 ∧ bf_J (nt_st T sg dr pe po) s0 s.2.1 s.2.2.2 s.1 ∧ bf_C (nt_st T sg dr pe po) s.2.1 s.2.2.2 h ∧ s.2.1 a = true ∧ n ≤ s.1 ∧ (∀ j, j < n → s.2.2.2 j = aq j) ∧ ∀ k, k < t → nt_ok sg dr pe po k a = true → s.2.1 (nt_fr sg dr pe po k a) = true) T (n, R, ar, aq)
    ⟨hA, J, C, hRa, Nat.le_refl _, fun _ _ => rfl, fun k hk => absurd hk (Nat.not_lt_zero _)⟩ ?_ ?_
  · rintro k ⟨n', R', ar', aq'⟩ ⟨i1, i2, i3, i4, i5, i6, i7⟩
    refine br_t (nI_le (Nat.le_refl _) (by omega)) (hp n' R' ar' aq' i1 i2 ?_ i5 i6)
    intro j hj x y ex hx hst
    by_cases e : j = h
    · subst e
      have e2 : nI a = nI x := by rw [← hq, ← ex]; exact (i6 j hh).symm
      rw [nI_eq (by omega) (by omega)] at e2
      subst e2
      obtain ⟨t, ht, hok, ey⟩ := hst
      rw [ey]
      exact i7 t ht hok
    · exact i3 j (by omega) x y ex hx hst
  · rintro k t ⟨n', R', ar', aq'⟩ ht ⟨i1, i2, i3, i4, i5, i6, i7⟩ ih
    have i1' : rp_A ar' R' := i1
    have hno : nt_ok sg dr pe po t a = false → rp_A ar' R' ∧ bf_J (nt_st T sg dr pe po) s0 R' aq' n' ∧ bf_C (nt_st T sg dr pe po) R' aq' h ∧ R' a = true ∧ n ≤ n' ∧ (∀ j, j < n → aq' j = aq j) ∧ ∀ k, k < t + 1 → nt_ok sg dr pe po k a = true → R' (nt_fr sg dr pe po k a) = true := by
      intro z
      refine ⟨i1, i2, i3, i4, i5, i6, lt_s i7 ?_⟩
      intro y
      rw [z] at y
      exact absurd y (by simp)
    have eU : ex_n (fun t => nt_en pe t (a / 16) && nt_un pe po t (a / 16)) (t + 1) = (ex_n (fun t => nt_en pe t (a / 16) && nt_un pe po t (a / 16)) t || (nt_en pe t (a / 16) && nt_un pe po t (a / 16))) := rfl
    have eI : ex_n (fun t => nt_en pe t (a / 16) && nt_ic sg dr t (a % 16)) (t + 1) = (ex_n (fun t => nt_en pe t (a / 16) && nt_ic sg dr t (a % 16)) t || (nt_en pe t (a / 16) && nt_ic sg dr t (a % 16))) := rfl
    refine br_f (nI_ge ht (by omega)) (xw_isEnabled K ht ha (bo_br (fun z => nm_r (nI_1 t) ?_) (fun z => xw_isUnsafe K ht ha (xw_isInconsistent K ht ha (nm_r (bo_or _ _) ⟨bo_nar _, bo_fit _, nm_r (bo_or _ _) ⟨bo_nar _, bo_fit _, ?_⟩⟩)))))
    · have hx := ih (n', R', ar', aq') (hno (by unfold nt_ok; rw [z]; rfl))
      try dsimp only at hx
      rw [eU, eI, z, Bool.false_and, Bool.false_and, Bool.or_false, Bool.or_false] at hx
      exact hx
    · have hx : ∀ s, _ → _ := ih
      try dsimp only at hx
      rw [eU, eI, z, Bool.true_and, Bool.true_and, ← Bool.or_assoc, ← Bool.or_assoc] at hx
      refine bo_br (fun z2 => bo_br (fun z3 => xw_fire K ht ha ?_) (fun z3 => nm_r (nI_1 t) ?_)) (fun z2 => nm_r (nI_1 t) ?_)
      · have hb : nt_fr sg dr pe po t a < 1024 := nt_fr_lt K.2.1.2 K.2.2.2.1 t ha
        have hok : nt_ok sg dr pe po t a = true := by unfold nt_ok; rw [z, z2, z3]; rfl
        have hst : nt_st T sg dr pe po a (nt_fr sg dr pe po t a) := ⟨t, ht, hok, rfl⟩
        refine xw_reach i1' hb (fun z4 => nm_r (nI_1 t) ?_) (fun z4 => bf_new i2 hb z4) (fun z4 => nm_r (nI_1 t) ?_)
        · exact hx (n', R', ar', aq') ⟨i1, i2, i3, i4, i5, i6, lt_s i7 (fun _ => z4)⟩
        · have i5' : n ≤ n' := i5
          refine hx (n' + 1, ct_u R' (nt_fr sg dr pe po t a), upd ar' (nt_fr sg dr pe po t a) (vp_nar .boolean 1), upd aq' n' (nI (nt_fr sg dr pe po t a))) ⟨rp_u i1' _, bf_add i2 i4 hst hb z4, bf_Cadd i3 (by dsimp only at i5; omega), ct_uo _ _ _ i4, by dsimp only at i5 ⊢; omega, fun j hj => ?_, lt_s (fun k hk y => ct_uo _ _ _ (i7 k hk y)) (fun _ => ct_us _ _)⟩
          show upd aq' n' (nI (nt_fr sg dr pe po t a)) j = aq j
          rw [pk_un (by omega)]
          exact i6 j hj
      · exact hx (n', R', ar', aq') (hno (by unfold nt_ok; rw [z3]; simp))
      · exact hx (n', R', ar', aq') (hno (by unfold nt_ok; rw [z2]; simp))
theorem xw_walkNet (K : nt_K P S T sg dr pe po im s0) {post : SX → Prop}
    (hp : ∀ (R : Nat → Bool) (ar' aq' : Nat → Int32), rp_A ar' R → rc_is (nt_st T sg dr pe po) s0 R → post (xt P S T sg dr pe po im s0 tb vd (nI (nt_U T pe po R).toNat) (nI (nt_I T sg dr pe R).toNat) (nI (ct_n R 1024)) pc mc ln lh ls ar' asn aa ao apt act acu aco aq' apc af ad am)) : wpX_walkNet post (xt P S T sg dr pe po im s0 tb vd us ic rc pc mc ln lh ls ar asn aa ao apt act acu aco aq apc af ad am) := by
  have hs0 := K.2.2.2.2.2.1
  have hb := nt_st_lt (T := T) K.2.1.2 K.2.2.2.1
  refine loop_0 (σ := Nat → Int32) (fun n i q => wX_walkNet_2 post (nI S) (nI (2 ^ P)) (nI (2 ^ S)) (nI (3 ^ S)) (nI T) (nI im) (nI s0) vd us ic rc pc mc ln lh ls 65536 n (nI i) (cu_ar S) (fun j => nI (sg j)) (fun j => nI (dr j)) (fun j => nI (pe j)) (fun j => nI (po j)) tb q asn aa ao apt act acu aco aq apc af ad am) (fun i q => ∀ k, k < i → q k = 0) 1024 ar (fun k hk => absurd hk (Nat.not_lt_zero _)) ?_ ?_
  · intro n q hq
    refine br_t (nI_le (Nat.le_refl 1024) (by decide)) ?_
    refine xw_reach (R := fun _ => false) (n := 0) (fun s hs => hq s hs) hs0 (fun z => absurd z (by simp)) (fun _ => by decide) (fun _ => ?_)
    refine loop_0 (σ := Bool × Bool × Nat × (Nat → Bool) × (Nat → Int32) × (Nat → Int32)) (fun n h s => wX_walkNet_47 post n (nI h) (nI S) (nI (2 ^ P)) (nI (2 ^ S)) (nI (3 ^ S)) (nI T) (nI im) (nI s0) vd (nI s.1.toNat) (nI s.2.1.toNat) (nI s.2.2.1) pc mc ln lh ls (cu_ar S) (fun j => nI (sg j)) (fun j => nI (dr j)) (fun j => nI (pe j)) (fun j => nI (po j)) tb s.2.2.2.2.1 asn aa ao apt act acu aco s.2.2.2.2.2 apc af ad am 65536)
      (fun h s => rp_A s.2.2.2.2.1 s.2.2.2.1 ∧ bf_J (nt_st T sg dr pe po) s0 s.2.2.2.1 s.2.2.2.2.2 s.2.2.1 ∧ bf_C (nt_st T sg dr pe po) s.2.2.2.1 s.2.2.2.2.2 h ∧ h ≤ s.2.2.1 ∧ qu_x (fl_U T pe po) s.2.2.2.2.2 h s.1 ∧ qu_x (fl_I T sg dr pe) s.2.2.2.2.2 h s.2.1) 1024 (false, false, 1, ct_u (fun _ => false) s0, _, _)
      ⟨rp_u (fun s hs => hq s hs) s0, bf_0 _ hs0, fun j hj => absurd hj (Nat.not_lt_zero _), Nat.zero_le _, qu_0 _ _, qu_0 _ _⟩ ?_ ?_
    · rintro n ⟨u, i, c, R, ar', aq'⟩ ⟨i1, i2, i3, i4, i5, i6⟩
      have hc : 1024 = c := by have := bf_le i2; dsimp only at i4 this; omega
      have := hp R ar' aq' i1 (bf_end i2 i3 (by (try dsimp only); omega) hb)
      rw [nt_Ux, nt_Ix, ← i2.1] at this
      have e1 := qu_end i2 i5 hc
      have e2 := qu_end i2 i6 hc
      unfold fl_U at e1
      unfold fl_I at e2
      rw [← e1, ← e2] at this
      exact br_t (nI_le (Nat.le_refl 1024) (by decide)) this
    · rintro n h ⟨u, i, c, R, ar', aq'⟩ hh ⟨i1, i2, i3, i4, i5, i6⟩ ih
      have hc1 : c ≤ 1024 := bf_le i2
      refine br_f (nI_ge hh (by decide)) ?_
      by_cases hc : c ≤ h
      · have hc2 : h = c := by dsimp only at i4; omega
        have := hp R ar' aq' i1 (bf_end i2 i3 hc hb)
        rw [nt_Ux, nt_Ix, ← i2.1] at this
        have e1 := qu_end i2 i5 hc2
        have e2 := qu_end i2 i6 hc2
        unfold fl_U at e1
        unfold fl_I at e2
        rw [← e1, ← e2] at this
        exact br_t (nI_le hc (by omega)) this
      · obtain ⟨a, hRa, hqa⟩ := i2.2.2.2.2 h (by (try dsimp only); omega)
        have ha := (i2.2.2.1 a hRa).2
        refine br_f (nI_ge (a := h) (b := c) (by omega) (by omega)) ⟨vp_in_nI hh (by decide), ?_⟩
        try dsimp only
        rw [nI_clamp (by omega), show aq' h = nI a from hqa]
        refine xw_leaveReached K i1 i2 i3 (by (try dsimp only); omega) hRa ha hqa (fun n' R' ar2 aq2 j1 j2 j3 j4 j5 => ?_)
        exact nm_r (nI_1 h) (ih (_, _, n', R', ar2, aq2) ⟨j1, j2, j3, by dsimp only at j4 ⊢; omega, qu_s i5 (by (try dsimp only); omega) ha hqa j5, qu_s i6 (by (try dsimp only); omega) ha hqa j5⟩)
  · intro n i q hi hq ih
    refine br_f (nI_ge hi (by decide)) ⟨vp_in_nI hi (by decide), ?_⟩
    rw [nI_clamp (by omega)]
    exact nm_e (nm_r (nI_1 i) (ih _ (yw_clear q i hq)))
theorem xw_noteExcitement (K : nt_K P S T sg dr pe po im s0) {R : Nat → Bool} (hA : rp_A ar R) {post : SX → Prop} (hp : ∀ (asn' aa' ao' : Nat → Int32), xe_A T sg dr pe po R 1024 asn' aa' ao' → post (xt P S T sg dr pe po im s0 tb vd us ic rc pc mc ln lh ls ar asn' aa' ao' apt act acu aco aq apc af ad am)) : wpX_noteExcitement post (xt P S T sg dr pe po im s0 tb vd us ic rc pc mc ln lh ls ar asn aa ao apt act acu aco aq apc af ad am) := by
  refine loop_0 (σ := (Nat → Int32) × (Nat → Int32) × (Nat → Int32)) (fun n i s => wX_noteExcitement_2 post (nI S) (nI (2 ^ P)) (nI (2 ^ S)) (nI (3 ^ S)) (nI T) (nI im) (nI s0) vd us ic rc pc mc ln lh ls 65536 n (nI i) (cu_ar S) (fun j => nI (sg j)) (fun j => nI (dr j)) (fun j => nI (pe j)) (fun j => nI (po j)) tb ar s.1 s.2.1 s.2.2 apt act acu aco aq apc af ad am) (fun i s => ∀ k, k < i → s.1 k = 0 ∧ s.2.1 k = -1 ∧ s.2.2 k = 0) 16 (asn, aa, ao) (fun k hk => absurd hk (Nat.not_lt_zero _)) ?_ ?_
  · rintro n ⟨s1, s2, s3⟩ hI
    refine br_t (nI_le (Nat.le_refl 16) (by decide)) ?_
    refine loop_0 (σ := (Nat → Int32) × (Nat → Int32) × (Nat → Int32)) (fun n j s => wX_noteExcitement_37 post (nI S) (nI (2 ^ P)) (nI (2 ^ S)) (nI (3 ^ S)) (nI T) (nI im) (nI s0) vd us ic rc pc mc ln lh ls 65536 n (nI j) (cu_ar S) (fun j => nI (sg j)) (fun j => nI (dr j)) (fun j => nI (pe j)) (fun j => nI (po j)) tb ar s.1 s.2.1 s.2.2 apt act acu aco aq apc af ad am) (fun j s => xe_A T sg dr pe po R j s.1 s.2.1 s.2.2) 1024 (s1, s2, s3) (xe_0 T sg dr pe po R hI) ?_ ?_
    · rintro n ⟨s1, s2, s3⟩ hI
      exact br_t (nI_le (Nat.le_refl 1024) (by decide)) (hp s1 s2 s3 hI)
    · rintro n j ⟨s1, s2, s3⟩ hj hI ih
      have hv : vp_in (nI (j % 16)) 16 := vp_in_nI (by omega) (by decide)
      refine br_f (nI_ge hj (by decide)) ⟨vp_in_nI hj (by decide), ?_⟩
      try dsimp only
      rw [nI_clamp (by omega), hA j hj]
      refine bo_br (fun z => nm_r (nI_1 j) (ih (s1, s2, s3) (xe_skip hI z))) (fun z => ⟨by decide, ?_⟩)
      rw [iv_rem hj]
      refine xw_excitedSignals K hj (fun M hM => ?_)
      have hx := ih (_, _, _) (xe_put hI z hM)
      have e1 : vp_nar .boolean 1 = 1 := bo_vn true
      dsimp only at hx ⊢
      rw [nI_clamp (by omega), e1]
      exact ⟨hv, nm_e ⟨hv, hv, nm_e ⟨hv, hv, nm_e (nm_r (nI_1 j) hx)⟩⟩⟩
  · rintro n i ⟨s1, s2, s3⟩ hi hI ih
    have hv : vp_in (nI i) 16 := vp_in_nI hi (by decide)
    have hI' : ∀ k, k < i → s1 k = 0 ∧ s2 k = -1 ∧ s3 k = 0 := hI
    refine br_f (nI_ge hi (by decide)) ?_
    rw [nI_clamp (by omega)]
    refine ⟨hv, nm_e ⟨hv, nm_e ⟨hv, nm_e (nm_r (nI_1 i) (ih (upd s1 i (vp_nar .boolean 0), upd s2 i (-1), upd s3 i 0) ?_))⟩⟩⟩
    intro k hk
    by_cases e : k = i
    · subst e
      try dsimp only
      rw [pk_us, pk_us, pk_us]
      exact ⟨bo_vn false, rfl, rfl⟩
    · dsimp only
      rw [pk_un e, pk_un e, pk_un e]
      exact hI' k (by omega)
end
end
section
/-! the reference's cubes, primes and covers -/
section
variable {P S T : Nat} {sg dr pe po : Nat → Nat} {im s0 : Nat} {tb : Nat → Int32}
variable {vd us ic rc pc mc ln lh ls cm cc : Int32} {ar asn aa ao apt act acu aco aq apc af ad am yr ym yn yi yp yv : Nat → Int32}
theorem yw_cubes (K : nt_K P S T sg dr pe po im s0) {post : Int32 → Prop} (h : post (nI (3 ^ S))) : wpY_cubes post (yt P S T sg dr pe po im s0 tb vd pc cm cc yr ym yn yi yp yv) := by
  have hS := K.2.1
  have : S = 1 ∨ S = 2 ∨ S = 3 ∨ S = 4 := by omega
  rcases this with rfl | rfl | rfl | rfl
  · exact br_t rfl h
  · exact br_f (by decide) (br_t rfl h)
  · exact br_f (by decide) (br_f (by decide) (br_t rfl h))
  · exact br_f (by decide) (br_f (by decide) (br_f (by decide) h))
theorem cu_dg {S q c i : Nat} : (fun i => (q / 3 ^ i % 3 == 2) || (q / 3 ^ i % 3 == (c.testBit i).toNat)) i = ((q / 3 ^ i % 3 == 2) || (q / 3 ^ i % 3 == (c.testBit i).toNat)) := rfl
theorem cu_81 {S : Nat} (hS : S ≤ 4) : 3 ^ S ≤ 81 := (Nat.pow_le_pow_right (by decide) hS : 3 ^ S ≤ 3 ^ 4)
theorem cu_nx (q i : Nat) : q / 3 ^ i / 3 = q / 3 ^ (i + 1) := by rw [Nat.div_div_eq_div_mul, Nat.pow_succ]
theorem yw_covers (K : nt_K P S T sg dr pe po im s0) {q c : Nat} (hq : q < 81) {post : Int32 → Prop} (h : post (nI (cu_cv S q c).toNat)) : wpY_covers post (yt P S T sg dr pe po im s0 tb vd pc cm cc yr ym yn yi yp yv) (nI q) (nI c) := by
  have hS := K.2.1
  let f : Nat → Bool := fun i => (q / 3 ^ i % 3 == 2) || (q / 3 ^ i % 3 == (c.testBit i).toNat)
  have key : ∃ n, wY_covers_5 post (nI c) (nI P) (nI S) (nI (s0 / 16)) (nI (s0 % 16)) (nI T) vd pc cm cc (fun j => nI (sg j)) (fun j => nI (dr j)) (fun j => nI (pe j)) (fun j => nI (po j)) (fun j => nI (im.testBit j).toNat) tb yr ym yn yi yp yv n (nI (q / 3 ^ 0)) (nI 0) := by
    refine loop_0 (σ := Unit) (fun n i _ => wY_covers_5 post (nI c) (nI P) (nI S) (nI (s0 / 16)) (nI (s0 % 16)) (nI T) vd pc cm cc (fun j => nI (sg j)) (fun j => nI (dr j)) (fun j => nI (pe j)) (fun j => nI (po j)) (fun j => nI (im.testBit j).toNat) tb yr ym yn yi yp yv n (nI (q / 3 ^ i)) (nI i)) (fun i _ => ∀ j, j < i → f j = true) S () (fun j hj => absurd hj (Nat.not_lt_zero _)) ?_ ?_
    · intro n _ hI
      have e : cu_cv S q c = true := al_iff.mpr hI
      rw [e] at h
      exact br_t (nI_le (Nat.le_refl _) (by omega)) h
    · intro n i _ hi hI ih
      have hd : q / 3 ^ i ≤ q := Nat.div_le_self _ _
      have hm : q / 3 ^ i % 3 < 3 := Nat.mod_lt _ (by decide)
      have ht := sg_toNat_lt (c.testBit i)
      have e1 : nI (q / 3 ^ i) - nI (q / 3 ^ i) / 3 * 3 = nI (q / 3 ^ i % 3) := pk_rem (d := 3) (by omega) (by decide) (by decide)
      have e2 : nI (q / 3 ^ i) / 3 = nI (q / 3 ^ (i + 1)) := by rw [← cu_nx]; exact pk_div (d := 3) (by omega) (by decide) (by decide)
      refine br_f (nI_ge hi (by omega)) ⟨by decide, nm_r e1 ⟨by decide, nm_r e2 ?_⟩⟩
      rw [sg_bitN c (by omega)]
      by_cases h2 : q / 3 ^ i % 3 = 2
      · refine br_t (by rw [h2]; rfl) (nm_r (nI_1 i) (ih () (lt_s hI ?_)))
        show ((q / 3 ^ i % 3 == 2) || _) = true
        rw [h2]; rfl
      · refine br_f (fun z => h2 ((nI_eq (b := 2) (by omega) (by omega)).mp z)) ?_
        by_cases h3 : q / 3 ^ i % 3 = (c.testBit i).toNat
        · refine br_t (by rw [h3]) (nm_r (nI_1 i) (ih () (lt_s hI ?_)))
          show ((q / 3 ^ i % 3 == 2) || (q / 3 ^ i % 3 == (c.testBit i).toNat)) = true
          rw [beq_iff_eq.mpr h3, Bool.or_true]
        · have e : cu_cv S q c = false := al_not.mpr ⟨i, hi, by
            show ((q / 3 ^ i % 3 == 2) || (q / 3 ^ i % 3 == (c.testBit i).toNat)) = false
            rw [beq_eq_false_iff_ne.mpr h2, beq_eq_false_iff_ne.mpr h3]; rfl⟩
          rw [e] at h
          exact br_f (fun z => h3 ((nI_eq (by omega) (by omega)).mp z)) h
  rw [Nat.pow_zero, Nat.div_one] at key
  exact key
theorem yw_coversValue (K : nt_K P S T sg dr pe po im s0) {v : Nat → Nat} (hv : ∀ c, c < 2 ^ S → yn c = nI (v c) ∧ v c < 4) {q a : Nat} (hq : q < 81) (ha : a < 4) {post : Int32 → Prop} (h : post (nI (ex_n (fun c => (v c == a) && cu_cv S q c) (2 ^ S)).toNat)) : wpY_coversValue post (yt P S T sg dr pe po im s0 tb vd pc cm cc yr ym yn yi yp yv) (nI q) (nI a) := by
  have hp := nt_pS K.2.1.2
  have hS := K.2.1
  refine loop_0 (σ := Unit) (fun n c _ => wY_coversValue_2 post (nI q) (nI a) (nI P) (nI S) (nI (s0 / 16)) (nI (s0 % 16)) (nI T) vd pc cm cc (fun j => nI (sg j)) (fun j => nI (dr j)) (fun j => nI (pe j)) (fun j => nI (po j)) (fun j => nI (im.testBit j).toNat) tb yr ym yn yi yp yv n (nI c)) (fun c _ => ∀ j, j < c → ((v j == a) && cu_cv S q j) = false) (2 ^ S) () (fun j hj => absurd hj (Nat.not_lt_zero _)) ?_ ?_
  · intro n _ hI
    rw [ex_not.mpr hI] at h
    exact br_t (by rw [sg_s1 (by omega)]; exact nI_le (Nat.le_refl _) (by omega)) h
  · intro n c _ hc hI ih
    refine br_f (by rw [sg_s1 (by omega)]; exact nI_ge hc (by omega)) ⟨vp_in_nI (by omega) (by decide), ?_⟩
    try dsimp only
    rw [nI_clamp (by omega), (hv c hc).1]
    have hvc := (hv c hc).2
    by_cases h1 : v c = a
    · refine br_t (by rw [h1]) (yw_covers K hq (bo_br (fun z => nm_r (nI_1 c) (ih () (lt_s hI (by rw [z, Bool.and_false])))) (fun z => ?_)))
      rw [ex_iff.mpr ⟨c, hc, by rw [h1, z, beq_self_eq_true]; rfl⟩] at h
      exact h
    · exact br_f (fun z => h1 ((nI_eq (by omega) (by omega)).mp z)) (nm_r (nI_1 c) (ih () (lt_s hI (by rw [beq_eq_false_iff_ne.mpr h1]; rfl))))
theorem yw_coversAllOf (K : nt_K P S T sg dr pe po im s0) {p q : Nat} (hp : p < 81) (hq : q < 81) {post : Int32 → Prop} (h : post (nI (pr_al S p q).toNat)) : wpY_coversAllOf post (yt P S T sg dr pe po im s0 tb vd pc cm cc yr ym yn yi yp yv) (nI p) (nI q) := by
  have h16 := nt_pS K.2.1.2
  have hS := K.2.1
  refine loop_0 (σ := Unit) (fun n c _ => wY_coversAllOf_2 post (nI p) (nI q) (nI P) (nI S) (nI (s0 / 16)) (nI (s0 % 16)) (nI T) vd pc cm cc (fun j => nI (sg j)) (fun j => nI (dr j)) (fun j => nI (pe j)) (fun j => nI (po j)) (fun j => nI (im.testBit j).toNat) tb yr ym yn yi yp yv n (nI c)) (fun c _ => ∀ j, j < c → (!(cu_cv S q j) || cu_cv S p j) = true) (2 ^ S) () (fun j hj => absurd hj (Nat.not_lt_zero _)) ?_ ?_
  · intro n _ hI
    have e : pr_al S p q = true := al_iff.mpr hI
    rw [e] at h
    exact br_t (by rw [sg_s1 (by omega)]; exact nI_le (Nat.le_refl _) (by omega)) h
  · intro n c _ hc hI ih
    refine br_f (by rw [sg_s1 (by omega)]; exact nI_ge hc (by omega)) (yw_covers K hq (bo_br (fun z => nm_r (nI_1 c) (ih () (lt_s hI (by rw [z]; rfl)))) (fun z => yw_covers K hp (bo_br (fun z2 => ?_) (fun z2 => nm_r (nI_1 c) (ih () (lt_s hI (by rw [z2, Bool.or_true]))))))))
    have e : pr_al S p q = false := al_not.mpr ⟨c, hc, by rw [z, z2]; rfl⟩
    rw [e] at h
    exact h
theorem yw_inLarger (K : nt_K P S T sg dr pe po im s0) {v : Nat → Nat} (hi : ∀ q, q < 3 ^ S → yi q = nI (pr_im S v q).toNat) {q : Nat} (hq : q < 3 ^ S) {post : Int32 → Prop} (h : post (nI (pr_lg S v q).toNat)) : wpY_inLarger post (yt P S T sg dr pe po im s0 tb vd pc cm cc yr ym yn yi yp yv) (nI q) := by
  have h81 := cu_81 K.2.1.2
  refine loop_0 (σ := Unit) (fun n p _ => wY_inLarger_2 post (nI q) (nI P) (nI S) (nI (s0 / 16)) (nI (s0 % 16)) (nI T) vd pc cm cc (fun j => nI (sg j)) (fun j => nI (dr j)) (fun j => nI (pe j)) (fun j => nI (po j)) (fun j => nI (im.testBit j).toNat) tb yr ym yn yi yp yv n (nI p)) (fun p _ => ∀ j, j < p → (!(j == q) && (pr_im S v j && pr_al S j q)) = false) (3 ^ S) () (fun j hj => absurd hj (Nat.not_lt_zero _)) ?_ ?_
  · intro n _ hI
    have e : pr_lg S v q = false := ex_not.mpr hI
    rw [e] at h
    first | rw [wY_inLarger_2] | rw [wY_findPrimes_32] | rw [wY_findPrimes_73]
    try dsimp only
    refine yw_cubes K ?_
    exact br_t (nI_le (Nat.le_refl _) (by omega)) h
  · intro n p _ hp hI ih
    first | rw [wY_inLarger_2] | rw [wY_findPrimes_32] | rw [wY_findPrimes_73]
    try dsimp only
    refine yw_cubes K ?_
    refine br_f (nI_ge hp (by omega)) ?_
    by_cases h1 : p = q
    · exact br_t (by rw [h1]) (nm_r (nI_1 p) (ih () (lt_s hI (by rw [h1, beq_self_eq_true]; rfl))))
    · refine br_f (fun z => h1 ((nI_eq (by omega) (by omega)).mp z)) ⟨vp_in_nI (by omega) (by decide), ?_⟩
      try dsimp only
      rw [nI_clamp (by omega), hi p hp]
      refine bo_br (fun z => nm_r (nI_1 p) (ih () (lt_s hI (by rw [z]; simp)))) (fun z => yw_coversAllOf K (by omega) (by omega) (bo_br (fun z2 => nm_r (nI_1 p) (ih () (lt_s hI (by rw [z2]; simp)))) (fun z2 => ?_)))
      have e : pr_lg S v q = true := ex_iff.mpr ⟨p, hp, by rw [z, z2, beq_eq_false_iff_ne.mpr h1]; rfl⟩
      rw [e] at h
      exact h
/-- the primes in the array: the first q cubes are done -/
def pq_A (S : Nat) (v : Nat → Nat) (a : Nat → Int32) (q : Nat) : Prop := ∀ p, p < q → pr_p S v p = true → a (ct_n (pr_p S v) p) = nI p
theorem pq_A0 {S : Nat} {v : Nat → Nat} {a : Nat → Int32} {q : Nat} (A : pq_A S v a q) (h : pr_p S v q = false) : pq_A S v a (q + 1) ∧ ct_n (pr_p S v) (q + 1) = ct_n (pr_p S v) q := by
  refine ⟨fun p hp hpp => ?_, by show ct_n (pr_p S v) q + (pr_p S v q).toNat = _; rw [h]; rfl⟩
  have : p ≠ q := by intro e; subst e; rw [h] at hpp; exact absurd hpp (by simp)
  exact A p (by omega) hpp
theorem pq_A1 {S : Nat} {v : Nat → Nat} {a : Nat → Int32} {q : Nat} (A : pq_A S v a q) (h : pr_p S v q = true) : pq_A S v (upd a (ct_n (pr_p S v) q) (nI q)) (q + 1) ∧ ct_n (pr_p S v) (q + 1) = ct_n (pr_p S v) q + 1 := by
  refine ⟨fun p hp hpp => ?_, by show ct_n (pr_p S v) q + (pr_p S v q).toNat = _; rw [h]; rfl⟩
  by_cases e : p = q
  · subst e; exact pk_us
  · have := ct_pos (f := pr_p S v) (n := q) (q := p) (by omega) hpp
    rw [pk_un (by omega)]
    exact A p (by omega) hpp
theorem pq_Aq {S : Nat} {v : Nat → Nat} {a : Nat → Int32} (A : pq_A S v a (3 ^ S)) {k : Nat} (hk : k < pq_n S v) : a k = nI (pq_q S v k) := by
  obtain ⟨h1, h2, h3⟩ := pq_is hk
  have := A _ h3 h1
  rw [h2] at this
  exact this
theorem yw_findPrimes (K : nt_K P S T sg dr pe po im s0) {R : Nat → Bool} (hR : rp_A yr R) {i : Nat} (hi : i < 4) {post : SY → Prop}
    (h : ∀ (yn' yi' yp' : Nat → Int32), (∀ c, c < 2 ^ S → yn' c = nI (nt_v T sg dr pe po R i c)) → pq_A S (nt_v T sg dr pe po R i) yp' (3 ^ S) → post (yt P S T sg dr pe po im s0 tb vd (nI (pq_n S (nt_v T sg dr pe po R i))) cm cc yr ym yn' yi' yp' yv)) : wpY_findPrimes post (yt P S T sg dr pe po im s0 tb vd pc cm cc yr ym yn yi yp yv) (nI i) := by
  have hS := K.2.1
  have h16 := nt_pS hS.2
  have h81 := cu_81 hS.2
  refine loop_0 (σ := Nat → Int32) (fun n c a => wY_findPrimes_2 post (nI i) (nI P) (nI S) (nI (s0 / 16)) (nI (s0 % 16)) (nI T) vd pc cm cc n (nI c) (fun j => nI (sg j)) (fun j => nI (dr j)) (fun j => nI (pe j)) (fun j => nI (po j)) (fun j => nI (im.testBit j).toNat) tb yr ym a yi yp yv) (fun c a => ∀ d, d < c → a d = nI (nt_v T sg dr pe po R i d)) (2 ^ S) yn (fun j hj => absurd hj (Nat.not_lt_zero _)) ?_ ?_
  · intro n a ha
    have ha' : ∀ c, c < 2 ^ S → a c = nI (nt_v T sg dr pe po R i c) ∧ nt_v T sg dr pe po R i c < 4 := fun c hc => ⟨ha c hc, nt_v_lt T sg dr pe po R i c⟩
    refine br_t (by rw [sg_s1 (by omega)]; exact nI_le (Nat.le_refl _) (by omega)) ?_
    refine loop_0 (σ := Nat → Int32) (fun n q b => wY_findPrimes_32 post (nI P) (nI S) (nI (s0 / 16)) (nI (s0 % 16)) (nI T) vd pc cm cc n (nI q) (fun j => nI (sg j)) (fun j => nI (dr j)) (fun j => nI (pe j)) (fun j => nI (po j)) (fun j => nI (im.testBit j).toNat) tb yr ym a b yp yv) (fun q b => ∀ p, p < q → b p = nI (pr_im S (nt_v T sg dr pe po R i) p).toNat) (3 ^ S) yi (fun j hj => absurd hj (Nat.not_lt_zero _)) ?_ ?_
    · intro n b hb
      first | rw [wY_inLarger_2] | rw [wY_findPrimes_32] | rw [wY_findPrimes_73]
      try dsimp only
      refine yw_cubes K ?_
      refine br_t (nI_le (Nat.le_refl _) (by omega)) ?_
      refine loop_0 (σ := Nat → Int32) (fun n q d => wY_findPrimes_73 post (nI P) (nI S) (nI (s0 / 16)) (nI (s0 % 16)) (nI T) vd cm cc n (nI q) (nI (ct_n (pr_p S (nt_v T sg dr pe po R i)) q)) (fun j => nI (sg j)) (fun j => nI (dr j)) (fun j => nI (pe j)) (fun j => nI (po j)) (fun j => nI (im.testBit j).toNat) tb yr ym a b d yv) (fun q d => pq_A S (nt_v T sg dr pe po R i) d q) (3 ^ S) yp (fun j hj => absurd hj (Nat.not_lt_zero _)) ?_ ?_
      · intro n d hd
        first | rw [wY_inLarger_2] | rw [wY_findPrimes_32] | rw [wY_findPrimes_73]
        try dsimp only
        refine yw_cubes K ?_
        exact br_t (nI_le (Nat.le_refl _) (by omega)) (h a b d ha hd)
      · intro n q d hq hd ih
        have hct := ct_le (pr_p S (nt_v T sg dr pe po R i)) q
        have hno : pr_p S (nt_v T sg dr pe po R i) q = false → wY_findPrimes_73 post (nI P) (nI S) (nI (s0 / 16)) (nI (s0 % 16)) (nI T) vd cm cc n (nI (q + 1)) (nI (ct_n (pr_p S (nt_v T sg dr pe po R i)) q)) (fun j => nI (sg j)) (fun j => nI (dr j)) (fun j => nI (pe j)) (fun j => nI (po j)) (fun j => nI (im.testBit j).toNat) tb yr ym a b d yv := by
          intro z
          obtain ⟨z1, z2⟩ := pq_A0 hd z
          have := ih d z1
          rw [z2] at this
          exact this
        first | rw [wY_inLarger_2] | rw [wY_findPrimes_32] | rw [wY_findPrimes_73]
        try dsimp only
        refine yw_cubes K ?_
        refine br_f (nI_ge hq (by omega)) ⟨vp_in_nI (by omega) (by decide), ?_⟩
        try dsimp only
        rw [nI_clamp (n := q) (by omega), hb q hq]
        refine bo_br (fun z => nm_r (nI_1 q) (hno (by unfold pr_p; rw [z]; rfl))) (fun z => yw_coversValue K ha' (a := 1) (by omega) (by omega) (bo_br (fun z2 => nm_r (nI_1 q) (hno ?_)) (fun z2 => yw_inLarger K hb hq (bo_br (fun z3 => ⟨vp_in_nI (by omega) (by decide), ?_⟩) (fun z3 => nm_r (nI_1 q) (hno (by unfold pr_p; rw [z3]; simp)))))))
        · have z2' : pr_h1 S (nt_v T sg dr pe po R i) q = false := z2
          unfold pr_p; rw [z2']; simp
        · have z2' : pr_h1 S (nt_v T sg dr pe po R i) q = true := z2
          have hpr : pr_p S (nt_v T sg dr pe po R i) q = true := by unfold pr_p; rw [z, z2', z3]; rfl
          obtain ⟨y1, y2⟩ := pq_A1 hd hpr
          have := ih _ y1
          rw [y2] at this
          rw [nI_clamp (n := ct_n (pr_p S (nt_v T sg dr pe po R i)) q) (by omega)]
          exact nm_e (nm_r (nI_1 _) (nm_r (nI_1 q) this))
    · intro n q b hq hb ih
      first | rw [wY_inLarger_2] | rw [wY_findPrimes_32] | rw [wY_findPrimes_73]
      try dsimp only
      refine yw_cubes K ?_
      refine br_f (nI_ge hq (by omega)) (yw_coversValue K ha' (a := 0) (by omega) (by omega) ?_)
      have e : ∀ x : Bool, ex_n (fun c => (nt_v T sg dr pe po R i c == 0) && cu_cv S q c) (2 ^ S) = x → pr_im S (nt_v T sg dr pe po R i) q = !x := by
        intro x hx
        unfold pr_im al_n
        rw [ex_congr (g := fun c => (nt_v T sg dr pe po R i c == 0) && cu_cv S q c) (fun c _ => Bool.not_not _), hx]
      have hput : ∀ (x : Bool) (y : Int32), pr_im S (nt_v T sg dr pe po R i) q = x → y = nI x.toNat → ∀ p, p < q + 1 → upd b q y p = nI (pr_im S (nt_v T sg dr pe po R i) p).toNat := by
        intro x y hx hy p hp
        by_cases e : p = q
        · subst e; rw [pk_us, hx, hy]
        · rw [pk_un e]; exact hb p (by omega)
      rw [nI_clamp (by omega)]
      exact bo_br (fun z => ⟨vp_in_nI (by omega) (by decide), nm_e (nm_r (nI_1 q) (ih _ (hput true _ (e _ z) (bo_vn true))))⟩) (fun z => ⟨vp_in_nI (by omega) (by decide), nm_e (nm_r (nI_1 q) (ih _ (hput false _ (e _ z) (bo_vn false))))⟩)
  · intro n c a hc ha ih
    refine br_f (by rw [sg_s1 (by omega)]; exact nI_ge hc (by omega)) (yw_valueFor K hR hi (by omega) ⟨vp_in_nI (by omega) (by decide), ?_⟩)
    rw [nI_clamp (by omega)]
    refine nm_e (nm_r (nI_1 c) (ih _ ?_))
    intro d hd
    by_cases e : d = c
    · subst e; exact pk_us
    · rw [pk_un e]; exact ha d (by omega)
theorem yw_inSet {n M k : Nat} (hn : n ≤ 27) (hk : k < n) {post : Int32 → Prop} (h : post (nI (nu_in n M k).toNat)) : wpY_inSet post (yt P S T sg dr pe po im s0 tb vd (nI n) cm cc yr ym yn yi yp yv) (nI M) (nI k) := by
  have e : (nI n - 1) - nI k = nI (n - 1 - k) := by
    rw [show (1 : Int32) = nI 1 from rfl, pk_sub (by omega), pk_sub (by omega)]
  show (((nI M >>> (((nI n - 1) - nI k) &&& 31)) &&& 1) = 1 → post 1) ∧ (¬ ((nI M >>> (((nI n - 1) - nI k) &&& 31)) &&& 1) = 1 → post 0)
  rw [e, sg_bitN M (by omega)]
  exact bo_if sg_t1 h
theorem yw_sizeOf {n M : Nat} (hn : n ≤ 27) {post : Int32 → Prop} (h : post (nI (ct_n (nu_in n M) n))) : wpY_sizeOf post (yt P S T sg dr pe po im s0 tb vd (nI n) cm cc yr ym yn yi yp yv) (nI M) := by
  refine loop_0 (σ := Unit) (fun f k _ => wY_sizeOf_4 post (nI M) (nI P) (nI S) (nI (s0 / 16)) (nI (s0 % 16)) (nI T) vd (nI n) cm cc (fun j => nI (sg j)) (fun j => nI (dr j)) (fun j => nI (pe j)) (fun j => nI (po j)) (fun j => nI (im.testBit j).toNat) tb yr ym yn yi yp yv f (nI (ct_n (nu_in n M) k)) (nI k)) (fun _ _ => True) n () trivial ?_ ?_
  · intro f _ _
    exact br_t (nI_le (Nat.le_refl _) (by omega)) h
  · intro f k _ hk _ ih
    have hx := ih () trivial
    refine br_f (nI_ge hk (by omega)) (yw_inSet hn hk (bo_br (fun z => nm_r (nI_1 k) ?_) (fun z => nm_r (nI_1 _) (nm_r (nI_1 k) ?_))))
    · have e1 : ct_n (nu_in n M) (k + 1) = ct_n (nu_in n M) k := by show ct_n (nu_in n M) k + (nu_in n M k).toNat = _; rw [z]; rfl
      rw [e1] at hx
      exact hx
    · have e1 : ct_n (nu_in n M) (k + 1) = ct_n (nu_in n M) k + 1 := by show ct_n (nu_in n M) k + (nu_in n M k).toNat = _; rw [z]; rfl
      rw [e1] at hx
      exact hx
theorem yw_setCovers (K : nt_K P S T sg dr pe po im s0) {v : Nat → Nat} (hA : pq_A S v yp (3 ^ S)) {M c : Nat} {post : Int32 → Prop} (h : post (nI (pq_sc S v (nu_in (pq_n S v) M) c).toNat)) : wpY_setCovers post (yt P S T sg dr pe po im s0 tb vd (nI (pq_n S v)) cm cc yr ym yn yi yp yv) (nI M) (nI c) := by
  have hn := pq_le K.2.1.1 K.2.1.2 v
  have h81 := cu_81 K.2.1.2
  refine loop_0 (σ := Unit) (fun f k _ => wY_setCovers_2 post (nI M) (nI c) (nI P) (nI S) (nI (s0 / 16)) (nI (s0 % 16)) (nI T) vd (nI (pq_n S v)) cm cc (fun j => nI (sg j)) (fun j => nI (dr j)) (fun j => nI (pe j)) (fun j => nI (po j)) (fun j => nI (im.testBit j).toNat) tb yr ym yn yi yp yv f (nI k)) (fun k _ => ∀ j, j < k → (nu_in (pq_n S v) M j && cu_cv S (pq_q S v j) c) = false) (pq_n S v) () (fun j hj => absurd hj (Nat.not_lt_zero _)) ?_ ?_
  · intro f _ hI
    have e : pq_sc S v (nu_in (pq_n S v) M) c = false := ex_not.mpr hI
    rw [e] at h
    exact br_t (nI_le (Nat.le_refl _) (by omega)) h
  · intro f k _ hk hI ih
    have hq := (pq_is hk).2.2
    refine br_f (nI_ge hk (by omega)) (yw_inSet hn hk (bo_br (fun z => nm_r (nI_1 k) (ih () (lt_s hI (by rw [z]; rfl)))) (fun z => ⟨vp_in_nI (by omega) (by decide), ?_⟩)))
    try dsimp only
    rw [nI_clamp (by omega), pq_Aq hA hk]
    refine yw_covers K (by omega) (bo_br (fun z2 => nm_r (nI_1 k) (ih () (lt_s hI (by rw [z2, Bool.and_false])))) (fun z2 => ?_))
    have e : pq_sc S v (nu_in (pq_n S v) M) c = true := ex_iff.mpr ⟨k, hk, by rw [z, z2]; rfl⟩
    rw [e] at h
    exact h
theorem yw_isCover (K : nt_K P S T sg dr pe po im s0) {v : Nat → Nat} (hv : ∀ c, c < 2 ^ S → yn c = nI (v c) ∧ v c < 4) (hA : pq_A S v yp (3 ^ S)) {M : Nat} {post : Int32 → Prop} (h1 : pq_C S v (nu_in (pq_n S v) M) → post 1) (h0 : ¬ pq_C S v (nu_in (pq_n S v) M) → post 0) : wpY_isCover post (yt P S T sg dr pe po im s0 tb vd (nI (pq_n S v)) cm cc yr ym yn yi yp yv) (nI M) := by
  have hS := K.2.1
  have h16 := nt_pS hS.2
  refine loop_0 (σ := Unit) (fun f c _ => wY_isCover_2 post (nI M) (nI P) (nI S) (nI (s0 / 16)) (nI (s0 % 16)) (nI T) vd (nI (pq_n S v)) cm cc (fun j => nI (sg j)) (fun j => nI (dr j)) (fun j => nI (pe j)) (fun j => nI (po j)) (fun j => nI (im.testBit j).toNat) tb yr ym yn yi yp yv f (nI c)) (fun c _ => ∀ j, j < c → v j = 1 → pq_sc S v (nu_in (pq_n S v) M) j = true) (2 ^ S) () (fun j hj => absurd hj (Nat.not_lt_zero _)) ?_ ?_
  · intro f _ hI
    exact br_t (by rw [sg_s1 (by omega)]; exact nI_le (Nat.le_refl _) (by omega)) (h1 hI)
  · intro f c _ hc hI ih
    refine br_f (by rw [sg_s1 (by omega)]; exact nI_ge hc (by omega)) ⟨vp_in_nI (by omega) (by decide), ?_⟩
    try dsimp only
    rw [nI_clamp (by omega), (hv c hc).1]
    have hvc := (hv c hc).2
    by_cases z : v c = 1
    · refine br_t (by rw [z]; rfl) (yw_setCovers K hA (bo_br (fun z2 => h0 (fun hC => ?_)) (fun z2 => nm_r (nI_1 c) (ih () (lt_s hI (fun _ => z2))))))
      have := hC c hc z
      rw [z2] at this
      exact absurd this (by simp)
    · exact br_f (fun y => z ((nI_eq (b := 1) (by omega) (by omega)).mp y)) (nm_r (nI_1 c) (ih () (lt_s hI (fun y => absurd y z))))
theorem yw_findCover (K : nt_K P S T sg dr pe po im s0) {R : Nat → Bool} (hR : rp_A yr R) {i : Nat} (hi : i < 4) {post : SY → Prop}
    (h : ∀ (n M : Nat) (yn' yi' yp' : Nat → Int32), pq_B S (nt_v T sg dr pe po R i) n M → pq_A S (nt_v T sg dr pe po R i) yp' (3 ^ S) → post (yt P S T sg dr pe po im s0 tb vd (nI (pq_n S (nt_v T sg dr pe po R i))) (nI M) (nI n) yr ym yn' yi' yp' yv)) : wpY_findCover post (yt P S T sg dr pe po im s0 tb vd pc cm cc yr ym yn yi yp yv) (nI i) := by
  have hS := K.2.1
  refine yw_findPrimes K hR hi (fun yn' yi' yp' hn hA => ?_)
  have hnv : ∀ c, c < 2 ^ S → yn' c = nI (nt_v T sg dr pe po R i c) ∧ nt_v T sg dr pe po R i c < 4 := fun c hc => ⟨hn c hc, nt_v_lt T sg dr pe po R i c⟩
  have hle := pq_le hS.1 hS.2 (nt_v T sg dr pe po R i)
  have hpow : 2 ^ pq_n S (nt_v T sg dr pe po R i) ≤ 2 ^ 27 := Nat.pow_le_pow_right (by decide) hle
  have hpos : 0 < 2 ^ pq_n S (nt_v T sg dr pe po R i) := Nat.two_pow_pos _
  have e : ((1 : Int32) <<< (nI (pq_n S (nt_v T sg dr pe po R i)) &&& 31)) - 1 = nI (2 ^ pq_n S (nt_v T sg dr pe po R i) - 1) := by
    rw [sg_s1 (by omega)]
    exact pk_sub (b := 1) (by omega)
  refine nm_r e ?_
  have key : ∀ k n M, k ≤ 2 ^ pq_n S (nt_v T sg dr pe po R i) → n ≤ 100 → nu_I (pq_n S (nt_v T sg dr pe po R i)) (pq_C S (nt_v T sg dr pe po R i)) k n M →
      wY_findCover_25 post (nI P) (nI S) (nI (s0 / 16)) (nI (s0 % 16)) (nI T) vd (nI (pq_n S (nt_v T sg dr pe po R i))) (fun j => nI (sg j)) (fun j => nI (dr j)) (fun j => nI (pe j)) (fun j => nI (po j)) (fun j => nI (im.testBit j).toNat) tb yr ym yn' yi' yp' yv (k + 1) (nI k - 1) (nI M) (nI n) := by
    intro k
    induction k with
    | zero =>
      intro n M _ _ hI
      obtain ⟨M0, h0, hc⟩ := pq_full hS.1 hS.2 (nt_v T sg dr pe po R i)
      exact br_t (by decide) (h n M yn' yi' yp' (nu_end (by omega) hI h0 hc) hA)
    | succ k ih =>
      intro n M hk hn hI
      have hct := ct_le (nu_in (pq_n S (nt_v T sg dr pe po R i)) k) (pq_n S (nt_v T sg dr pe po R i))
      have ek : nI (k + 1) - 1 = nI k := nI_pred k
      have em : nI k + (-1) = nI k - 1 := by grind
      rw [ek]
      refine br_f (nI_pos (by omega)) (yw_sizeOf hle ?_)
      by_cases z : n ≤ ct_n (nu_in (pq_n S (nt_v T sg dr pe po R i)) k) (pq_n S (nt_v T sg dr pe po R i))
      · exact br_t (nI_le z (by omega)) (nm_r em (ih n M (by omega) hn (nu_pass (by omega) hI (Or.inl z))))
      · refine br_f (nI_ge (by omega) (by omega)) (yw_isCover K hnv hA (fun hC => ?_) (fun hC => ?_))
        · exact br_f (by decide) (nm_r em (ih _ k (by omega) (by omega) (nu_take hI (by omega) hC (by omega))))
        · exact br_t rfl (nm_r em (ih n M (by omega) hn (nu_pass (by omega) hI (Or.inr hC))))
  have := key (2 ^ pq_n S (nt_v T sg dr pe po R i)) 100 0 (Nat.le_refl _) (by omega) (nu_start _ _)
  rw [show nI (2 ^ pq_n S (nt_v T sg dr pe po R i)) - 1 = nI (2 ^ pq_n S (nt_v T sg dr pe po R i) - 1) from pk_sub (b := 1) (by omega)] at this
  exact ⟨_, this⟩
end
end
section
/-! the component's primes and covers -/
section
variable {P S T : Nat} {sg dr pe po : Nat → Nat} {im s0 : Nat} {tb : Nat → Int32}
variable {vd us ic rc pc mc ln lh ls cm cc : Int32} {ar asn aa ao apt act acu aco aq apc af ad am yr ym yn yi yp yv : Nat → Int32}
theorem cu_ti {S q : Nat} (h : q < 3 ^ S) : cu_ar S q = nI (cu_m S q (2 ^ S)) := if_pos h
theorem xw_codesWithNext (K : nt_K P S T sg dr pe po im s0) {R : Nat → Bool} (A : xe_A T sg dr pe po R 1024 asn aa ao) {i a : Nat} (hi : i < 4) (ha : a < 4) {post : Int32 → Prop} (h : post (nI (pq_x (nt_v T sg dr pe po R i) a (2 ^ S)))) : wpX_codesWithNext post (xt P S T sg dr pe po im s0 tb vd us ic rc pc mc ln lh ls ar asn aa ao apt act acu aco aq apc af ad am) (nI i) (nI a) := by
  have hS := K.2.1
  have hp := nt_pS hS.2
  refine loop_0 (σ := Unit) (fun n c _ => wX_codesWithNext_5 post (nI i) (nI a) (nI S) (nI (2 ^ P)) (nI (2 ^ S)) (nI (3 ^ S)) (nI T) (nI im) (nI s0) vd us ic rc pc mc ln lh ls (cu_ar S) (fun j => nI (sg j)) (fun j => nI (dr j)) (fun j => nI (pe j)) (fun j => nI (po j)) tb ar asn aa ao apt act acu aco aq apc af ad am 65536 n (nI (pq_x (nt_v T sg dr pe po R i) a c)) (nI c)) (fun _ _ => True) (2 ^ S) () trivial ?_ ?_
  · intro n _ _
    exact br_t (nI_le (Nat.le_refl _) (by omega)) h
  · intro n c _ hc _ ih
    have hx := ih () trivial
    have hv := nt_v_lt T sg dr pe po R i c
    refine br_f (nI_ge hc (by omega)) (xw_nextOf K A hi (by omega) ?_)
    by_cases z : nt_v T sg dr pe po R i c = a
    · refine br_t (by rw [z]) (nm_r (by rw [sg_s1 (by omega), sg_or]) (nm_r (nI_1 c) ?_))
      have e : pq_x (nt_v T sg dr pe po R i) a (c + 1) = pq_x (nt_v T sg dr pe po R i) a c ||| 2 ^ c := by
        show _ ||| (if nt_v T sg dr pe po R i c = a then 2 ^ c else 0) = _
        rw [if_pos z]
      rw [e] at hx
      exact hx
    · refine br_f (fun y => z ((nI_eq (by omega) (by omega)).mp y)) (nm_r (nI_1 c) ?_)
      have e : pq_x (nt_v T sg dr pe po R i) a (c + 1) = pq_x (nt_v T sg dr pe po R i) a c := by
        show _ ||| (if nt_v T sg dr pe po R i c = a then 2 ^ c else 0) = _
        rw [if_neg z, Nat.or_zero]
      rw [e] at hx
      exact hx
theorem xw_isLargestImplicant (K : nt_K P S T sg dr pe po im s0) {v : Nat → Nat} {q : Nat} (hq : q < 3 ^ S) {post : Int32 → Prop} (h : post (nI (pr_im S v q && !(pr_lg S v q)).toNat)) : wpX_isLargestImplicant post (xt P S T sg dr pe po im s0 tb vd us ic rc pc mc ln lh ls ar asn aa ao apt act acu aco aq apc af ad am) (nI q) (nI (pq_x v 0 (2 ^ S))) := by
  have hS := K.2.1
  have hp := nt_pS hS.2
  have h81 := cu_81 hS.2
  have him : ∀ p, p < 3 ^ S → (cu_ar S p &&& nI (pq_x v 0 (2 ^ S)) = 0 ↔ pr_im S v p = true) := by
    intro p hp'
    have hlt : cu_m S p (2 ^ S) &&& pq_x v 0 (2 ^ S) < 2 ^ 31 := Nat.lt_of_le_of_lt Nat.and_le_left (iv_31 (cu_m_lt hp))
    rw [cu_ti hp', nx_and, iv_n0 hlt, pq_mim]
  have hal : ∀ p, p < 3 ^ S → (cu_ar S q &&& (cu_ar S p ^^^ (-1)) = 0 ↔ pr_al S p q = true) := by
    intro p hp'
    have hlt : sg_an (cu_m S q (2 ^ S)) (cu_m S p (2 ^ S)) < 2 ^ 31 := Nat.lt_of_le_of_lt (sg_an_le _ _) (iv_31 (cu_m_lt hp))
    rw [cu_ti hp', cu_ti hq, sg_andn, iv_n0 hlt, pq_mal]
  have hvq : vp_in (nI q) 81 := vp_in_nI (by omega) (by decide)
  unfold wpX_isLargestImplicant xt
  try dsimp only
  rw [nI_clamp (by omega)]
  refine ⟨hvq, ?_⟩
  by_cases z : pr_im S v q = true
  · refine br_t ((him q hq).mpr z) ?_
    rw [z, Bool.true_and] at h
    refine loop_0 (σ := Unit) (fun n p _ => wX_isLargestImplicant_15 post (nI q) (nI (pq_x v 0 (2 ^ S))) (nI S) (nI (2 ^ P)) (nI (2 ^ S)) (nI (3 ^ S)) (nI T) (nI im) (nI s0) vd us ic rc pc mc ln lh ls (cu_ar S) (fun j => nI (sg j)) (fun j => nI (dr j)) (fun j => nI (pe j)) (fun j => nI (po j)) tb ar asn aa ao apt act acu aco aq apc af ad am 65536 n (nI p)) (fun p _ => ∀ j, j < p → (!(j == q) && (pr_im S v j && pr_al S j q)) = false) (3 ^ S) () (fun j hj => absurd hj (Nat.not_lt_zero _)) ?_ ?_
    · intro n _ hI
      have e : pr_lg S v q = false := ex_not.mpr hI
      rw [e] at h
      exact br_t (nI_le (Nat.le_refl _) (by omega)) h
    · intro n p _ hp' hI ih
      have hvp : vp_in (nI p) 81 := vp_in_nI (by omega) (by decide)
      refine br_f (nI_ge hp' (by omega)) ⟨hvp, ?_⟩
      rw [nI_clamp (by omega)]
      refine bo_if (post := fun z => wX_isLargestImplicant_39 post (wX_isLargestImplicant_15 post (nI q) (nI (pq_x v 0 (2 ^ S))) (nI S) (nI (2 ^ P)) (nI (2 ^ S)) (nI (3 ^ S)) (nI T) (nI im) (nI s0) vd us ic rc pc mc ln lh ls (cu_ar S) (fun j => nI (sg j)) (fun j => nI (dr j)) (fun j => nI (pe j)) (fun j => nI (po j)) tb ar asn aa ao apt act acu aco aq apc af ad am 65536 n) (nI q) (nI (pq_x v 0 (2 ^ S))) (nI p) z (nI S) (nI (2 ^ P)) (nI (2 ^ S)) (nI (3 ^ S)) (nI T) (nI im) (nI s0) vd us ic rc pc mc ln lh ls (cu_ar S) (fun j => nI (sg j)) (fun j => nI (dr j)) (fun j => nI (pe j)) (fun j => nI (po j)) tb ar asn aa ao apt act acu aco aq apc af ad am 65536) (him p hp') ?_
      refine ⟨hvq, hvp, ?_⟩
      rw [nI_clamp (by omega), nI_clamp (by omega)]
      refine bo_if (post := fun y => wX_isLargestImplicant_64 post (wX_isLargestImplicant_15 post (nI q) (nI (pq_x v 0 (2 ^ S))) (nI S) (nI (2 ^ P)) (nI (2 ^ S)) (nI (3 ^ S)) (nI T) (nI im) (nI s0) vd us ic rc pc mc ln lh ls (cu_ar S) (fun j => nI (sg j)) (fun j => nI (dr j)) (fun j => nI (pe j)) (fun j => nI (po j)) tb ar asn aa ao apt act acu aco aq apc af ad am 65536 n) (nI q) (nI (pq_x v 0 (2 ^ S))) (nI p) (nI (pr_im S v p).toNat) y (nI S) (nI (2 ^ P)) (nI (2 ^ S)) (nI (3 ^ S)) (nI T) (nI im) (nI s0) vd us ic rc pc mc ln lh ls (cu_ar S) (fun j => nI (sg j)) (fun j => nI (dr j)) (fun j => nI (pe j)) (fun j => nI (po j)) tb ar asn aa ao apt act acu aco aq apc af ad am 65536) (hal p hp') ?_
      by_cases h1 : p = q
      · exact br_t (by rw [h1]) (nm_r (nI_1 p) (ih () (lt_s hI (by rw [h1, beq_self_eq_true]; rfl))))
      · refine br_f (fun y => h1 ((nI_eq (by omega) (by omega)).mp y)) (bo_br (fun z1 => nm_r (nI_1 p) (ih () (lt_s hI (by rw [z1]; simp)))) (fun z1 => bo_br (fun z2 => nm_r (nI_1 p) (ih () (lt_s hI (by rw [z2]; simp)))) (fun z2 => ?_)))
        have e : pr_lg S v q = true := ex_iff.mpr ⟨p, hp', by rw [z1, z2, beq_eq_false_iff_ne.mpr h1]; rfl⟩
        rw [e] at h
        exact h
  · refine br_f (fun y => z ((him q hq).mp y)) ?_
    rw [bo_nt z] at h
    exact h
theorem xw_listPrimes (K : nt_K P S T sg dr pe po im s0) {v : Nat → Nat} {post : SX → Prop} (h : ∀ apc', pq_A S v apc' (3 ^ S) → post (xt P S T sg dr pe po im s0 tb vd us ic rc (nI (pq_n S v)) mc ln lh ls ar asn aa ao apt act acu aco aq apc' af ad am)) : wpX_listPrimes post (xt P S T sg dr pe po im s0 tb vd us ic rc pc mc ln lh ls ar asn aa ao apt act acu aco aq apc af ad am) (nI (pq_x v 1 (2 ^ S))) (nI (pq_x v 0 (2 ^ S))) := by
  have hS := K.2.1
  have hp := nt_pS hS.2
  have h81 := cu_81 hS.2
  refine loop_0 (σ := Nat → Int32) (fun n q d => wX_listPrimes_7 post (nI (pq_x v 1 (2 ^ S))) (nI (pq_x v 0 (2 ^ S))) (nI S) (nI (2 ^ P)) (nI (2 ^ S)) (nI (3 ^ S)) (nI T) (nI im) (nI s0) vd us ic rc mc ln lh ls 65536 n (nI q) (nI (ct_n (pr_p S v) q)) (cu_ar S) (fun j => nI (sg j)) (fun j => nI (dr j)) (fun j => nI (pe j)) (fun j => nI (po j)) tb ar asn aa ao apt act acu aco aq d af ad am) (fun q d => pq_A S v d q) (3 ^ S) apc (fun j hj => absurd hj (Nat.not_lt_zero _)) ?_ ?_
  · intro n d hd
    exact br_t (nI_le (Nat.le_refl _) (by omega)) (h d hd)
  · intro n q d hq hd ih
    have hct := ct_le (pr_p S v) q
    have hno : pr_p S v q = false → wX_listPrimes_7 post (nI (pq_x v 1 (2 ^ S))) (nI (pq_x v 0 (2 ^ S))) (nI S) (nI (2 ^ P)) (nI (2 ^ S)) (nI (3 ^ S)) (nI T) (nI im) (nI s0) vd us ic rc mc ln lh ls 65536 n (nI (q + 1)) (nI (ct_n (pr_p S v) q)) (cu_ar S) (fun j => nI (sg j)) (fun j => nI (dr j)) (fun j => nI (pe j)) (fun j => nI (po j)) tb ar asn aa ao apt act acu aco aq d af ad am := by
      intro z
      obtain ⟨z1, z2⟩ := pq_A0 hd z
      have := ih d z1
      rw [z2] at this
      exact this
    have hh1 : cu_ar S q &&& nI (pq_x v 1 (2 ^ S)) = 0 ↔ pr_h1 S v q = false := by
      have hlt : cu_m S q (2 ^ S) &&& pq_x v 1 (2 ^ S) < 2 ^ 31 := Nat.lt_of_le_of_lt Nat.and_le_left (iv_31 (cu_m_lt hp))
      rw [cu_ti hq, nx_and, iv_n0 hlt, pq_mh1]
    refine br_f (nI_ge hq (by omega)) ⟨vp_in_nI (by omega) (by decide), ?_⟩
    rw [nI_clamp (n := q) (by omega)]
    by_cases z : pr_h1 S v q = false
    · exact br_t (hh1.mpr z) (nm_r (nI_1 q) (hno (by unfold pr_p; rw [z]; simp)))
    · refine br_f (fun y => z (hh1.mp y)) (xw_isLargestImplicant K hq (bo_br (fun z2 => nm_r (nI_1 q) (hno ?_)) (fun z2 => ⟨vp_in_nI (by omega) (by decide), ?_⟩)))
      · unfold pr_p
        cases h1 : pr_im S v q
        · rfl
        · rw [h1, Bool.true_and] at z2
          rw [z2]; simp
      · rw [Bool.and_eq_true] at z2
        have hpr : pr_p S v q = true := by unfold pr_p; rw [z2.1, z2.2, bo_nf z]; rfl
        obtain ⟨y1, y2⟩ := pq_A1 hd hpr
        have := ih _ y1
        rw [y2] at this
        rw [nI_clamp (n := ct_n (pr_p S v) q) (by omega)]
        exact nm_e (nm_r (nI_1 _) (nm_r (nI_1 q) this))
theorem xw_sizeOf {W : Nat} {post : Int32 → Prop} (h : post (nI (ct_n (fun i => W.testBit i) 16))) : wpX_sizeOf post (nI W) := by
  refine loop_0 (σ := Unit) (fun n k _ => wX_sizeOf_4 post (nI W) n (nI (ct_n (fun i => W.testBit i) k)) (nI k)) (fun _ _ => True) 16 () trivial ?_ ?_
  · intro n _ _
    exact br_t (nI_le (Nat.le_refl 16) (by decide)) h
  · intro n k _ hk _ ih
    have hx := ih () trivial
    refine br_f (nI_ge hk (by decide)) ?_
    show ∀ x1_3, x1_3 = nI (ct_n (fun i => W.testBit i) k) + ((nI W >>> (nI k &&& 31)) &&& 1) → _
    rw [sg_bitN W (by omega), nI_add]
    exact nm_e (nm_r (nI_1 k) hx)
/-- the table at A -/
def fw_T (np : Nat) (km : Nat → Nat) (a : Nat → Int32) (A : Nat) : Prop := ∃ n, n ≤ 16 ∧ a A = nI n ∧ fw_L np km A n
def fw_F (a : Nat → Int32) (A : Nat) : Nat := (a A).toNatClampNeg
theorem fw_TF {np : Nat} {km : Nat → Nat} {a : Nat → Int32} {A : Nat} (h : fw_T np km a A) : fw_F a A ≤ 16 ∧ a A = nI (fw_F a A) ∧ fw_L np km A (fw_F a A) := by
  obtain ⟨n, h1, h2, h3⟩ := h
  have e : fw_F a A = n := by unfold fw_F; rw [h2]; exact nI_clamp (by omega)
  rw [e]
  exact ⟨h1, h2, h3⟩
theorem pq_mlt {S : Nat} (hS : S ≤ 4) {v : Nat → Nat} {k : Nat} : pq_m S v k < 65536 := cu_m_lt (nt_pS hS)
theorem xw_fewestFor (K : nt_K P S T sg dr pe po im s0) {v : Nat → Nat} (hA : pq_A S v apc (3 ^ S)) {A b : Nat} (hA0 : A ≠ 0) (hA16 : A < 65536) (hb : A.testBit b = true) (hb2 : sg_an A (A - 1) = 2 ^ b)
    (hF : ∀ k, k < pq_n S v → (pq_m S v k).testBit b = true → fw_T (pq_n S v) (pq_m S v) af (sg_an A (pq_m S v k))) {post : Int32 → Prop} (h : post (nI (fw_m (pq_m S v) (fw_F af) A b (pq_n S v)))) : wpX_fewestFor post (xt P S T sg dr pe po im s0 tb vd us ic rc (nI (pq_n S v)) mc ln lh ls ar asn aa ao apt act acu aco aq apc af ad am) (nI A) := by
  have hS := K.2.1
  have h81 := cu_81 hS.2
  have hn := pq_le hS.1 hS.2 v
  have hb16 : 2 ^ b ≤ A := Nat.ge_two_pow_of_testBit hb
  refine nm_r (by rw [pd_neg hA0, hb2]) ?_
  refine loop_0 (σ := Unit) (fun n k _ => wX_fewestFor_11 post (nI A) (nI (2 ^ b)) (nI S) (nI (2 ^ P)) (nI (2 ^ S)) (nI (3 ^ S)) (nI T) (nI im) (nI s0) vd us ic rc (nI (pq_n S v)) mc ln lh ls (cu_ar S) (fun j => nI (sg j)) (fun j => nI (dr j)) (fun j => nI (pe j)) (fun j => nI (po j)) tb ar asn aa ao apt act acu aco aq apc af ad am 65536 n (nI (fw_m (pq_m S v) (fw_F af) A b k)) (nI k)) (fun _ _ => True) (pq_n S v) () trivial ?_ ?_
  · intro n _ _
    exact br_t (nI_le (Nat.le_refl _) (by omega)) h
  · intro n k _ hk _ ih
    have hx := ih () trivial
    have hq := (pq_is hk).2.2
    have e1 : cu_ar S (pq_q S v k) = nI (pq_m S v k) := cu_ti hq
    have hm16 := fw_m16 (km := pq_m S v) (F := fw_F af) (A := A) (b := b) k
    refine br_f (nI_ge hk (by omega)) ⟨vp_in_nI (by omega) (by decide), ?_⟩
    rw [nI_clamp (n := k) (by omega), pq_Aq hA hk, nI_clamp (n := pq_q S v k) (by omega)]
    refine ⟨vp_in_nI (by omega) (by decide), nm_r e1 ?_⟩
    have hbit : nI (pq_m S v k) &&& nI (2 ^ b) = 0 ↔ (pq_m S v k).testBit b = false := by
      have hlt : pq_m S v k &&& 2 ^ b < 2 ^ 31 := Nat.lt_of_le_of_lt Nat.and_le_right (by omega)
      rw [nx_and, iv_n0 hlt, sg_and0]
      constructor
      · intro z
        apply bo_nt
        intro y
        have := z b y
        rw [Nat.testBit_two_pow_self] at this
        exact absurd this (by simp)
      · intro z i hi
        rw [Nat.testBit_two_pow]
        refine decide_eq_false (fun e => ?_)
        subst e
        rw [z] at hi
        exact absurd hi (by simp)
    by_cases z : (pq_m S v k).testBit b = true
    · obtain ⟨f1, f2, f3⟩ := fw_TF (hF k hk z)
      have hle := sg_an_le A (pq_m S v k)
      refine br_f (fun y => by rw [hbit.mp y] at z; exact absurd z (by simp)) ?_
      rw [sg_andn, nI_clamp (n := sg_an A (pq_m S v k)) (by omega), f2]
      refine ⟨vp_in_nI (by omega) (by decide), nm_r (nI_add 1 _) ?_⟩
      have e : fw_m (pq_m S v) (fw_F af) A b (k + 1) = if 1 + fw_F af (sg_an A (pq_m S v k)) < fw_m (pq_m S v) (fw_F af) A b k then 1 + fw_F af (sg_an A (pq_m S v k)) else fw_m (pq_m S v) (fw_F af) A b k := if_pos z
      rw [e] at hx
      by_cases y : 1 + fw_F af (sg_an A (pq_m S v k)) < fw_m (pq_m S v) (fw_F af) A b k
      · rw [if_pos y] at hx
        exact br_f (nI_ge y (by omega)) (nm_r (nI_1 k) hx)
      · rw [if_neg y] at hx
        exact br_t (nI_le (by omega) (by omega)) (nm_r (nI_1 k) hx)
    · have e : fw_m (pq_m S v) (fw_F af) A b (k + 1) = fw_m (pq_m S v) (fw_F af) A b k := if_neg z
      rw [e] at hx
      exact br_t (hbit.mpr (bo_nt z)) (nm_r (nI_1 k) hx)
theorem by_16 : ∀ m, m < 17 → vp_nar .byte (nI m).toInt8.toInt32 = nI m := by decide +kernel
theorem xw_countFewestPrimes (K : nt_K P S T sg dr pe po im s0) {v : Nat → Nat} (hA : pq_A S v apc (3 ^ S)) {post : SX → Prop}
    (h : ∀ af', (∀ A, sg_sub A (pq_w v (2 ^ S)) → fw_T (pq_n S v) (pq_m S v) af' A) → post (xt P S T sg dr pe po im s0 tb vd us ic rc (nI (pq_n S v)) mc ln lh ls ar asn aa ao apt act acu aco aq apc af' ad am)) : wpX_countFewestPrimes post (xt P S T sg dr pe po im s0 tb vd us ic rc (nI (pq_n S v)) mc ln lh ls ar asn aa ao apt act acu aco aq apc af ad am) (nI (pq_w v (2 ^ S))) := by
  have hS := K.2.1
  have hW : pq_w v (2 ^ S) < 2 ^ 16 := pq_wlt hS.2
  have hz := pd_zz 16 (pq_w v (2 ^ S))
  have hct := ct_le (fun i => (pq_w v (2 ^ S)).testBit i) 16
  have hz2 : pd_z 16 (pq_w v (2 ^ S)) ≤ 2 ^ 16 := by rw [hz]; exact Nat.pow_le_pow_right (by decide) hct
  have hz1 : 1 ≤ pd_z 16 (pq_w v (2 ^ S)) := by rw [hz]; exact Nat.two_pow_pos _
  refine xw_sizeOf ?_
  refine nm_r (by rw [sg_s1 (by omega), ← hz]) ⟨vp_in_iff.mpr (by decide), nm_e ?_⟩
  have h0 : fw_T (pq_n S v) (pq_m S v) (upd af (0 : Int32).toNatClampNeg (vp_nar .byte 0)) 0 := by
    refine ⟨0, by omega, ?_, fw_0 _ _⟩
    rw [show (0 : Int32).toNatClampNeg = 0 from by decide, pk_us]
    exact by_16 0 (by decide)
  have key := pk_loop (σ := Nat → Int32) (fun n i s => wX_countFewestPrimes_19 post (nI (pq_w v (2 ^ S))) (nI (pd_z 16 (pq_w v (2 ^ S)))) (nI S) (nI (2 ^ P)) (nI (2 ^ S)) (nI (3 ^ S)) (nI T) (nI im) (nI s0) vd us ic rc (nI (pq_n S v)) mc ln lh ls 65536 n (nI (pd_n 16 (pq_w v (2 ^ S)) (i - 1))) (nI i) (cu_ar S) (fun j => nI (sg j)) (fun j => nI (dr j)) (fun j => nI (pe j)) (fun j => nI (po j)) tb ar asn aa ao apt act acu aco aq apc s ad am)
    (fun i s => 1 ≤ i ∧ ∀ j, j < i → fw_T (pq_n S v) (pq_m S v) s (pd_n 16 (pq_w v (2 ^ S)) j)) (pd_z 16 (pq_w v (2 ^ S))) 1 (upd af (0 : Int32).toNatClampNeg (vp_nar .byte 0)) hz1 ⟨Nat.le_refl _, fun j hj => by
      have : j = 0 := by omega
      subst this
      rw [pd_0]
      exact h0⟩ ?_ ?_
  · rw [Nat.sub_self, pd_0] at key
    exact key
  · rintro n s ⟨_, hI⟩
    refine br_t (nI_le (Nat.le_refl _) (by omega)) (h s (fun A hs => ?_))
    obtain ⟨j, hj, e⟩ := pd_su 16 _ A hW hs
    rw [← e]
    exact hI j hj
  · rintro n i s hi ⟨hi1, hI⟩ ih
    have hlt := pd_lt 16 (pq_w v (2 ^ S)) (i - 1) i (by omega) hi
    have hsub := pd_s 16 (pq_w v (2 ^ S)) i
    have hle := sg_sub_le hsub
    have hnx := pd_nx 16 (pq_w v (2 ^ S)) (i - 1) hW (by omega)
    rw [show i - 1 + 1 = i from by omega] at hnx
    have e1 : (nI (pd_n 16 (pq_w v (2 ^ S)) (i - 1)) - nI (pq_w v (2 ^ S))) &&& nI (pq_w v (2 ^ S)) = nI (pd_n 16 (pq_w v (2 ^ S)) i) := by
      rw [pd_step (by omega) (by omega), hnx]
    have hA0 : pd_n 16 (pq_w v (2 ^ S)) i ≠ 0 := by omega
    obtain ⟨b, hb, hb2⟩ := pd_low _ _ hA0 (Nat.le_refl _)
    have hhit : ∀ j, (pd_n 16 (pq_w v (2 ^ S)) i).testBit j = true → j < 16 ∧ ∃ k, k < pq_n S v ∧ (pq_m S v k).testBit j = true := fun j hj => pq_hit hS.1 hS.2 (hsub j hj)
    have hT : ∀ k, k < pq_n S v → (pq_m S v k).testBit b = true → fw_T (pq_n S v) (pq_m S v) s (sg_an (pd_n 16 (pq_w v (2 ^ S)) i) (pq_m S v k)) := by
      intro k hk hkb
      obtain ⟨j, hj, e⟩ := pd_su 16 _ _ hW (sg_sub_t (sg_sub_an (pd_n 16 (pq_w v (2 ^ S)) i) (pq_m S v k)) hsub)
      have hl := sg_an_lt hb hkb
      rw [← e] at hl ⊢
      exact hI j (pd_inv hl hj)
    refine br_f (nI_ge hi (by omega)) (nm_r e1 (xw_fewestFor K hA hA0 (by omega) hb hb2 hT ⟨vp_in_nI (by omega) (by decide), ?_⟩))
    have hm16 := fw_m16 (km := pq_m S v) (F := fw_F s) (A := pd_n 16 (pq_w v (2 ^ S)) i) (b := b) (pq_n S v)
    have hL := fw_mL (F := fw_F s) hhit hb (fun k hk hkb => (fw_TF (hT k hk hkb)).2.2)
    rw [nI_clamp (n := pd_n 16 (pq_w v (2 ^ S)) i) (by omega), by_16 _ (by omega)]
    refine nm_e (nm_r (nI_1 i) (ih _ ⟨by omega, lt_s (fun j hj => ?_) ?_⟩))
    · obtain ⟨m, y1, y2, y3⟩ := hI j hj
      have hne := pd_lt 16 (pq_w v (2 ^ S)) j i hj hi
      exact ⟨m, y1, by rw [pk_un (by omega)]; exact y2, y3⟩
    · exact ⟨_, hm16, pk_us, hL⟩
/-- what is kept of the cover of signal i -/
def xc_A (S : Nat) (v : Nat → Nat) (i : Nat) (apt act acu aco : Nat → Int32) : Prop := apt i = nI (pq_n S v) ∧ ∃ n M Cc, pq_B S v n M ∧ n ≤ 16 ∧ act i = nI n ∧ (∀ k, k < pq_n S v → nu_in (pq_n S v) M k = true → acu (16 * i + ct_n (nu_in (pq_n S v) M) k) = nI (pq_q S v k)) ∧
  Cc < 65536 ∧ aco i = nI Cc ∧ ∀ c, Cc.testBit c = (decide (c < 2 ^ S) && pq_sc S v (nu_in (pq_n S v) M) c)
theorem xw_chooseCover (K : nt_K P S T sg dr pe po im s0) {v : Nat → Nat} (hA : pq_A S v apc (3 ^ S)) (hT : ∀ A, sg_sub A (pq_w v (2 ^ S)) → fw_T (pq_n S v) (pq_m S v) af A) {i : Nat} (hi : i < 4) (hpt : apt i = nI (pq_n S v)) {post : SX → Prop}
    (h : ∀ (act' acu' aco' : Nat → Int32), xc_A S v i apt act' acu' aco' → (∀ j, j ≠ i → act' j = act j ∧ aco' j = aco j) → (∀ x, (x < 16 * i ∨ 16 * i + 16 ≤ x) → acu' x = acu x) → post (xt P S T sg dr pe po im s0 tb vd us ic rc (nI (pq_n S v)) mc ln lh ls ar asn aa ao apt act' acu' aco' aq apc af ad am)) : wpX_chooseCover post (xt P S T sg dr pe po im s0 tb vd us ic rc (nI (pq_n S v)) mc ln lh ls ar asn aa ao apt act acu aco aq apc af ad am) (nI i) (nI (pq_w v (2 ^ S))) := by
  have hS := K.2.1
  have h81 := cu_81 hS.2
  have hn := pq_le hS.1 hS.2 v
  have hW : pq_w v (2 ^ S) < 65536 := pq_wlt hS.2
  have hF : ∀ A, sg_sub A (pq_w v (2 ^ S)) → fw_L (pq_n S v) (pq_m S v) A (fw_F af A) := fun A hA => (fw_TF (hT A hA)).2.2
  have hFW := (fw_TF (hT _ (sg_sub_r _))).1
  have hvi : vp_in (nI i) 4 := vp_in_nI hi (by decide)
  unfold wpX_chooseCover xt
  try dsimp only
  rw [nI_clamp (by omega)]
  refine ⟨hvi, nm_e ?_⟩
  refine loop_0 (σ := (Nat → Int32) × (Nat → Int32)) (fun n k s => wX_chooseCover_15 post (nI i) (nI S) (nI (2 ^ P)) (nI (2 ^ S)) (nI (3 ^ S)) (nI T) (nI im) (nI s0) vd us ic rc (nI (pq_n S v)) mc ln lh ls 65536 n (nI (gr_O (pq_m S v) (fw_F af) (pq_w v (2 ^ S)) k)) (nI (ct_n (gr_G (pq_m S v) (fw_F af) (pq_w v (2 ^ S))) k)) (nI k) (cu_ar S) (fun j => nI (sg j)) (fun j => nI (dr j)) (fun j => nI (pe j)) (fun j => nI (po j)) tb ar asn aa ao apt act s.1 s.2 aq apc af ad am)
    (fun k s => (∀ j, j < k → gr_G (pq_m S v) (fw_F af) (pq_w v (2 ^ S)) j = true → s.1 (16 * i + ct_n (gr_G (pq_m S v) (fw_F af) (pq_w v (2 ^ S))) j) = nI (pq_q S v j)) ∧ (∀ x, (x < 16 * i ∨ 16 * i + 16 ≤ x) → s.1 x = acu x) ∧ (∀ j, j ≠ i → s.2 j = aco j) ∧
      ∃ Cc, Cc < 65536 ∧ s.2 i = nI Cc ∧ ∀ c, Cc.testBit c = ex_n (fun j => gr_G (pq_m S v) (fw_F af) (pq_w v (2 ^ S)) j && (pq_m S v j).testBit c) k) (pq_n S v) (acu, _) ⟨fun j hj => absurd hj (Nat.not_lt_zero _), fun _ _ => rfl, fun j hj => pk_un hj, 0, by omega, pk_us, fun c => Nat.zero_testBit c⟩ ?_ ?_
  · rintro n ⟨s1, s2⟩ ⟨i1, i2, i3, Cc, i4, i5, i6⟩
    have hend := gr_end hF
    refine br_t (nI_le (Nat.le_refl _) (by omega)) ⟨hvi, ?_⟩
    rw [nI_clamp (n := i) (by omega)]
    refine nm_e ?_
    refine h _ s1 s2 ⟨hpt, fw_F af (pq_w v (2 ^ S)), nu_v (gr_G (pq_m S v) (fw_F af) (pq_w v (2 ^ S))) (pq_n S v), Cc, gr_best hF (fun g => pq_Ciff g), hFW, ?_, fun k hk hin => ?_, i4, i5, fun c => ?_⟩ (fun j hj => ⟨pk_un hj, i3 j hj⟩) i2
    · rw [pk_us, hend.2]
    · have e : ∀ j, j < pq_n S v → nu_in (pq_n S v) (nu_v (gr_G (pq_m S v) (fw_F af) (pq_w v (2 ^ S))) (pq_n S v)) j = gr_G (pq_m S v) (fw_F af) (pq_w v (2 ^ S)) j := fun j hj => nu_of _ hj
      rw [e k hk] at hin
      rw [ct_congr (fun j hj => e j (by omega))]
      exact i1 k hk hin
    · rw [i6 c]
      unfold pq_sc
      by_cases hc : c < 2 ^ S
      · rw [decide_eq_true hc, Bool.true_and]
        refine ex_congr (fun j hj => ?_)
        rw [nu_of _ hj]
        unfold pq_m
        rw [cu_mb, decide_eq_true hc, Bool.true_and]
      · rw [decide_eq_false hc, Bool.false_and]
        refine ex_not.mpr (fun j hj => ?_)
        unfold pq_m
        rw [cu_mb, decide_eq_false hc, Bool.false_and, Bool.and_false]
  · rintro n k ⟨s1, s2⟩ hk ⟨i1, i2, i3, Cc, i4, i5, i6⟩ ih
    have hq := (pq_is hk).2.2
    have e1 : cu_ar S (pq_q S v k) = nI (pq_m S v k) := cu_ti hq
    have hml := pq_mlt hS.2 (v := v) (k := k)
    have hsO := gr_sub (km := pq_m S v) (F := fw_F af) (W := pq_w v (2 ^ S)) k
    have hlO := sg_sub_le hsO
    have hsR := sg_sub_t (sg_sub_an (gr_O (pq_m S v) (fw_F af) (pq_w v (2 ^ S)) k) (pq_m S v k)) hsO
    have hlR := sg_sub_le hsR
    obtain ⟨f1, f2, f3⟩ := fw_TF (hT _ hsO)
    obtain ⟨g1, g2, g3⟩ := fw_TF (hT _ hsR)
    have hcnt := gr_cnt hF k (by omega)
    refine br_f (nI_ge hk (by omega)) ⟨vp_in_nI (by omega) (by decide), ?_⟩
    rw [nI_clamp (n := k) (by omega), pq_Aq hA hk, nI_clamp (n := pq_q S v k) (by omega)]
    refine ⟨vp_in_nI (by omega) (by decide), nm_r e1 (nm_r (sg_andn _ _) ?_)⟩
    rw [nI_clamp (n := gr_O (pq_m S v) (fw_F af) (pq_w v (2 ^ S)) k) (by omega), nI_clamp (n := sg_an (gr_O (pq_m S v) (fw_F af) (pq_w v (2 ^ S)) k) (pq_m S v k)) (by omega), f2, g2]
    refine ⟨vp_in_nI (by omega) (by decide), vp_in_nI (by omega) (by decide), ?_⟩
    cases hG : gr_G (pq_m S v) (fw_F af) (pq_w v (2 ^ S)) k
    · have hGl := of_decide_eq_false hG
      refine br_t (nI_le (by omega) (by omega)) (nm_r (nI_1 k) ?_)
      have e2 : ct_n (gr_G (pq_m S v) (fw_F af) (pq_w v (2 ^ S))) (k + 1) = ct_n (gr_G (pq_m S v) (fw_F af) (pq_w v (2 ^ S))) k := by show _ + (gr_G (pq_m S v) (fw_F af) (pq_w v (2 ^ S)) k).toNat = _; rw [hG]; rfl
      have hx := ih (s1, s2) ⟨lt_s i1 (fun z => absurd (hG.symm.trans z) (by simp)), i2, i3, Cc, i4, i5, fun c => by
        rw [i6 c]
        show _ = (ex_n _ k || (gr_G (pq_m S v) (fw_F af) (pq_w v (2 ^ S)) k && (pq_m S v k).testBit c))
        rw [hG, Bool.false_and, Bool.or_false]⟩
      try dsimp only at hx
      rw [e2, gr_O0 hG] at hx
      exact hx
    · have hGl := of_decide_eq_true hG
      have e2 : ct_n (gr_G (pq_m S v) (fw_F af) (pq_w v (2 ^ S))) (k + 1) = ct_n (gr_G (pq_m S v) (fw_F af) (pq_w v (2 ^ S))) k + 1 := by show _ + (gr_G (pq_m S v) (fw_F af) (pq_w v (2 ^ S)) k).toNat = _; rw [hG]; rfl
      refine br_f (nI_ge hGl (by omega)) ⟨vp_in_nI (by omega) (by decide), ?_⟩
      rw [iv_16, nI_clamp (n := i * 16 + ct_n (gr_G (pq_m S v) (fw_F af) (pq_w v (2 ^ S))) k) (by omega), nI_clamp (n := i) (by omega)]
      refine ⟨vp_in_nI (by omega) (by decide), nm_e ⟨hvi, hvi, nm_r (show _ = upd s2 i (nI (Cc ||| pq_m S v k)) from by
        show upd s2 i (s2 i ||| nI (pq_m S v k)) = _
        rw [show s2 i = nI Cc from i5, sg_or]) (nm_r (nI_1 _) (nm_r (nI_1 k) ?_))⟩⟩
      have hx := ih (upd s1 (i * 16 + ct_n (gr_G (pq_m S v) (fw_F af) (pq_w v (2 ^ S))) k) (nI (pq_q S v k)), upd s2 i (nI (Cc ||| pq_m S v k))) ⟨lt_s (fun j hj z => ?_) (fun _ => ?_), fun x hx => ?_, fun j hj => ?_, Cc ||| pq_m S v k, ?_, pk_us, fun c => ?_⟩
      · dsimp only at hx
        rw [e2, gr_O1 hG] at hx
        exact hx
      · have := ct_pos (f := gr_G (pq_m S v) (fw_F af) (pq_w v (2 ^ S))) hj z
        try dsimp only
        rw [pk_un (by omega)]
        exact i1 j hj z
      · try dsimp only
        rw [Nat.mul_comm 16 i]
        exact pk_us
      · try dsimp only
        rw [pk_un (by omega)]
        exact i2 x hx
      · try dsimp only
        rw [pk_un hj]
        exact i3 j hj
      · exact Nat.or_lt_two_pow (n := 16) i4 hml
      · rw [Nat.testBit_or, i6 c]
        show _ = (ex_n _ k || (gr_G (pq_m S v) (fw_F af) (pq_w v (2 ^ S)) k && (pq_m S v k).testBit c))
        rw [hG, Bool.true_and]
theorem xc_fr {S : Nat} {v : Nat → Nat} {i j : Nat} {apt act acu aco apt' act' acu' aco' : Nat → Int32} (A : xc_A S v j apt act acu aco) (hne : j ≠ i) (h1 : apt' j = apt j) (h2 : act' j = act j ∧ aco' j = aco j) (h3 : ∀ x, (x < 16 * i ∨ 16 * i + 16 ≤ x) → acu' x = acu x) : xc_A S v j apt' act' acu' aco' := by
  obtain ⟨a1, n, M, Cc, a2, a3, a4, a5, a6, a7, a8⟩ := A
  refine ⟨by rw [h1]; exact a1, n, M, Cc, a2, a3, by rw [h2.1]; exact a4, fun k hk hin => ?_, a6, by rw [h2.2]; exact a7, a8⟩
  have hlt := ct_pos (f := nu_in (pq_n S v) M) hk hin
  have hn : ct_n (nu_in (pq_n S v) M) (pq_n S v) = n := a2.2.2.1
  rw [h3 _ (by omega)]
  exact a5 k hk hin
theorem xw_synthesise (K : nt_K P S T sg dr pe po im s0) {R : Nat → Bool} (A : xe_A T sg dr pe po R 1024 asn aa ao) {post : SX → Prop}
    (h : ∀ (pc' : Int32) (apt' act' acu' aco' apc' af' : Nat → Int32), (∀ i, i < S → im.testBit i = false → xc_A S (nt_v T sg dr pe po R i) i apt' act' acu' aco') → post (xt P S T sg dr pe po im s0 tb vd us ic rc pc' mc ln lh ls ar asn aa ao apt' act' acu' aco' aq apc' af' ad am)) : wpX_synthesise post (xt P S T sg dr pe po im s0 tb vd us ic rc pc mc ln lh ls ar asn aa ao apt act acu aco aq apc af ad am) := by
  have hS := K.2.1
  refine loop_0 (σ := Int32 × (Nat → Int32) × (Nat → Int32) × (Nat → Int32) × (Nat → Int32) × (Nat → Int32) × (Nat → Int32)) (fun n i s => wX_synthesise_2 post n (nI i) (nI S) (nI (2 ^ P)) (nI (2 ^ S)) (nI (3 ^ S)) (nI T) (nI im) (nI s0) vd us ic rc s.1 mc ln lh ls (cu_ar S) (fun j => nI (sg j)) (fun j => nI (dr j)) (fun j => nI (pe j)) (fun j => nI (po j)) tb ar asn aa ao s.2.1 s.2.2.1 s.2.2.2.1 s.2.2.2.2.1 aq s.2.2.2.2.2.1 s.2.2.2.2.2.2 ad am 65536)
    (fun i s => ∀ j, j < i → im.testBit j = false → xc_A S (nt_v T sg dr pe po R j) j s.2.1 s.2.2.1 s.2.2.2.1 s.2.2.2.2.1) S (pc, apt, act, acu, aco, apc, af) (fun j hj => absurd hj (Nat.not_lt_zero _)) ?_ ?_
  · rintro n ⟨pc', apt', act', acu', aco', apc', af'⟩ hI
    exact br_t (nI_le (Nat.le_refl _) (by omega)) (h pc' apt' act' acu' aco' apc' af' hI)
  · rintro n i ⟨pc', apt', act', acu', aco', apc', af'⟩ hi hI ih
    refine br_f (nI_ge hi (by omega)) (xw_isOutput hS.2 hi (bo_br (fun z => nm_r (nI_1 i) (ih (pc', apt', act', acu', aco', apc', af') (lt_s hI (fun y => ?_)))) (fun z => xw_codesWithNext K A (a := 1) (by omega) (by omega) (xw_codesWithNext K A (a := 0) (by omega) (by omega) (xw_listPrimes K (fun apc2 hP => ⟨vp_in_nI (by omega) (by decide), ?_⟩))))))
    · rw [y] at z
      exact absurd z (by simp)
    · rw [nI_clamp (by omega)]
      refine nm_e (xw_countFewestPrimes K hP (fun af2 hT => xw_chooseCover K hP hT (by omega) pk_us (fun act2 acu2 aco2 c1 c2 c3 => nm_r (nI_1 i) (ih (_, _, act2, acu2, aco2, apc2, af2) (lt_s (fun j hj y => ?_) (fun _ => c1))))))
      exact xc_fr (i := i) (hI j hj y) (by omega) (pk_un (by omega)) (c2 j (by omega)) c3
end
end
section
/-! the reference's circuit against the net -/
section
variable {P S T : Nat} {sg dr pe po : Nat → Nat} {im s0 : Nat} {tb : Nat → Int32}
variable {vd us ic rc pc mc ln lh ls cm cc : Int32} {ar asn aa ao apt act acu aco aq apc af ad am yr ym yn yi yp yv : Nat → Int32}
/-- a gate's value; is output i driven at code c -/
def gt_G (tb aco : Nat → Int32) (i c : Nat) : Bool := bt (if tb i = -1 then aco i else tb i) c
def gt_D (im : Nat) (tb aco : Nat → Int32) (i c : Nat) : Bool := !(im.testBit i) && !(gt_G tb aco i c == c.testBit i)
def gt_T (tb : Nat → Int32) : Prop := ∀ i, i < 4 → tb i = -1 ∨ ∃ n, n < 65536 ∧ tb i = nI n
/-- the reference's values of the gates -/
def gt_V (S im : Nat) (tb aco yv : Nat → Int32) (k : Nat) : Prop := ∀ i, i < k → im.testBit i = false → ∀ c, c < 2 ^ S → yv (16 * i + c) = nI (gt_G tb aco i c).toNat
theorem yw_fillGate (K : nt_K P S T sg dr pe po im s0) {R : Nat → Bool} (hR : rp_A yr R) (hT : gt_T tb) {i : Nat} (hi : i < S) (hx : xc_A S (nt_v T sg dr pe po R i) i apt act acu aco) {post : SY → Prop}
    (h : ∀ (pc' cm' cc' : Int32) (yn' yi' yp' yv' : Nat → Int32), (∀ c, c < 2 ^ S → yv' (16 * i + c) = nI (gt_G tb aco i c).toNat) → (∀ x, (x < 16 * i ∨ 16 * i + 16 ≤ x) → yv' x = yv x) → post (yt P S T sg dr pe po im s0 tb vd pc' cm' cc' yr ym yn' yi' yp' yv')) : wpY_fillGate post (yt P S T sg dr pe po im s0 tb vd pc cm cc yr ym yn yi yp yv) (nI i) := by
  have hS := K.2.1
  have h16 := nt_pS hS.2
  obtain ⟨x1, n0, M0, Cc, x2, x3, x4, x5, x6, x7, x8⟩ := hx
  refine yw_findCover K hR (by omega) (fun n M yn' yi' yp' hB hA => ?_)
  obtain ⟨_, eM⟩ := nu_Bu x2 hB
  subst eM
  refine loop_0 (σ := Nat → Int32) (fun f c a => wY_fillGate_7 post (nI i) (nI P) (nI S) (nI (s0 / 16)) (nI (s0 % 16)) (nI T) vd (nI (pq_n S (nt_v T sg dr pe po R i))) (nI M0) (nI n) f (nI c) (fun j => nI (sg j)) (fun j => nI (dr j)) (fun j => nI (pe j)) (fun j => nI (po j)) (fun j => nI (im.testBit j).toNat) tb yr ym yn' yi' yp' a) (fun c a => (∀ d, d < c → a (16 * i + d) = nI (gt_G tb aco i d).toNat) ∧ ∀ x, (x < 16 * i ∨ 16 * i + 16 ≤ x) → a x = yv x) (2 ^ S) yv ⟨fun j hj => absurd hj (Nat.not_lt_zero _), fun _ _ => rfl⟩ ?_ ?_
  · rintro f a ⟨i1, i2⟩
    exact br_t (by rw [sg_s1 (by omega)]; exact nI_le (Nat.le_refl _) (by omega)) (h _ _ _ _ _ _ a i1 i2)
  · rintro f c a hc ⟨i1, i2⟩ ih
    have hput : ∀ y : Int32, y = nI (gt_G tb aco i c).toNat → wY_fillGate_7 post (nI i) (nI P) (nI S) (nI (s0 / 16)) (nI (s0 % 16)) (nI T) vd (nI (pq_n S (nt_v T sg dr pe po R i))) (nI M0) (nI n) f (nI (c + 1)) (fun j => nI (sg j)) (fun j => nI (dr j)) (fun j => nI (pe j)) (fun j => nI (po j)) (fun j => nI (im.testBit j).toNat) tb yr ym yn' yi' yp' (upd a (16 * i + c) y) := by
      intro y hy
      refine ih _ ⟨fun d hd => ?_, fun x hx => ?_⟩
      · by_cases e : d = c
        · subst e; rw [pk_us]; exact hy
        · rw [pk_un (by omega)]; exact i1 d (by omega)
      · rw [pk_un (by omega)]; exact i2 x hx
    have hv : vp_in (nI i) 4 := vp_in_nI (by omega) (by decide)
    have hv2 : vp_in (nI (16 * i + c)) 64 := vp_in_nI (by omega) (by decide)
    refine br_f (by rw [sg_s1 (by omega)]; exact nI_ge hc (by omega)) ⟨hv, ?_⟩
    rw [nI_clamp (n := i) (by omega), iv_16', nI_clamp (n := 16 * i + c) (by omega)]
    rcases hT i (by omega) with e | ⟨m, hm, e⟩
    · have eG : gt_G tb aco i c = pq_sc S (nt_v T sg dr pe po R i) (nu_in (pq_n S (nt_v T sg dr pe po R i)) M0) c := by
        unfold gt_G
        rw [if_pos e, x7, sg_bt _ (by omega), x8 c, decide_eq_true hc, Bool.true_and]
      refine br_t (by rw [e]; decide) (yw_setCovers K hA (bo_br (fun z => ⟨hv2, nm_e (nm_r (nI_1 c) (hput _ ?_))⟩) (fun z => ⟨hv2, nm_e (nm_r (nI_1 c) (hput _ ?_))⟩)))
      · rw [eG, z]; rfl
      · rw [eG, z]; rfl
    · have hne : ¬ tb i = -1 := by
        intro z
        rw [e] at z
        have h3 := congrArg Int32.toInt z
        rw [nI_toInt (by omega)] at h3
        have h4 : (-1 : Int32).toInt = -1 := by decide
        omega
      refine br_f (by rw [e]; exact nI_pos (by omega)) ⟨hv, hv2, nm_e (nm_r (nI_1 c) (hput _ ?_))⟩
      unfold gt_G
      rw [if_neg hne, sg_bit (tb i) (by omega)]
theorem yw_driven (K : nt_K P S T sg dr pe po im s0) (hV : gt_V S im tb aco yv S) {i c : Nat} (hi : i < S) (hc : c < 2 ^ S) {post : Int32 → Prop} (h : post (nI (gt_D im tb aco i c).toNat)) : wpY_driven post (yt P S T sg dr pe po im s0 tb vd pc cm cc yr ym yn yi yp yv) (nI i) (nI c) := by
  have hS := K.2.1
  have h16 := nt_pS hS.2
  unfold wpY_driven yt
  try dsimp only
  rw [nI_clamp (n := i) (by omega), iv_16', nI_clamp (n := 16 * i + c) (by omega), sg_bitN c (by omega)]
  unfold gt_D at h
  refine ⟨vp_in_nI (by omega) (by decide), bo_br (fun z => ⟨vp_in_nI (by omega) (by decide), ?_⟩) (fun z => ?_)⟩
  · rw [hV i hi z c hc]
    refine bo_if0 (b := !(gt_G tb aco i c == c.testBit i)) ?_ ?_
    · rw [sg_te, Bool.not_eq_false', beq_iff_eq]
    · rw [z, Bool.not_false, Bool.true_and] at h
      exact h
  · rw [z] at h
    exact h
theorem yw_isStep (K : nt_K P S T sg dr pe po im s0) (hV : gt_V S im tb aco yv S) {t s : Nat} (ht : t < T) (hs : s < 1024) (hc : s % 16 < 2 ^ S) {post : Int32 → Prop} (h : post (nI (me_ok im.testBit (gt_D im tb aco) sg pe t s).toNat)) : wpY_isStep post (yt P S T sg dr pe po im s0 tb vd pc cm cc yr ym yn yi yp yv) (nI t) (nI (s / 16)) (nI (s % 16)) := by
  have hS := K.2.1
  have hT := K.2.2.1
  have hB := K.2.2.2.1 t
  unfold me_ok at h
  have hv : vp_in (nI t) 12 := vp_in_nI (by omega) (by decide)
  unfold wpY_isStep yt
  dsimp only
  refine yw_enabled K ht (by omega) (bo_br (fun z => ?_) (fun z => ⟨hv, ?_⟩))
  · rw [z] at h
    exact h
  · rw [z, Bool.true_and] at h
    try dsimp only
    rw [nI_clamp (n := t) (by omega), nI_clamp (n := sg t) (by omega)]
    refine ⟨vp_in_nI (by omega) (by decide), bo_br (fun z2 => ⟨hv, yw_driven K hV hB.1 hc ?_⟩) (fun z2 => ?_)⟩
    · rw [z2, Bool.false_or] at h
      refine bo_br (fun z3 => ?_) (fun z3 => ?_)
      · rw [z3] at h; exact h
      · rw [z3] at h; exact h
    · rw [z2] at h
      exact h
theorem me_c {inp : Nat → Bool} {dv : Nat → Nat → Bool} (K : nt_K P S T sg dr pe po im s0) {s : Nat} (h : rc_R (me_st T inp dv sg dr pe po) s0 s) : s % 16 < 2 ^ S := by
  refine h (fun x => x % 16 < 2 ^ S) K.2.2.2.2.2.2 ?_
  rintro a b ha ⟨t, _, _, e⟩
  rw [e]
  exact nt_fr_c K.2.1.2 K.2.2.2.1 t ha
theorem yw_sweepMet (K : nt_K P S T sg dr pe po im s0) (hV : gt_V S im tb aco yv S) {R0 : Nat → Bool} (hR : rp_A ym R0) (h1 : R0 s0 = true) (h2 : ∀ s, s < 1024 → R0 s = true → rc_R (me_st T im.testBit (gt_D im tb aco) sg dr pe po) s0 s) {post : Int32 → SY → Prop}
    (h : ∀ (g : Bool) (R : Nat → Bool) (ym' : Nat → Int32), rp_A ym' R → sw_I (me_st T im.testBit (gt_D im tb aco) sg dr pe po) s0 R0 R g (me_st T im.testBit (gt_D im tb aco) sg dr pe po) → post (nI g.toNat) (yt P S T sg dr pe po im s0 tb vd pc cm cc yr ym' yn yi yp yv)) : wpY_sweepMet post (yt P S T sg dr pe po im s0 tb vd pc cm cc yr ym yn yi yp yv) := by
  have hT := K.2.2.1
  refine loop_0 (σ := Bool × (Nat → Bool) × (Nat → Int32)) (fun n i s => wY_sweepMet_4 post (nI P) (nI S) (nI (s0 / 16)) (nI (s0 % 16)) (nI T) vd pc cm cc n (nI s.1.toNat) (nI i) (fun j => nI (sg j)) (fun j => nI (dr j)) (fun j => nI (pe j)) (fun j => nI (po j)) (fun j => nI (im.testBit j).toNat) tb yr s.2.2 yn yi yp yv)
    (fun i s => rp_A s.2.2 s.2.1 ∧ sw_I (me_st T im.testBit (gt_D im tb aco) sg dr pe po) s0 R0 s.2.1 s.1 (sw_D (me_st T im.testBit (gt_D im tb aco) sg dr pe po) (me_ok im.testBit (gt_D im tb aco) sg pe) (nt_fr sg dr pe po) i 0)) 1024 (false, R0, ym) ⟨hR, sw_skip (sw_0 h1 h2) ?_⟩ ?_ ?_
  · rintro x y _ _ (⟨z, _⟩ | ⟨_, k, hk, _⟩)
    · exact absurd z (Nat.not_lt_zero _)
    · exact absurd hk (Nat.not_lt_zero _)
  · rintro n ⟨g, R, ym'⟩ ⟨hA, hI⟩
    exact br_t (nI_le (Nat.le_refl 1024) (by decide)) ⟨bo_nar g, h g R ym' hA (sw_skip hI (fun x y hx _ z => Or.inl ⟨hx, z⟩))⟩
  · rintro n i ⟨g, R, ym'⟩ hi ⟨hA, hI⟩ ih
    refine br_f (nI_ge hi (by decide)) ?_
    refine loop_0 (σ := Bool × (Nat → Bool) × (Nat → Int32)) (fun n' t s => wY_sweepMet_13 post (wY_sweepMet_4 post (nI P) (nI S) (nI (s0 / 16)) (nI (s0 % 16)) (nI T) vd pc cm cc n) (nI i) (nI P) (nI S) (nI (s0 / 16)) (nI (s0 % 16)) (nI T) vd pc cm cc n' (nI s.1.toNat) (nI t) (fun j => nI (sg j)) (fun j => nI (dr j)) (fun j => nI (pe j)) (fun j => nI (po j)) (fun j => nI (im.testBit j).toNat) tb yr s.2.2 yn yi yp yv)
      (fun t s => rp_A s.2.2 s.2.1 ∧ sw_I (me_st T im.testBit (gt_D im tb aco) sg dr pe po) s0 R0 s.2.1 s.1 (sw_D (me_st T im.testBit (gt_D im tb aco) sg dr pe po) (me_ok im.testBit (gt_D im tb aco) sg pe) (nt_fr sg dr pe po) i t)) T (g, R, ym') ⟨hA, hI⟩ ?_ ?_
    · rintro n' ⟨g, R, ym'⟩ ⟨hA, hI⟩
      refine br_t (nI_le (Nat.le_refl _) (by omega)) (nm_r (nI_1 i) (ih (g, R, ym') ⟨hA, sw_skip hI ?_⟩))
      rintro x y _ _ (⟨z, y1⟩ | ⟨_, k, hk, _⟩)
      · by_cases e : x = i
        · subst e
          obtain ⟨k, a, b, c⟩ := y1
          exact Or.inr ⟨rfl, k, a, b, c⟩
        · exact Or.inl ⟨by omega, y1⟩
      · exact absurd hk (Nat.not_lt_zero _)
    · rintro n' t ⟨g, R, ym'⟩ ht ⟨hA, hI⟩ ih'
      have hA' : rp_A ym' R := hA
      have hno : (R i = false ∨ me_ok im.testBit (gt_D im tb aco) sg pe t i = false) → wY_sweepMet_13 post (wY_sweepMet_4 post (nI P) (nI S) (nI (s0 / 16)) (nI (s0 % 16)) (nI T) vd pc cm cc n) (nI i) (nI P) (nI S) (nI (s0 / 16)) (nI (s0 % 16)) (nI T) vd pc cm cc n' (nI g.toNat) (nI (t + 1)) (fun j => nI (sg j)) (fun j => nI (dr j)) (fun j => nI (pe j)) (fun j => nI (po j)) (fun j => nI (im.testBit j).toNat) tb yr ym' yn yi yp yv := fun z => ih' (g, R, ym') ⟨hA, sw_skip hI (sw_Dno z)⟩
      refine br_f (nI_ge ht (by omega)) ⟨vp_in_nI hi (by decide), ?_⟩
      try dsimp only
      rw [nI_clamp (by omega), hA' i hi, iv_rem hi, iv_div hi]
      refine bo_br (fun z1 => nm_r (nI_1 t) (hno (Or.inl z1))) (fun z1 => ⟨by decide, by decide, yw_isStep K hV ht hi (me_c K (hI.2.1 i hi z1)) (bo_br (fun z2 => nm_r (nI_1 t) (hno (Or.inr z2))) (fun z2 => ⟨by decide, by decide, yw_cellAfterS K ht ?_⟩))⟩)
      have hb : nt_fr sg dr pe po t i < 1024 := nt_fr_lt K.2.1.2 K.2.2.2.1 t hi
      have hst : me_st T im.testBit (gt_D im tb aco) sg dr pe po i (nt_fr sg dr pe po t i) := ⟨t, ht, z2, rfl⟩
      have hstep : sw_I (me_st T im.testBit (gt_D im tb aco) sg dr pe po) s0 R0 (ct_u R (nt_fr sg dr pe po t i)) (g || !(R (nt_fr sg dr pe po t i))) (sw_D (me_st T im.testBit (gt_D im tb aco) sg dr pe po) (me_ok im.testBit (gt_D im tb aco) sg pe) (nt_fr sg dr pe po) i (t + 1)) := sw_step hI hi z1 hst hb sw_Dyes
      have hrep := rp_u hA' (nt_fr sg dr pe po t i)
      refine ⟨vp_in_nI hb (by decide), ?_⟩
      rw [nI_clamp (n := nt_fr sg dr pe po t i) (by omega), hA' _ hb]
      refine bo_br (fun z5 => ⟨vp_in_nI hb (by decide), nm_e (nm_r (nI_1 t) ?_)⟩) (fun z5 => ⟨vp_in_nI hb (by decide), nm_e (nm_r (nI_1 t) ?_)⟩)
      · rw [z5, Bool.not_false, Bool.or_true] at hstep
        exact ih' (true, _, _) ⟨hrep, hstep⟩
      · rw [z5, Bool.not_true, Bool.or_false] at hstep
        exact ih' (g, _, _) ⟨hrep, hstep⟩
theorem yw_findMet (K : nt_K P S T sg dr pe po im s0) {R : Nat → Bool} (hR : rp_A yr R) (hT : gt_T tb) (hx : ∀ i, i < S → im.testBit i = false → xc_A S (nt_v T sg dr pe po R i) i apt act acu aco) {post : SY → Prop}
    (h : ∀ (pc' cm' cc' : Int32) (yn' yi' yp' yv' ym' : Nat → Int32) (R2 : Nat → Bool), gt_V S im tb aco yv' S → rp_A ym' R2 → rc_is (me_st T im.testBit (gt_D im tb aco) sg dr pe po) s0 R2 → post (yt P S T sg dr pe po im s0 tb vd pc' cm' cc' yr ym' yn' yi' yp' yv')) : wpY_findMet post (yt P S T sg dr pe po im s0 tb vd pc cm cc yr ym yn yi yp yv) := by
  have hS := K.2.1
  have h16 := nt_pS hS.2
  have hs0 := K.2.2.2.2.2.1
  have hb := me_st_lt (T := T) (inp := im.testBit) (dv := gt_D im tb aco) K.2.1.2 K.2.2.2.1
  refine loop_0 (σ := Int32 × Int32 × Int32 × (Nat → Int32) × (Nat → Int32) × (Nat → Int32) × (Nat → Int32)) (fun n i s => wY_findMet_2 post n (nI i) (nI P) (nI S) (nI (s0 / 16)) (nI (s0 % 16)) (nI T) vd s.1 s.2.1 s.2.2.1 (fun j => nI (sg j)) (fun j => nI (dr j)) (fun j => nI (pe j)) (fun j => nI (po j)) (fun j => nI (im.testBit j).toNat) tb yr ym s.2.2.2.1 s.2.2.2.2.1 s.2.2.2.2.2.1 s.2.2.2.2.2.2)
    (fun i s => gt_V S im tb aco s.2.2.2.2.2.2 i) S (pc, cm, cc, yn, yi, yp, yv) (fun j hj => absurd hj (Nat.not_lt_zero _)) ?_ ?_
  · rintro n ⟨pc', cm', cc', yn', yi', yp', yv'⟩ hI
    have hV : gt_V S im tb aco yv' S := hI
    refine br_t (nI_le (Nat.le_refl _) (by omega)) ?_
    refine loop_0 (σ := Nat → Int32) (fun n i q => wY_findMet_32 post (nI P) (nI S) (nI (s0 / 16)) (nI (s0 % 16)) (nI T) vd pc' cm' cc' n (nI i) (fun j => nI (sg j)) (fun j => nI (dr j)) (fun j => nI (pe j)) (fun j => nI (po j)) (fun j => nI (im.testBit j).toNat) tb yr q yn' yi' yp' yv') (fun i q => ∀ k, k < i → q k = 0) 1024 ym (fun k hk => absurd hk (Nat.not_lt_zero _)) ?_ ?_
    · intro n q hq
      refine br_t (nI_le (Nat.le_refl 1024) (by decide)) ?_
      rw [yw_s0, nI_clamp (by omega)]
      refine ⟨vp_in_nI hs0 (by decide), nm_e ?_⟩
      have hrep : rp_A (upd q s0 (vp_nar .boolean 1)) (ct_u (fun _ => false) s0) := rp_u (fun s hs => hq s hs) s0
      refine loop_0 (σ := Bool × (Nat → Bool) × (Nat → Int32)) (fun n k s => wY_findMet_74 post n (nI s.1.toNat) (nI k) (nI P) (nI S) (nI (s0 / 16)) (nI (s0 % 16)) (nI T) vd pc' cm' cc' (fun j => nI (sg j)) (fun j => nI (dr j)) (fun j => nI (pe j)) (fun j => nI (po j)) (fun j => nI (im.testBit j).toNat) tb yr s.2.2 yn' yi' yp' yv') (fun k s => rp_A s.2.2 s.2.1 ∧ sv_I (me_st T im.testBit (gt_D im tb aco) sg dr pe po) s0 s.2.1 s.1 k) 1024 (true, ct_u (fun _ => false) s0, _) ⟨hrep, sv_0 _ hs0⟩ ?_ ?_
      · rintro n ⟨g, R2, ym'⟩ ⟨hA, hv⟩
        exact br_t (nI_le (Nat.le_refl 1024) (by decide)) (h _ _ _ _ _ _ _ ym' R2 hV hA (sv_end hv (Or.inr (Nat.le_refl _)) hb hs0))
      · rintro n k ⟨g, R2, ym'⟩ hk ⟨hA, hv⟩ ih
        refine br_f (nI_ge hk (by decide)) ?_
        cases g
        · exact br_t rfl (h _ _ _ _ _ _ _ ym' R2 hV hA (sv_end hv (Or.inl rfl) hb hs0))
        · refine br_f (show ¬ nI true.toNat = 0 from by decide) (yw_sweepMet K hV hA hv.1 hv.2.1 (fun g3 R3 ym3 hA3 hI3 => ?_))
          exact nm_r (nI_1 k) (ih (g3, R3, ym3) ⟨hA3, sv_step hv hI3⟩)
    · intro n i q hi hq ih
      refine br_f (nI_ge hi (by decide)) ⟨vp_in_nI hi (by decide), ?_⟩
      rw [nI_clamp (by omega)]
      exact nm_e (nm_r (nI_1 i) (ih _ (yw_clear q i hq)))
  · rintro n i ⟨pc', cm', cc', yn', yi', yp', yv'⟩ hi hI ih
    refine br_f (nI_ge hi (by omega)) ⟨vp_in_nI (by omega) (by decide), ?_⟩
    try dsimp only
    rw [nI_clamp (by omega)]
    refine bo_br (fun z => yw_fillGate K hR hT hi (hx i hi z) (fun pc2 cm2 cc2 yn2 yi2 yp2 yv2 f1 f2 => nm_r (nI_1 i) (ih (pc2, cm2, cc2, yn2, yi2, yp2, yv2) (lt_s (fun j hj y c hc => ?_) (fun _ => f1))))) (fun z => nm_r (nI_1 i) (ih (pc', cm', cc', yn', yi', yp', yv') (lt_s hI (fun y => ?_))))
    · show yv2 (16 * j + c) = _
      rw [f2 _ (by omega)]
      exact hI j hj y c hc
    · rw [z] at y
      exact absurd y (by simp)
theorem yw_hasEnabled (K : nt_K P S T sg dr pe po im s0) {i m : Nat} (hi : i < 4) (hm : m < 64) {post : Int32 → Prop} (h : post (nI (nt_he T sg pe i m).toNat)) : wpY_hasEnabled post (yt P S T sg dr pe po im s0 tb vd pc cm cc yr ym yn yi yp yv) (nI i) (nI m) := by
  have hT := K.2.2.1
  refine loop_0 (σ := Unit) (fun n t _ => wY_hasEnabled_2 post (nI i) (nI m) (nI P) (nI S) (nI (s0 / 16)) (nI (s0 % 16)) (nI T) vd pc cm cc (fun j => nI (sg j)) (fun j => nI (dr j)) (fun j => nI (pe j)) (fun j => nI (po j)) (fun j => nI (im.testBit j).toNat) tb yr ym yn yi yp yv n (nI t)) (fun t _ => ∀ j, j < t → ((sg j == i) && nt_en pe j m) = false) T () (fun j hj => absurd hj (Nat.not_lt_zero _)) ?_ ?_
  · intro n _ hI
    have e : nt_he T sg pe i m = false := ex_not.mpr hI
    rw [e] at h
    exact br_t (nI_le (Nat.le_refl _) (by omega)) h
  · intro n t _ ht hI ih
    have hB := iv_bS K.2.1.2 K.2.2.2.1 t
    refine br_f (nI_ge ht (by omega)) ⟨vp_in_nI (by omega) (by decide), ?_⟩
    try dsimp only
    rw [nI_clamp (by omega)]
    by_cases hs : sg t = i
    · refine br_t (by rw [hs]) (yw_enabled K ht hm (bo_br (fun z => nm_r (nI_1 t) (ih () (lt_s hI (by rw [z, Bool.and_false])))) (fun z => ?_)))
      have e : nt_he T sg pe i m = true := ex_iff.mpr ⟨t, ht, by rw [z, hs, beq_self_eq_true]; rfl⟩
      rw [e] at h
      exact h
    · exact br_f (fun z => hs ((nI_eq (by omega) (by omega)).mp z)) (nm_r (nI_1 t) (ih () (lt_s hI (by rw [beq_eq_false_iff_ne.mpr hs]; rfl))))
theorem yw_nonconforming (K : nt_K P S T sg dr pe po im s0) (hV : gt_V S im tb aco yv S) {s : Nat} (hs : s < 1024) (hc : s % 16 < 2 ^ S) {post : Int32 → Prop} (h : post (nI (sh_n S T (gt_D im tb aco) sg pe s).toNat)) : wpY_nonconforming post (yt P S T sg dr pe po im s0 tb vd pc cm cc yr ym yn yi yp yv) (nI (s / 16)) (nI (s % 16)) := by
  have hS := K.2.1
  refine loop_0 (σ := Unit) (fun n i _ => wY_nonconforming_2 post (nI (s / 16)) (nI (s % 16)) (nI P) (nI S) (nI (s0 / 16)) (nI (s0 % 16)) (nI T) vd pc cm cc (fun j => nI (sg j)) (fun j => nI (dr j)) (fun j => nI (pe j)) (fun j => nI (po j)) (fun j => nI (im.testBit j).toNat) tb yr ym yn yi yp yv n (nI i)) (fun i _ => ∀ j, j < i → (gt_D im tb aco j (s % 16) && !(nt_he T sg pe j (s / 16))) = false) S () (fun j hj => absurd hj (Nat.not_lt_zero _)) ?_ ?_
  · intro n _ hI
    have e : sh_n S T (gt_D im tb aco) sg pe s = false := ex_not.mpr hI
    rw [e] at h
    exact br_t (nI_le (Nat.le_refl _) (by omega)) h
  · intro n i _ hi hI ih
    refine br_f (nI_ge hi (by omega)) (yw_driven K hV hi hc (bo_br (fun z => nm_r (nI_1 i) (ih () (lt_s hI (by rw [z]; rfl)))) (fun z => yw_hasEnabled K (by omega) (by omega) (bo_br (fun z2 => ?_) (fun z2 => nm_r (nI_1 i) (ih () (lt_s hI (by rw [z2]; simp))))))))
    have e : sh_n S T (gt_D im tb aco) sg pe s = true := ex_iff.mpr ⟨i, hi, by rw [z, z2]; rfl⟩
    rw [e] at h
    exact h
theorem yw_hazard (K : nt_K P S T sg dr pe po im s0) (hV : gt_V S im tb aco yv S) {s : Nat} (hs : s < 1024) (hc : s % 16 < 2 ^ S) {post : Int32 → Prop} (h : post (nI (sh_h S T im.testBit (gt_D im tb aco) sg dr pe po s).toNat)) : wpY_hazard post (yt P S T sg dr pe po im s0 tb vd pc cm cc yr ym yn yi yp yv) (nI (s / 16)) (nI (s % 16)) := by
  have hS := K.2.1
  have hT := K.2.2.1
  refine loop_0 (σ := Unit) (fun n i _ => wY_hazard_2 post (nI (s / 16)) (nI (s % 16)) (nI P) (nI S) (nI (s0 / 16)) (nI (s0 % 16)) (nI T) vd pc cm cc (fun j => nI (sg j)) (fun j => nI (dr j)) (fun j => nI (pe j)) (fun j => nI (po j)) (fun j => nI (im.testBit j).toNat) tb yr ym yn yi yp yv n (nI i)) (fun i _ => ∀ j, j < i → ex_n (fun t => gt_D im tb aco j (s % 16) && (!(sg t == j) && (me_ok im.testBit (gt_D im tb aco) sg pe t s && !(gt_D im tb aco j (nt_fr sg dr pe po t s % 16))))) T = false) S () (fun j hj => absurd hj (Nat.not_lt_zero _)) ?_ ?_
  · intro n _ hI
    have e : sh_h S T im.testBit (gt_D im tb aco) sg dr pe po s = false := ex_not.mpr hI
    rw [e] at h
    exact br_t (nI_le (Nat.le_refl _) (by omega)) h
  · intro n i _ hi hI ih
    refine br_f (nI_ge hi (by omega)) ?_
    refine loop_0 (σ := Unit) (fun n' t _ => wY_hazard_13 post (wY_hazard_2 post (nI (s / 16)) (nI (s % 16)) (nI P) (nI S) (nI (s0 / 16)) (nI (s0 % 16)) (nI T) vd pc cm cc (fun j => nI (sg j)) (fun j => nI (dr j)) (fun j => nI (pe j)) (fun j => nI (po j)) (fun j => nI (im.testBit j).toNat) tb yr ym yn yi yp yv n) (nI (s / 16)) (nI (s % 16)) (nI i) (nI P) (nI S) (nI (s0 / 16)) (nI (s0 % 16)) (nI T) vd pc cm cc (fun j => nI (sg j)) (fun j => nI (dr j)) (fun j => nI (pe j)) (fun j => nI (po j)) (fun j => nI (im.testBit j).toNat) tb yr ym yn yi yp yv n' (nI t)) (fun t _ => ∀ k, k < t → (gt_D im tb aco i (s % 16) && (!(sg k == i) && (me_ok im.testBit (gt_D im tb aco) sg pe k s && !(gt_D im tb aco i (nt_fr sg dr pe po k s % 16))))) = false) T () (fun j hj => absurd hj (Nat.not_lt_zero _)) ?_ ?_
    · intro n' _ hI'
      exact br_t (nI_le (Nat.le_refl _) (by omega)) (nm_r (nI_1 i) (ih () (lt_s hI (ex_not.mpr hI'))))
    · intro n' t _ ht hI' ih'
      have hB := iv_bS K.2.1.2 K.2.2.2.1 t
      have hfr : nt_fr sg dr pe po t s < 1024 := nt_fr_lt K.2.1.2 K.2.2.2.1 t hs
      have hfc : nt_fr sg dr pe po t s % 16 < 2 ^ S := nt_fr_c K.2.1.2 K.2.2.2.1 t hc
      refine br_f (nI_ge ht (by omega)) (yw_driven K hV hi hc (bo_br (fun z => nm_r (nI_1 t) (ih' () (lt_s hI' (by rw [z]; rfl)))) (fun z => ⟨vp_in_nI (by omega) (by decide), ?_⟩)))
      try dsimp only
      rw [nI_clamp (by omega)]
      by_cases hsi : sg t = i
      · exact br_t (by rw [hsi]) (nm_r (nI_1 t) (ih' () (lt_s hI' (by rw [hsi, beq_self_eq_true]; simp))))
      · refine br_f (fun y => hsi ((nI_eq (by omega) (by omega)).mp y)) (yw_isStep K hV ht hs hc (bo_br (fun z2 => nm_r (nI_1 t) (ih' () (lt_s hI' (by rw [z2]; simp)))) (fun z2 => yw_cellAfterS K ht ⟨by decide, nm_r (iv_rem hfr) (yw_driven K hV hi hfc (bo_br (fun z3 => ?_) (fun z3 => nm_r (nI_1 t) (ih' () (lt_s hI' (by rw [z3]; simp))))))⟩)))
        have e : sh_h S T im.testBit (gt_D im tb aco) sg dr pe po s = true := ex_iff.mpr ⟨i, hi, ex_iff.mpr ⟨t, ht, by rw [z, z2, z3, beq_eq_false_iff_ne.mpr hsi]; rfl⟩⟩
        rw [e] at h
        exact h
theorem yw_stall (K : nt_K P S T sg dr pe po im s0) (hV : gt_V S im tb aco yv S) {s : Nat} (hs : s < 1024) (hc : s % 16 < 2 ^ S) {post : Int32 → Prop} (h : post (nI (sh_s S T im.testBit (gt_D im tb aco) sg pe s).toNat)) : wpY_stall post (yt P S T sg dr pe po im s0 tb vd pc cm cc yr ym yn yi yp yv) (nI (s / 16)) (nI (s % 16)) := by
  have hS := K.2.1
  refine loop_0 (σ := Unit) (fun n i _ => wY_stall_5 post (nI (s / 16)) (nI (s % 16)) (nI P) (nI S) (nI (s0 / 16)) (nI (s0 % 16)) (nI T) vd pc cm cc (fun j => nI (sg j)) (fun j => nI (dr j)) (fun j => nI (pe j)) (fun j => nI (po j)) (fun j => nI (im.testBit j).toNat) tb yr ym yn yi yp yv n (nI (ex_n (fun i => nt_he T sg pe i (s / 16)) i).toNat) (nI i)) (fun i _ => ∀ j, j < i → (gt_D im tb aco j (s % 16) || (nt_he T sg pe j (s / 16) && im.testBit j)) = false) S () (fun j hj => absurd hj (Nat.not_lt_zero _)) ?_ ?_
  · intro n _ hI
    unfold sh_s at h
    rw [ex_not.mpr hI, Bool.not_false, Bool.true_and] at h
    exact br_t (nI_le (Nat.le_refl _) (by omega)) ⟨bo_nar _, h⟩
  · intro n i _ hi hI ih
    have hbad : (gt_D im tb aco i (s % 16) || (nt_he T sg pe i (s / 16) && im.testBit i)) = true → post 0 := by
      intro z
      unfold sh_s at h
      have e : ex_n (fun i => gt_D im tb aco i (s % 16) || (nt_he T sg pe i (s / 16) && im.testBit i)) S = true := ex_iff.mpr ⟨i, hi, z⟩
      rw [e] at h
      exact h
    refine br_f (nI_ge hi (by omega)) (yw_driven K hV hi hc (bo_br (fun z => yw_hasEnabled K (by omega) (by omega) (bo_br (fun z2 => ?_) (fun z2 => ⟨vp_in_nI (by omega) (by decide), ?_⟩))) (fun z => hbad (by rw [z]; rfl))))
    · have hx := ih () (lt_s hI (by rw [z, z2]; rfl))
      have e : ex_n (fun i => nt_he T sg pe i (s / 16)) (i + 1) = ex_n (fun i => nt_he T sg pe i (s / 16)) i := by show (_ || nt_he T sg pe i (s / 16)) = _; rw [z2, Bool.or_false]
      try dsimp only at hx
      rw [e] at hx
      exact br_t (by rw [z2]; rfl) (nm_r (nI_1 i) hx)
    · rw [nI_clamp (by omega)]
      refine bo_br (fun z3 => ?_) (fun z3 => hbad (by rw [z2, z3]; simp))
      have hx := ih () (lt_s hI (by rw [z, z2, z3]; rfl))
      have e : ex_n (fun i => nt_he T sg pe i (s / 16)) (i + 1) = true := by show (_ || nt_he T sg pe i (s / 16)) = _; rw [z2, Bool.or_true]
      try dsimp only at hx
      rw [e] at hx
      exact br_f (by rw [z2]; decide) (nm_r (nI_1 i) hx)
/-- what a state shows, by the kind -/
def sh_k (S T : Nat) (inp : Nat → Bool) (dv : Nat → Nat → Bool) (sg dr pe po : Nat → Nat) (x : Int32) (s : Nat) : Bool :=
  if x = 5 then sh_n S T dv sg pe s else if x = 6 then sh_h S T inp dv sg dr pe po s else if x = 7 then sh_s S T inp dv sg pe s else false
theorem yw_shows (K : nt_K P S T sg dr pe po im s0) (hV : gt_V S im tb aco yv S) {s : Nat} (hs : s < 1024) (hc : s % 16 < 2 ^ S) {x : Int32} {post : Int32 → Prop} (h : post (nI (sh_k S T im.testBit (gt_D im tb aco) sg dr pe po x s).toNat)) : wpY_shows post (yt P S T sg dr pe po im s0 tb vd pc cm cc yr ym yn yi yp yv) x (nI (s / 16)) (nI (s % 16)) := by
  unfold sh_k at h
  by_cases h5 : x = 5
  · rw [if_pos h5] at h
    exact br_t h5 (yw_nonconforming K hV hs hc ⟨bo_nar _, h⟩)
  · rw [if_neg h5] at h
    refine br_f h5 ?_
    by_cases h6 : x = 6
    · rw [if_pos h6] at h
      exact br_t h6 (yw_hazard K hV hs hc ⟨bo_nar _, h⟩)
    · rw [if_neg h6] at h
      refine br_f h6 ?_
      by_cases h7 : x = 7
      · rw [if_pos h7] at h
        refine br_t h7 (yw_stall K hV hs hc (bo_br (fun z => ?_) (fun z => ?_)))
        · rw [z] at h; exact h
        · rw [z] at h; exact h
      · rw [if_neg h7] at h
        exact br_f h7 h
theorem yw_firstThatShows (K : nt_K P S T sg dr pe po im s0) (hV : gt_V S im tb aco yv S) {R2 : Nat → Bool} (hA : rp_A ym R2) (hR : rc_is (me_st T im.testBit (gt_D im tb aco) sg dr pe po) s0 R2) {x : Int32} {post : Int32 → Prop}
    (h : ∀ r, ls_n (fun s => R2 s && sh_k S T im.testBit (gt_D im tb aco) sg dr pe po x s) 1024 r → post r) : wpY_firstThatShows post (yt P S T sg dr pe po im s0 tb vd pc cm cc yr ym yn yi yp yv) x := by
  refine loop_0 (σ := Unit) (fun n s _ => wY_firstThatShows_2 post x (nI P) (nI S) (nI (s0 / 16)) (nI (s0 % 16)) (nI T) vd pc cm cc (fun j => nI (sg j)) (fun j => nI (dr j)) (fun j => nI (pe j)) (fun j => nI (po j)) (fun j => nI (im.testBit j).toNat) tb yr ym yn yi yp yv n (nI s)) (fun s _ => ∀ j, j < s → (R2 j && sh_k S T im.testBit (gt_D im tb aco) sg dr pe po x j) = false) 1024 () (fun j hj => absurd hj (Nat.not_lt_zero _)) ?_ ?_
  · intro n _ hI
    exact br_t (nI_le (Nat.le_refl 1024) (by decide)) (h _ (Or.inl ⟨rfl, hI⟩))
  · intro n s _ hs hI ih
    refine br_f (nI_ge hs (by decide)) ⟨vp_in_nI hs (by decide), ?_⟩
    rw [nI_clamp (by omega), hA s hs, iv_rem hs, iv_div hs]
    refine bo_br (fun z => nm_r (nI_1 s) (ih () (lt_s hI (by rw [z]; rfl)))) (fun z => ⟨by decide, by decide, yw_shows K hV hs (me_c K ((hR s hs).mp z)) (bo_br (fun z2 => nm_r (nI_1 s) (ih () (lt_s hI (by rw [z2, Bool.and_false])))) (fun z2 => h _ (Or.inr ⟨s, hs, rfl, by show (R2 s && _) = true; rw [z, z2]; rfl, hI⟩)))⟩)
end
end
section
/-! the component's circuit against the net -/
section
variable {P S T : Nat} {sg dr pe po : Nat → Nat} {im s0 : Nat} {tb : Nat → Int32}
variable {vd us ic rc pc mc ln lh ls cm cc : Int32} {ar asn aa ao apt act acu aco aq apc af ad am yr ym yn yi yp yv : Nat → Int32}
theorem xw_gateOf {i c : Nat} (hi : i < 4) (hc : c < 16) {post : Int32 → Prop} (h : post (nI (gt_G tb aco i c).toNat)) : wpX_gateOf post (xt P S T sg dr pe po im s0 tb vd us ic rc pc mc ln lh ls ar asn aa ao apt act acu aco aq apc af ad am) (nI i) (nI c) := by
  have hv : vp_in (nI i) 4 := vp_in_nI hi (by decide)
  unfold wpX_gateOf xt
  dsimp only
  rw [nI_clamp (by omega)]
  unfold gt_G at h
  refine ⟨hv, nm_e ?_⟩
  by_cases e : tb i = -1
  · rw [if_pos e] at h
    refine br_t e ⟨hv, ?_⟩
    show post ((aco i >>> (nI c &&& 31)) &&& 1)
    rw [sg_bit (aco i) (by omega)]
    exact h
  · rw [if_neg e] at h
    refine br_f e ?_
    show post ((tb i >>> (nI c &&& 31)) &&& 1)
    rw [sg_bit (tb i) (by omega)]
    exact h
/-- the driven outputs of a code, as a set -/
def dr_B (S im : Nat) (tb aco ad : Nat → Int32) (c k : Nat) : Prop := ∃ D, D < 16 ∧ ad c = nI D ∧ ∀ i, D.testBit i = (decide (i < k) && gt_D im tb aco i c)
def dr_A (S im : Nat) (tb aco ad : Nat → Int32) : Prop := ∀ c, c < 2 ^ S → dr_B S im tb aco ad c S
def dr_m (ad : Nat → Int32) (c : Nat) : Nat := (ad c).toNatClampNeg
theorem dr_F {S im : Nat} {tb aco ad : Nat → Int32} (A : dr_A S im tb aco ad) {c : Nat} (hc : c < 2 ^ S) : dr_m ad c < 16 ∧ ad c = nI (dr_m ad c) ∧ ∀ i, (dr_m ad c).testBit i = (decide (i < S) && gt_D im tb aco i c) := by
  obtain ⟨D, h1, h2, h3⟩ := A c hc
  have e : dr_m ad c = D := by unfold dr_m; rw [h2]; exact nI_clamp (by omega)
  rw [e]
  exact ⟨h1, h2, h3⟩
theorem xw_noteDriven (K : nt_K P S T sg dr pe po im s0) {post : SX → Prop} (h : ∀ ad', dr_A S im tb aco ad' → post (xt P S T sg dr pe po im s0 tb vd us ic rc pc mc ln lh ls ar asn aa ao apt act acu aco aq apc af ad' am)) : wpX_noteDriven post (xt P S T sg dr pe po im s0 tb vd us ic rc pc mc ln lh ls ar asn aa ao apt act acu aco aq apc af ad am) := by
  have hS := K.2.1
  have h16 := nt_pS hS.2
  refine loop_0 (σ := Nat → Int32) (fun n c a => wX_noteDriven_2 post (nI S) (nI (2 ^ P)) (nI (2 ^ S)) (nI (3 ^ S)) (nI T) (nI im) (nI s0) vd us ic rc pc mc ln lh ls 65536 n (nI c) (cu_ar S) (fun j => nI (sg j)) (fun j => nI (dr j)) (fun j => nI (pe j)) (fun j => nI (po j)) tb ar asn aa ao apt act acu aco aq apc af a am) (fun c a => ∀ d, d < c → dr_B S im tb aco a d S) (2 ^ S) ad (fun j hj => absurd hj (Nat.not_lt_zero _)) ?_ ?_
  · intro n a hI
    exact br_t (nI_le (Nat.le_refl _) (by omega)) (h a hI)
  · intro n c a hc hI ih
    have hv : vp_in (nI c) 16 := vp_in_nI (by omega) (by decide)
    refine br_f (nI_ge hc (by omega)) ⟨hv, ?_⟩
    rw [nI_clamp (by omega)]
    refine nm_e ?_
    refine loop_0 (σ := Nat → Int32) (fun n' i b => wX_noteDriven_19 post (wX_noteDriven_2 post (nI S) (nI (2 ^ P)) (nI (2 ^ S)) (nI (3 ^ S)) (nI T) (nI im) (nI s0) vd us ic rc pc mc ln lh ls 65536 n) (nI c) (nI S) (nI (2 ^ P)) (nI (2 ^ S)) (nI (3 ^ S)) (nI T) (nI im) (nI s0) vd us ic rc pc mc ln lh ls 65536 n' (nI i) (cu_ar S) (fun j => nI (sg j)) (fun j => nI (dr j)) (fun j => nI (pe j)) (fun j => nI (po j)) tb ar asn aa ao apt act acu aco aq apc af b am) (fun i b => (∀ d, d < c → dr_B S im tb aco b d S) ∧ dr_B S im tb aco b c i) S (upd a c 0) ⟨fun d hd => ?_, 0, by decide, pk_us, fun i => ?_⟩ ?_ ?_
    · obtain ⟨D, h1, h2, h3⟩ := hI d hd
      exact ⟨D, h1, by rw [pk_un (by omega)]; exact h2, h3⟩
    · rw [Nat.zero_testBit, decide_eq_false (Nat.not_lt_zero _)]
      rfl
    · rintro n' b ⟨i1, i2⟩
      exact br_t (nI_le (Nat.le_refl _) (by omega)) (nm_r (nI_1 c) (ih b (lt_s i1 i2)))
    · rintro n' i b hi ⟨i1, D, d1, d2, d3⟩ ih'
      have hno : gt_D im tb aco i c = false → wX_noteDriven_19 post (wX_noteDriven_2 post (nI S) (nI (2 ^ P)) (nI (2 ^ S)) (nI (3 ^ S)) (nI T) (nI im) (nI s0) vd us ic rc pc mc ln lh ls 65536 n) (nI c) (nI S) (nI (2 ^ P)) (nI (2 ^ S)) (nI (3 ^ S)) (nI T) (nI im) (nI s0) vd us ic rc pc mc ln lh ls 65536 n' (nI (i + 1)) (cu_ar S) (fun j => nI (sg j)) (fun j => nI (dr j)) (fun j => nI (pe j)) (fun j => nI (po j)) tb ar asn aa ao apt act acu aco aq apc af b am := by
        intro z
        refine ih' b ⟨i1, D, d1, d2, fun j => ?_⟩
        rw [d3 j]
        by_cases e : j = i
        · subst e
          rw [z, Bool.and_false, Bool.and_false]
        · have : decide (j < i + 1) = decide (j < i) := by
            by_cases y : j < i
            · rw [decide_eq_true y, decide_eq_true (by omega)]
            · rw [decide_eq_false y, decide_eq_false (by omega)]
          rw [this]
      refine br_f (nI_ge hi (by omega)) (xw_isOutput hS.2 hi (bo_br (fun z => nm_r (nI_1 i) (hno ?_)) (fun z => xw_gateOf (by omega) (by omega) ?_)))
      · unfold gt_D
        rw [z]; rfl
      · show (nI (gt_G tb aco i c).toNat = ((nI c >>> (nI i &&& 31)) &&& 1) → _) ∧ (¬ nI (gt_G tb aco i c).toNat = ((nI c >>> (nI i &&& 31)) &&& 1) → _)
        rw [sg_bitN c (by omega)]
        by_cases e : gt_G tb aco i c = c.testBit i
        · refine br_t (by rw [e]) (nm_r (nI_1 i) (hno ?_))
          unfold gt_D
          rw [e, beq_self_eq_true]
          simp
        · refine br_f (fun y => e (sg_te.mp y)) ⟨hv, hv, ?_⟩
          rw [nI_clamp (by omega), sg_s1 (by omega), d2, sg_or]
          refine nm_e (nm_r (nI_1 i) (ih' _ ⟨fun d hd => ?_, D ||| 2 ^ i, ?_, pk_us, fun j => ?_⟩))
          · obtain ⟨E, h1, h2, h3⟩ := i1 d hd
            exact ⟨E, h1, by rw [pk_un (by omega)]; exact h2, h3⟩
          · exact Nat.or_lt_two_pow (n := 4) d1 (Nat.pow_lt_pow_right (by decide) (by omega))
          · rw [Nat.testBit_or, d3 j, Nat.testBit_two_pow]
            by_cases ej : j = i
            · subst ej
              have : gt_D im tb aco j c = true := by
                unfold gt_D
                rw [z, beq_eq_false_iff_ne.mpr e]; rfl
              rw [this, decide_eq_true (show j < j + 1 from by omega)]
              simp
            · have : decide (j < i + 1) = decide (j < i) := by
                by_cases y : j < i
                · rw [decide_eq_true y, decide_eq_true (by omega)]
                · rw [decide_eq_false y, decide_eq_false (by omega)]
              rw [this, decide_eq_false (show ¬ i = j from fun y => ej y.symm), Bool.or_false]
theorem xw_meet {R : Nat → Bool} (hA : rp_A am R) {b n : Nat} (hb : b < 1024) {post : SX → Prop} (h1 : R b = true → post (xt P S T sg dr pe po im s0 tb vd us ic rc pc (nI n) ln lh ls ar asn aa ao apt act acu aco aq apc af ad am)) (hn : R b = false → n < 1024)
    (h0 : R b = false → post (xt P S T sg dr pe po im s0 tb vd us ic rc pc (nI (n + 1)) ln lh ls ar asn aa ao apt act acu aco (upd aq n (nI b)) apc af ad (upd am b (vp_nar .boolean 1)))) : wpX_meet post (xt P S T sg dr pe po im s0 tb vd us ic rc pc (nI n) ln lh ls ar asn aa ao apt act acu aco aq apc af ad am) (nI b) := by
  have hv : vp_in (nI b) 1024 := vp_in_nI hb (by decide)
  unfold wpX_meet xt
  dsimp only
  rw [nI_clamp (n := b) (by omega), hA b hb]
  refine ⟨hv, bo_br (fun z => ⟨hv, nm_e ⟨vp_in_nI (hn z) (by decide), ?_⟩⟩) (fun z => h1 z)⟩
  rw [nI_clamp (n := n) (by have := hn z; omega)]
  exact nm_e (nm_r (nI_1 n) (h0 z))
theorem xw_movingSignals (K : nt_K P S T sg dr pe po im s0) (A : dr_A S im tb aco ad) {s : Nat} (hs : s < 1024) (hc : s % 16 < 2 ^ S) {post : Int32 → Prop} (h : post (nI (im ||| dr_m ad (s % 16)))) : wpX_movingSignals post (xt P S T sg dr pe po im s0 tb vd us ic rc pc mc ln lh ls ar asn aa ao apt act acu aco aq apc af ad am) (nI s) := by
  obtain ⟨d1, d2, d3⟩ := dr_F A hc
  unfold wpX_movingSignals xt wpX_codeOf
  dsimp only
  rw [iv_rem hs, nI_clamp (by omega), d2, sg_or]
  exact ⟨by decide, vp_in_nI (by omega) (by decide), h⟩
/-- a transition's signal moves -/
theorem xm_mv (K : nt_K P S T sg dr pe po im s0) (A : dr_A S im tb aco ad) {s : Nat} (hc : s % 16 < 2 ^ S) (t : Nat) : (nI (im ||| dr_m ad (s % 16)) >>> (nI (sg t) &&& 31)) &&& 1 = nI (im.testBit (sg t) || gt_D im tb aco (sg t) (s % 16)).toNat := by
  obtain ⟨d1, d2, d3⟩ := dr_F A hc
  have hS := K.2.1
  have hB := (K.2.2.2.1 t).1
  rw [sg_bitN _ (by omega), Nat.testBit_or, d3, decide_eq_true hB, Bool.true_and]
theorem xw_leaveMet (K : nt_K P S T sg dr pe po im s0) (A : dr_A S im tb aco ad) {R : Nat → Bool} {n h a : Nat} (hA : rp_A am R) (J : bf_J (me_st T im.testBit (gt_D im tb aco) sg dr pe po) s0 R aq n) (C : bf_C (me_st T im.testBit (gt_D im tb aco) sg dr pe po) R aq h) (hh : h < n) (hRa : R a = true) (ha : a < 1024) (hq : aq h = nI a) {post : SX → Prop}
    (hp : ∀ (n' : Nat) (R' : Nat → Bool) (am' aq' : Nat → Int32), rp_A am' R' → bf_J (me_st T im.testBit (gt_D im tb aco) sg dr pe po) s0 R' aq' n' → bf_C (me_st T im.testBit (gt_D im tb aco) sg dr pe po) R' aq' (h + 1) → n ≤ n' → post (xt P S T sg dr pe po im s0 tb vd us ic rc pc (nI n') ln lh ls ar asn aa ao apt act acu aco aq' apc af ad am')) : wpX_leaveMet post (xt P S T sg dr pe po im s0 tb vd us ic rc pc (nI n) ln lh ls ar asn aa ao apt act acu aco aq apc af ad am) (nI a) := by
  have hT := K.2.2.1
  have hac : a % 16 < 2 ^ S := me_c K (J.2.2.1 a hRa).1
  unfold wpX_leaveMet xt
  dsimp only
  refine xw_movingSignals K A ha hac ?_
  refine loop_0 (σ := Nat × (Nat → Bool) × (Nat → Int32) × (Nat → Int32)) (fun k t s => wX_leaveMet_8 post (nI a) (nI (im ||| dr_m ad (a % 16))) k (nI t) (nI S) (nI (2 ^ P)) (nI (2 ^ S)) (nI (3 ^ S)) (nI T) (nI im) (nI s0) vd us ic rc pc (nI s.1) ln lh ls (cu_ar S) (fun j => nI (sg j)) (fun j => nI (dr j)) (fun j => nI (pe j)) (fun j => nI (po j)) tb ar asn aa ao apt act acu aco s.2.2.2 apc af ad s.2.2.1 65536)
    (fun t s => rp_A s.2.2.1 s.2.1 ∧ bf_J (me_st T im.testBit (gt_D im tb aco) sg dr pe po) s0 s.2.1 s.2.2.2 s.1 ∧ bf_C (me_st T im.testBit (gt_D im tb aco) sg dr pe po) s.2.1 s.2.2.2 h ∧ s.2.1 a = true ∧ n ≤ s.1 ∧ (∀ j, j < n → s.2.2.2 j = aq j) ∧ ∀ k, k < t → me_ok im.testBit (gt_D im tb aco) sg pe k a = true → s.2.1 (nt_fr sg dr pe po k a) = true) T (n, R, am, aq)
    ⟨hA, J, C, hRa, Nat.le_refl _, fun _ _ => rfl, fun k hk => absurd hk (Nat.not_lt_zero _)⟩ ?_ ?_
  · rintro k ⟨n', R', am', aq'⟩ ⟨i1, i2, i3, i4, i5, i6, i7⟩
    refine br_t (nI_le (Nat.le_refl _) (by omega)) (hp n' R' am' aq' i1 i2 ?_ i5)
    intro j hj x y ex hx hst
    by_cases e : j = h
    · subst e
      have e2 : nI a = nI x := by rw [← hq, ← ex]; exact (i6 j hh).symm
      rw [nI_eq (by omega) (by omega)] at e2
      subst e2
      obtain ⟨t, ht, hok, ey⟩ := hst
      rw [ey]
      exact i7 t ht hok
    · exact i3 j (by omega) x y ex hx hst
  · rintro k t ⟨n', R', am', aq'⟩ ht ⟨i1, i2, i3, i4, i5, i6, i7⟩ ih
    have i1' : rp_A am' R' := i1
    have i5' : n ≤ n' := i5
    have hB := iv_bS K.2.1.2 K.2.2.2.1 t
    have hno : me_ok im.testBit (gt_D im tb aco) sg pe t a = false → wX_leaveMet_8 post (nI a) (nI (im ||| dr_m ad (a % 16))) k (nI (t + 1)) (nI S) (nI (2 ^ P)) (nI (2 ^ S)) (nI (3 ^ S)) (nI T) (nI im) (nI s0) vd us ic rc pc (nI n') ln lh ls (cu_ar S) (fun j => nI (sg j)) (fun j => nI (dr j)) (fun j => nI (pe j)) (fun j => nI (po j)) tb ar asn aa ao apt act acu aco aq' apc af ad am' 65536 := by
      intro z
      refine ih (n', R', am', aq') ⟨i1, i2, i3, i4, i5, i6, lt_s i7 ?_⟩
      intro y
      rw [z] at y
      exact absurd y (by simp)
    refine br_f (nI_ge ht (by omega)) (xw_isEnabled K ht ha (bo_br (fun z => nm_r (nI_1 t) (hno (by unfold me_ok; rw [z]; rfl))) (fun z => ⟨vp_in_nI (by omega) (by decide), ?_⟩)))
    unfold wpX_bit
    try dsimp only
    rw [nI_clamp (by omega), xm_mv K A hac t]
    refine bo_br1 (fun z2 => xw_fire K ht ha ?_) (fun z2 => nm_r (nI_1 t) (hno (by unfold me_ok; rw [z, z2]; rfl)))
    have hb : nt_fr sg dr pe po t a < 1024 := nt_fr_lt K.2.1.2 K.2.2.2.1 t ha
    have hok : me_ok im.testBit (gt_D im tb aco) sg pe t a = true := by unfold me_ok; rw [z, z2]; rfl
    have hst : me_st T im.testBit (gt_D im tb aco) sg dr pe po a (nt_fr sg dr pe po t a) := ⟨t, ht, hok, rfl⟩
    refine xw_meet i1' hb (fun z4 => nm_r (nI_1 t) ?_) (fun z4 => bf_new i2 hb z4) (fun z4 => nm_r (nI_1 t) ?_)
    · exact ih (n', R', am', aq') ⟨i1, i2, i3, i4, i5, i6, lt_s i7 (fun _ => z4)⟩
    · refine ih (n' + 1, ct_u R' (nt_fr sg dr pe po t a), upd am' (nt_fr sg dr pe po t a) (vp_nar .boolean 1), upd aq' n' (nI (nt_fr sg dr pe po t a))) ⟨rp_u i1' _, bf_add i2 i4 hst hb z4, bf_Cadd i3 (by omega), ct_uo _ _ _ i4, by dsimp only; omega, fun j hj => ?_, lt_s (fun k hk y => ct_uo _ _ _ (i7 k hk y)) (fun _ => ct_us _ _)⟩
      show upd aq' n' (nI (nt_fr sg dr pe po t a)) j = aq j
      rw [pk_un (by omega)]
      exact i6 j hj
theorem xw_meetStates (K : nt_K P S T sg dr pe po im s0) {post : SX → Prop}
    (hp : ∀ (R2 : Nat → Bool) (ad' am' aq' : Nat → Int32), dr_A S im tb aco ad' → rp_A am' R2 → rc_is (me_st T im.testBit (gt_D im tb aco) sg dr pe po) s0 R2 → post (xt P S T sg dr pe po im s0 tb vd us ic rc pc (nI (ct_n R2 1024)) ln lh ls ar asn aa ao apt act acu aco aq' apc af ad' am')) : wpX_meetStates post (xt P S T sg dr pe po im s0 tb vd us ic rc pc mc ln lh ls ar asn aa ao apt act acu aco aq apc af ad am) := by
  have hs0 := K.2.2.2.2.2.1
  have hb := me_st_lt (T := T) (inp := im.testBit) (dv := gt_D im tb aco) K.2.1.2 K.2.2.2.1
  unfold wpX_meetStates xt
  dsimp only
  refine xw_noteDriven K (fun ad' A => ?_)
  refine loop_0 (σ := Nat → Int32) (fun n i q => wX_meetStates_6 post (nI S) (nI (2 ^ P)) (nI (2 ^ S)) (nI (3 ^ S)) (nI T) (nI im) (nI s0) vd us ic rc pc mc ln lh ls 65536 n (nI i) (cu_ar S) (fun j => nI (sg j)) (fun j => nI (dr j)) (fun j => nI (pe j)) (fun j => nI (po j)) tb ar asn aa ao apt act acu aco aq apc af ad' q) (fun i q => ∀ k, k < i → q k = 0) 1024 am (fun k hk => absurd hk (Nat.not_lt_zero _)) ?_ ?_
  · intro n q hq
    refine br_t (nI_le (Nat.le_refl 1024) (by decide)) ?_
    refine xw_meet (R := fun _ => false) (n := 0) (fun s hs => hq s hs) hs0 (fun z => absurd z (by simp)) (fun _ => by decide) (fun _ => ?_)
    refine loop_0 (σ := Nat × (Nat → Bool) × (Nat → Int32) × (Nat → Int32)) (fun n h s => wX_meetStates_41 post n (nI h) (nI S) (nI (2 ^ P)) (nI (2 ^ S)) (nI (3 ^ S)) (nI T) (nI im) (nI s0) vd us ic rc pc (nI s.1) ln lh ls (cu_ar S) (fun j => nI (sg j)) (fun j => nI (dr j)) (fun j => nI (pe j)) (fun j => nI (po j)) tb ar asn aa ao apt act acu aco s.2.2.2 apc af ad' s.2.2.1 65536)
      (fun h s => rp_A s.2.2.1 s.2.1 ∧ bf_J (me_st T im.testBit (gt_D im tb aco) sg dr pe po) s0 s.2.1 s.2.2.2 s.1 ∧ bf_C (me_st T im.testBit (gt_D im tb aco) sg dr pe po) s.2.1 s.2.2.2 h ∧ h ≤ s.1) 1024 (1, ct_u (fun _ => false) s0, _, _)
      ⟨rp_u (fun s hs => hq s hs) s0, bf_0 _ hs0, fun j hj => absurd hj (Nat.not_lt_zero _), Nat.zero_le _⟩ ?_ ?_
    · rintro n ⟨c, R, am', aq'⟩ ⟨i1, i2, i3, i4⟩
      have hc1 : c ≤ 1024 := bf_le i2
      have := hp R ad' am' aq' A i1 (bf_end i2 i3 hc1 hb)
      rw [← i2.1] at this
      exact br_t (nI_le (Nat.le_refl 1024) (by decide)) this
    · rintro n h ⟨c, R, am', aq'⟩ hh ⟨i1, i2, i3, i4⟩ ih
      have hc1 : c ≤ 1024 := bf_le i2
      refine br_f (nI_ge hh (by decide)) ?_
      by_cases hc : c ≤ h
      · have := hp R ad' am' aq' A i1 (bf_end i2 i3 hc hb)
        rw [← i2.1] at this
        exact br_t (nI_le hc (by omega)) this
      · obtain ⟨a, hRa, hqa⟩ := i2.2.2.2.2 h (by dsimp only; omega)
        have ha := (i2.2.2.1 a hRa).2
        refine br_f (nI_ge (a := h) (b := c) (by omega) (by omega)) ⟨vp_in_nI hh (by decide), ?_⟩
        try dsimp only
        rw [nI_clamp (by omega), show aq' h = nI a from hqa]
        refine xw_leaveMet K A i1 i2 i3 (by dsimp only; omega) hRa ha hqa (fun n' R' am2 aq2 j1 j2 j3 j4 => ?_)
        exact nm_r (nI_1 h) (ih (n', R', am2, aq2) ⟨j1, j2, j3, by dsimp only at j4 ⊢; omega⟩)
  · intro n i q hi hq ih
    refine br_f (nI_ge hi (by decide)) ⟨vp_in_nI hi (by decide), ?_⟩
    rw [nI_clamp (by omega)]
    exact nm_e (nm_r (nI_1 i) (ih _ (yw_clear q i hq)))
theorem xw_showsHazard (K : nt_K P S T sg dr pe po im s0) (A : dr_A S im tb aco ad) {s : Nat} (hs : s < 1024) (hc : s % 16 < 2 ^ S) {post : Int32 → Prop} (h : post (nI (sh_h S T im.testBit (gt_D im tb aco) sg dr pe po s).toNat)) : wpX_showsHazard post (xt P S T sg dr pe po im s0 tb vd us ic rc pc mc ln lh ls ar asn aa ao apt act acu aco aq apc af ad am) (nI s) := by
  have hT := K.2.2.1
  have hS := K.2.1
  have h16 := nt_pS hS.2
  obtain ⟨d1, d2, d3⟩ := dr_F A hc
  have hfc : ∀ t, nt_fr sg dr pe po t s % 16 < 2 ^ S := fun t => nt_fr_c K.2.1.2 K.2.2.2.1 t hc
  rw [← mk_h (D := dr_m ad (s % 16)) (D' := fun t => dr_m ad (nt_fr sg dr pe po t s % 16)) d3 (fun t => (dr_F A (hfc t)).2.2)] at h
  unfold wpX_showsHazard xt
  dsimp only
  refine xw_movingSignals K A hs hc ?_
  refine loop_0 (σ := Unit) (fun n t _ => wX_showsHazard_8 post (nI s) (nI (im ||| dr_m ad (s % 16))) (nI S) (nI (2 ^ P)) (nI (2 ^ S)) (nI (3 ^ S)) (nI T) (nI im) (nI s0) vd us ic rc pc mc ln lh ls (cu_ar S) (fun j => nI (sg j)) (fun j => nI (dr j)) (fun j => nI (pe j)) (fun j => nI (po j)) tb ar asn aa ao apt act acu aco aq apc af ad am 65536 n (nI t)) (fun t _ => ∀ k, k < t → (me_ok im.testBit (gt_D im tb aco) sg pe k s && !(sg_an (sg_an (dr_m ad (s % 16)) (2 ^ sg k)) (dr_m ad (nt_fr sg dr pe po k s % 16)) == 0)) = false) T () (fun j hj => absurd hj (Nat.not_lt_zero _)) ?_ ?_
  · intro n _ hI
    rw [ex_not.mpr hI] at h
    exact br_t (nI_le (Nat.le_refl _) (by omega)) h
  · intro n t _ ht hI ih
    have hB := iv_bS K.2.1.2 K.2.2.2.1 t
    have hfr : nt_fr sg dr pe po t s < 1024 := nt_fr_lt K.2.1.2 K.2.2.2.1 t hs
    obtain ⟨g1, g2, g3⟩ := dr_F A (hfc t)
    refine br_f (nI_ge ht (by omega)) (xw_isEnabled K ht hs (bo_br (fun z => nm_r (nI_1 t) (ih () (lt_s hI (by unfold me_ok; rw [z]; rfl)))) (fun z => ⟨vp_in_nI (by omega) (by decide), ?_⟩)))
    unfold wpX_bit
    try dsimp only
    rw [nI_clamp (n := t) (by omega), xm_mv K A hc t]
    refine bo_br1 (fun z2 => xw_fire K ht hs ?_) (fun z2 => nm_r (nI_1 t) (ih () (lt_s hI (by unfold me_ok; rw [z, z2]; rfl))))
    have hok : me_ok im.testBit (gt_D im tb aco) sg pe t s = true := by unfold me_ok; rw [z, z2]; rfl
    have hle : sg_an (sg_an (dr_m ad (s % 16)) (2 ^ sg t)) (dr_m ad (nt_fr sg dr pe po t s % 16)) ≤ dr_m ad (s % 16) := Nat.le_trans (sg_an_le _ _) (sg_an_le _ _)
    unfold wpX_codeOf
    try dsimp only
    rw [iv_rem hs, iv_rem hfr, nI_clamp (n := s % 16) (by omega), nI_clamp (n := nt_fr sg dr pe po t s % 16) (by omega), d2, g2, sg_s1 (by omega)]
    refine ⟨by decide, vp_in_nI (by omega) (by decide), vp_in_nI (by omega) (by decide), nm_r (sg_andn _ _) ⟨by decide, vp_in_nI (by omega) (by decide), ?_⟩⟩
    rw [sg_andn]
    by_cases y : sg_an (sg_an (dr_m ad (s % 16)) (2 ^ sg t)) (dr_m ad (nt_fr sg dr pe po t s % 16)) = 0
    · exact br_t (by rw [y]; rfl) (nm_r (nI_1 t) (ih () (lt_s hI (by rw [y, beq_self_eq_true]; simp))))
    · refine br_f (fun x => y ((iv_n0 (by omega)).mp x)) ?_
      rw [ex_iff.mpr ⟨t, ht, by rw [hok, beq_eq_false_iff_ne.mpr y]; rfl⟩] at h
      exact h
theorem xw_showsStall (K : nt_K P S T sg dr pe po im s0) (A : dr_A S im tb aco ad) {s E : Nat} (hc : s % 16 < 2 ^ S) (hE : ∀ i, E.testBit i = nt_he T sg pe i (s / 16)) {post : Int32 → Prop} (h : post (nI (sh_s S T im.testBit (gt_D im tb aco) sg pe s).toNat)) : wpX_showsStall post (xt P S T sg dr pe po im s0 tb vd us ic rc pc mc ln lh ls ar asn aa ao apt act acu aco aq apc af ad am) (nI E) (nI (dr_m ad (s % 16))) := by
  have hS := K.2.1
  have hB := K.2.2.2.1
  have him := K.2.2.2.2.1
  obtain ⟨d1, d2, d3⟩ := dr_F A hc
  have hk := mk_s (T := T) (im := im) d3 hE (fun t => (hB t).1)
  have hE16 : E < 2 ^ 4 := Nat.lt_pow_two_of_testBit _ (fun i hi => by
    rw [hE]
    apply bo_nt
    intro z
    obtain ⟨t, _, h⟩ := ex_iff.mp z
    rw [Bool.and_eq_true, beq_iff_eq] at h
    have := (hB t).1
    omega)
  have hl1 : sg_an E im ≤ E := sg_an_le _ _
  have hl2 : E &&& im ≤ E := Nat.and_le_left
  unfold wpX_showsStall xt
  dsimp only
  rw [sg_andn, nx_and]
  by_cases y1 : sg_an E im = 0
  · have e : sh_s S T im.testBit (gt_D im tb aco) sg pe s = false := bo_nt (fun z => (hk.mpr z).1 y1)
    rw [e] at h
    exact br_t (by rw [y1]; rfl) h
  · refine br_f (fun x => y1 ((iv_n0 (by omega)).mp x)) ?_
    by_cases y2 : dr_m ad (s % 16) = 0
    · refine br_t (by rw [y2]; rfl) ?_
      by_cases y3 : E &&& im = 0
      · have e : sh_s S T im.testBit (gt_D im tb aco) sg pe s = true := hk.mp ⟨y1, y2, y3⟩
        rw [e] at h
        exact br_t (by rw [y3]; rfl) h
      · have e : sh_s S T im.testBit (gt_D im tb aco) sg pe s = false := bo_nt (fun z => y3 (hk.mpr z).2.2)
        rw [e] at h
        exact br_f (fun x => y3 ((iv_n0 (by omega)).mp x)) h
    · have e : sh_s S T im.testBit (gt_D im tb aco) sg pe s = false := bo_nt (fun z => y2 (hk.mpr z).2.1)
      rw [e] at h
      exact br_f (fun x => y2 ((iv_n0 (by omega)).mp x)) h
/-- the least one from k on -/
def ls_d (f : Nat → Bool) (k : Nat) (r : Int32) : Prop := (r = -1 ∧ ∀ i, k ≤ i → i < 1024 → f i = false) ∨ ∃ j, k ≤ j ∧ j < 1024 ∧ r = nI j ∧ f j = true ∧ ∀ i, k ≤ i → i < j → f i = false
theorem ls_dskip {f : Nat → Bool} {k : Nat} {r : Int32} (h : ls_d f (k + 1) r) (hf : f k = false) : ls_d f k r := by
  rcases h with ⟨e, z⟩ | ⟨j, h1, h2, h3, h4, h5⟩
  · refine Or.inl ⟨e, fun i hi hi2 => ?_⟩
    by_cases ei : i = k
    · subst ei; exact hf
    · exact z i (by omega) hi2
  · refine Or.inr ⟨j, by omega, h2, h3, h4, fun i hi hi2 => ?_⟩
    by_cases ei : i = k
    · subst ei; exact hf
    · exact h5 i (by omega) hi2
theorem ls_dtake {f : Nat → Bool} {k : Nat} (hk : k < 1024) (hf : f k = true) : ls_d f k (nI k) :=
  Or.inr ⟨k, Nat.le_refl _, hk, rfl, hf, fun i hi hi2 => absurd hi2 (by omega)⟩
theorem ls_d0 {f : Nat → Bool} {r : Int32} (h : ls_d f 0 r) : ls_n f 1024 r := by
  rcases h with ⟨e, z⟩ | ⟨j, h1, h2, h3, h4, h5⟩
  · exact Or.inl ⟨e, fun i hi => z i (Nat.zero_le _) hi⟩
  · exact Or.inr ⟨j, h2, h3, h4, fun i hi => h5 i (Nat.zero_le _) hi⟩
theorem xw_noteFailures (K : nt_K P S T sg dr pe po im s0) (A : dr_A S im tb aco ad) {R2 : Nat → Bool} (hA : rp_A am R2) (hR : rc_is (me_st T im.testBit (gt_D im tb aco) sg dr pe po) s0 R2) {post : SX → Prop}
    (hp : ∀ ln' lh' ls' : Int32, ls_n (fun s => R2 s && sh_n S T (gt_D im tb aco) sg pe s) 1024 ln' → ls_n (fun s => R2 s && sh_h S T im.testBit (gt_D im tb aco) sg dr pe po s) 1024 lh' → ls_n (fun s => R2 s && sh_s S T im.testBit (gt_D im tb aco) sg pe s) 1024 ls' → post (xt P S T sg dr pe po im s0 tb vd us ic rc pc mc ln' lh' ls' ar asn aa ao apt act acu aco aq apc af ad am)) : wpX_noteFailures post (xt P S T sg dr pe po im s0 tb vd us ic rc pc mc ln lh ls ar asn aa ao apt act acu aco aq apc af ad am) := by
  have key : ∀ k (ln lh ls : Int32), k ≤ 1024 → ls_d (fun s => R2 s && sh_n S T (gt_D im tb aco) sg pe s) k ln → ls_d (fun s => R2 s && sh_h S T im.testBit (gt_D im tb aco) sg dr pe po s) k lh → ls_d (fun s => R2 s && sh_s S T im.testBit (gt_D im tb aco) sg pe s) k ls →
      wX_noteFailures_19 post (nI S) (nI (2 ^ P)) (nI (2 ^ S)) (nI (3 ^ S)) (nI T) (nI im) (nI s0) vd us ic rc pc mc (cu_ar S) (fun j => nI (sg j)) (fun j => nI (dr j)) (fun j => nI (pe j)) (fun j => nI (po j)) tb ar asn aa ao apt act acu aco aq apc af ad am 65536 (k + 1) (nI k - 1) ln lh ls := by
    intro k
    induction k with
    | zero =>
      intro ln lh ls _ h1 h2 h3
      exact br_t (by decide) (hp ln lh ls (ls_d0 h1) (ls_d0 h2) (ls_d0 h3))
    | succ k ih =>
      intro ln lh ls hk h1 h2 h3
      have ek : nI (k + 1) - 1 = nI k := nI_pred k
      have em : nI k + (-1) = nI k - 1 := by grind
      rw [ek]
      refine br_f (nI_pos (by omega)) ⟨vp_in_nI (by omega) (by decide), ?_⟩
      rw [nI_clamp (by omega), hA k (by omega)]
      refine bo_br (fun z => nm_r em (ih ln lh ls (by omega) (ls_dskip h1 (by rw [z]; rfl)) (ls_dskip h2 (by rw [z]; rfl)) (ls_dskip h3 (by rw [z]; rfl)))) (fun z => ?_)
      have hc : k % 16 < 2 ^ S := me_c K ((hR k (by omega)).mp z)
      obtain ⟨d1, d2, d3⟩ := dr_F A hc
      refine xw_enabledSignals K (by omega) (fun E hE => ?_)
      unfold wpX_codeOf
      try dsimp only
      rw [iv_rem (by omega), nI_clamp (n := k % 16) (by omega), d2]
      refine ⟨by decide, vp_in_nI (by omega) (by decide), nm_e ?_⟩
      have h85 : ∀ ln' lh' : Int32, ls_d (fun s => R2 s && sh_n S T (gt_D im tb aco) sg pe s) k ln' → ls_d (fun s => R2 s && sh_h S T im.testBit (gt_D im tb aco) sg dr pe po s) k lh' →
          wX_noteFailures_85 post (wX_noteFailures_19 post (nI S) (nI (2 ^ P)) (nI (2 ^ S)) (nI (3 ^ S)) (nI T) (nI im) (nI s0) vd us ic rc pc mc (cu_ar S) (fun j => nI (sg j)) (fun j => nI (dr j)) (fun j => nI (pe j)) (fun j => nI (po j)) tb ar asn aa ao apt act acu aco aq apc af ad am 65536 (k + 1)) (nI k) (nI E) (nI (dr_m ad (k % 16))) lh' (nI S) (nI (2 ^ P)) (nI (2 ^ S)) (nI (3 ^ S)) (nI T) (nI im) (nI s0) vd us ic rc pc mc ln' lh ls (cu_ar S) (fun j => nI (sg j)) (fun j => nI (dr j)) (fun j => nI (pe j)) (fun j => nI (po j)) tb ar asn aa ao apt act acu aco aq apc af ad am 65536 := by
        intro ln' lh' y1 y2
        unfold wX_noteFailures_85
        refine xw_showsStall K A hc hE (bo_br (fun w => nm_r em (ih ln' lh' ls (by omega) y1 y2 (ls_dskip h3 (by rw [w, Bool.and_false])))) (fun w => nm_r em (ih ln' lh' (nI k) (by omega) y1 y2 (ls_dtake (by omega) (by rw [z, w]; rfl)))))
      have h65 : ∀ ln' : Int32, ls_d (fun s => R2 s && sh_n S T (gt_D im tb aco) sg pe s) k ln' →
          wX_noteFailures_65 post (wX_noteFailures_19 post (nI S) (nI (2 ^ P)) (nI (2 ^ S)) (nI (3 ^ S)) (nI T) (nI im) (nI s0) vd us ic rc pc mc (cu_ar S) (fun j => nI (sg j)) (fun j => nI (dr j)) (fun j => nI (pe j)) (fun j => nI (po j)) tb ar asn aa ao apt act acu aco aq apc af ad am 65536 (k + 1)) (nI k) (nI E) (nI (dr_m ad (k % 16))) ln' (nI S) (nI (2 ^ P)) (nI (2 ^ S)) (nI (3 ^ S)) (nI T) (nI im) (nI s0) vd us ic rc pc mc ln lh ls (cu_ar S) (fun j => nI (sg j)) (fun j => nI (dr j)) (fun j => nI (pe j)) (fun j => nI (po j)) tb ar asn aa ao apt act acu aco aq apc af ad am 65536 := by
        intro ln' y1
        unfold wX_noteFailures_65
        refine xw_showsHazard K A (by omega) hc (bo_br (fun w => h85 ln' lh y1 (ls_dskip h2 (by rw [w, Bool.and_false]))) (fun w => h85 ln' (nI k) y1 (ls_dtake (by omega) (by rw [z, w]; rfl))))
      have hm := mk_n (S := S) (T := T) (sg := sg) (pe := pe) d3 hE
      have hle := sg_an_le (dr_m ad (k % 16)) E
      rw [sg_andn]
      by_cases w : sh_n S T (gt_D im tb aco) sg pe k = false
      · exact br_t (by rw [hm.mpr w]; rfl) (h65 ln (ls_dskip h1 (by rw [w, Bool.and_false])))
      · exact br_f (fun x => w (hm.mp ((iv_n0 (by omega)).mp x))) (h65 (nI k) (ls_dtake (by omega) (by rw [z, bo_nf w]; rfl)))
  have h0 : ∀ f, ls_d f 1024 (-1) := fun f => Or.inl ⟨rfl, fun i h1 h2 => absurd h2 (by omega)⟩
  exact ⟨1025, key 1024 (-1) (-1) (-1) (Nat.le_refl _) (h0 _) (h0 _) (h0 _)⟩
end
end
section
/-! the relation; the constructors -/
/-- what holds once the verdict d is there -/
def re_V (S T : Nat) (sg dr pe po : Nat → Nat) (im s0 d : Nat) (rc : Int32) (ar asn aa ao apt act acu aco yr : Nat → Int32) : Prop := d < 5 ∧ (d = 0 ∨ ∃ R : Nat → Bool, rc_is (nt_st T sg dr pe po) s0 R ∧ rp_A ar R ∧ rp_A yr R ∧ rc = nI (ct_n R 1024) ∧ xe_A T sg dr pe po R 1024 asn aa ao ∧
  (d = 1 → ∀ i, i < S → im.testBit i = false → xc_A S (nt_v T sg dr pe po R i) i apt act acu aco))
def i_Rel (_ : Nat) (u : SX) (v : SY) : Prop :=
  ∃ (P S T : Nat) (sg dr pe po : Nat → Nat) (im s0 : Nat) (tb : Nat → Int32) (d : Nat) (us ic rc pc mc ln lh ls : Int32) (ar asn aa ao apt act acu aco aq apc af ad am : Nat → Int32) (pcy cm cc : Int32) (yr ym yn yi yp yv : Nat → Int32),
    u = (xt P S T sg dr pe po im s0 tb (nI d) us ic rc pc mc ln lh ls ar asn aa ao apt act acu aco aq apc af ad am) ∧ v = (yt P S T sg dr pe po im s0 tb (nI d) pcy cm cc yr ym yn yi yp yv) ∧ nt_K P S T sg dr pe po im s0 ∧ gt_T tb ∧ re_V S T sg dr pe po im s0 d rc ar asn aa ao apt act acu aco yr
section
variable {P S T : Nat} {sg dr pe po : Nat → Nat} {im s0 : Nat} {tb : Nat → Int32}
variable {vd us ic rc pc mc ln lh ls cm cc : Int32} {ar asn aa ao apt act acu aco aq apc af ad am yr ym yn yi yp yv : Nat → Int32}
theorem re_mk {d k : Nat} {pcy : Int32} (K : nt_K P S T sg dr pe po im s0) (G : gt_T tb) (V : re_V S T sg dr pe po im s0 d rc ar asn aa ao apt act acu aco yr) : i_Rel k (xt P S T sg dr pe po im s0 tb (nI d) us ic rc pc mc ln lh ls ar asn aa ao apt act acu aco aq apc af ad am) (yt P S T sg dr pe po im s0 tb (nI d) pcy cm cc yr ym yn yi yp yv) :=
  ⟨P, S, T, sg, dr, pe, po, im, s0, tb, d, us, ic, rc, pc, mc, ln, lh, ls, ar, asn, aa, ao, apt, act, acu, aco, aq, apc, af, ad, am, pcy, cm, cc, yr, ym, yn, yi, yp, yv, rfl, rfl, K, G, V⟩
theorem i_up {k : Nat} {u : SX} {v : SY} (h : i_Rel k u v) : i_Rel (k + 5) u v := h
theorem cl_A (x : Int32) (lo hi : Nat) (h : lo ≤ hi) (hh : hi < 2 ^ 31) : ∃ n, lo ≤ n ∧ n ≤ hi ∧ ∀ A : Int32 → Prop, A (nI n) → (nI lo ≤ x → ((x ≤ nI hi → A x) ∧ (¬ x ≤ nI hi → A (nI hi)))) ∧ (¬ nI lo ≤ x → A (nI lo)) := by
  by_cases h1 : nI lo ≤ x
  · by_cases h2 : x ≤ nI hi
    · have h0 : ¬ x < 0 := by
        intro z
        have h3 := Int32.lt_of_le_of_lt h1 z
        exact nI_pos (by omega) h3
      obtain ⟨n, hn, rfl⟩ := nI_of h0
      rw [nI_leI (by omega) hn] at h1
      rw [nI_leI hn hh] at h2
      exact ⟨n, h1, h2, fun A hA => br_t (nI_le h1 hn) (br_t (nI_le h2 hh) hA)⟩
    · exact ⟨hi, h, Nat.le_refl _, fun A hA => br_t h1 (br_f h2 hA)⟩
  · exact ⟨lo, Nat.le_refl _, h, fun A hA => br_f h1 hA⟩
theorem xw_powerOfThree (hS : S ≤ 4) {post : Int32 → Prop} (h : post (nI (3 ^ S))) : wpX_powerOfThree post (nI S) := by
  refine loop_0 (σ := Unit) (fun n k _ => wX_powerOfThree_4 post (nI S) n (nI (3 ^ k)) (nI k)) (fun _ _ => True) S () trivial ?_ ?_
  · intro n _ _
    exact br_t (nI_le (Nat.le_refl _) (by omega)) h
  · intro n k _ hk _ ih
    have hx := ih () trivial
    refine br_f (nI_ge hk (by omega)) (nm_r (show nI (3 ^ k) * 3 = nI (3 ^ (k + 1)) from ?_) (nm_r (nI_1 k) hx))
    rw [Nat.pow_succ, ← pk_mul]
    rfl
theorem xw_cubeMeets (hS : S ≤ 4) {acc : Nat → Int32} {q c : Nat} (hq : q < 81) {post : Int32 → Prop} (h : post (nI (cu_cv S q c).toNat)) : wpX_cubeMeets post (nI S, nI (2 ^ P), nI (2 ^ S), nI (3 ^ S), nI T, nI im, nI s0, vd, us, ic, rc, pc, mc, ln, lh, ls, acc, (fun j => nI (sg j)), (fun j => nI (dr j)), (fun j => nI (pe j)), (fun j => nI (po j)), tb, ar, asn, aa, ao, apt, act, acu, aco, aq, apc, af, ad, am, 65536) (nI q) (nI c) := by
  have key : ∃ n, wX_cubeMeets_5 post (nI c) (nI S) (nI (2 ^ P)) (nI (2 ^ S)) (nI (3 ^ S)) (nI T) (nI im) (nI s0) vd us ic rc pc mc ln lh ls acc (fun j => nI (sg j)) (fun j => nI (dr j)) (fun j => nI (pe j)) (fun j => nI (po j)) tb ar asn aa ao apt act acu aco aq apc af ad am 65536 n (nI (q / 3 ^ 0)) (nI 0) := by
    refine loop_0 (σ := Unit) (fun n i _ => wX_cubeMeets_5 post (nI c) (nI S) (nI (2 ^ P)) (nI (2 ^ S)) (nI (3 ^ S)) (nI T) (nI im) (nI s0) vd us ic rc pc mc ln lh ls acc (fun j => nI (sg j)) (fun j => nI (dr j)) (fun j => nI (pe j)) (fun j => nI (po j)) tb ar asn aa ao apt act acu aco aq apc af ad am 65536 n (nI (q / 3 ^ i)) (nI i)) (fun i _ => ∀ j, j < i → ((q / 3 ^ j % 3 == 2) || (q / 3 ^ j % 3 == (c.testBit j).toNat)) = true) S () (fun j hj => absurd hj (Nat.not_lt_zero _)) ?_ ?_
    · intro n _ hI
      have e : cu_cv S q c = true := al_iff.mpr hI
      rw [e] at h
      exact br_t (nI_le (Nat.le_refl _) (by omega)) h
    · intro n i _ hi hI ih
      have hd : q / 3 ^ i ≤ q := Nat.div_le_self _ _
      have hm : q / 3 ^ i % 3 < 3 := Nat.mod_lt _ (by decide)
      have ht := sg_toNat_lt (c.testBit i)
      have e1 : nI (q / 3 ^ i) - nI (q / 3 ^ i) / 3 * 3 = nI (q / 3 ^ i % 3) := pk_rem (d := 3) (by omega) (by decide) (by decide)
      have e2 : nI (q / 3 ^ i) / 3 = nI (q / 3 ^ (i + 1)) := by rw [← cu_nx]; exact pk_div (d := 3) (by omega) (by decide) (by decide)
      refine br_f (nI_ge hi (by omega)) ⟨by decide, nm_r e1 ?_⟩
      by_cases h2 : q / 3 ^ i % 3 = 2
      · refine br_t (by rw [h2]; rfl) ⟨by decide, nm_r e2 (nm_r (nI_1 i) (ih () (lt_s hI ?_)))⟩
        rw [h2]; rfl
      · refine br_f (fun z => h2 ((nI_eq (b := 2) (by omega) (by omega)).mp z)) ?_
        unfold wpX_bit
        try dsimp only
        rw [sg_bitN c (by omega)]
        by_cases h3 : q / 3 ^ i % 3 = (c.testBit i).toNat
        · refine br_t (by rw [h3]) ⟨by decide, nm_r e2 (nm_r (nI_1 i) (ih () (lt_s hI ?_)))⟩
          rw [beq_iff_eq.mpr h3, Bool.or_true]
        · have e : cu_cv S q c = false := al_not.mpr ⟨i, hi, by
            show ((q / 3 ^ i % 3 == 2) || (q / 3 ^ i % 3 == (c.testBit i).toNat)) = false
            rw [beq_eq_false_iff_ne.mpr h2, beq_eq_false_iff_ne.mpr h3]; rfl⟩
          rw [e] at h
          exact br_f (fun z => h3 ((nI_eq (by omega) (by omega)).mp z)) h
  rw [Nat.pow_zero, Nat.div_one] at key
  exact key
/-- the masks so far: cube q has its codes below c -/
def cu_w (S q c : Nat) : Nat → Int32 := fun p => if p < q then nI (cu_m S p (2 ^ S)) else if p = q then nI (cu_m S q c) else 0
theorem cu_w0 (S : Nat) : (fun _ => (0 : Int32)) = cu_w S 0 0 := by
  funext p
  unfold cu_w
  rw [if_neg (Nat.not_lt_zero p)]
  by_cases e : p = 0
  · rw [if_pos e]; rfl
  · rw [if_neg e]
theorem cu_wn (S q : Nat) : cu_w S q (2 ^ S) = cu_w S (q + 1) 0 := by
  funext p
  unfold cu_w
  by_cases e : p < q
  · rw [if_pos e, if_pos (by omega)]
  · rw [if_neg e]
    by_cases e2 : p = q
    · rw [if_pos e2, if_pos (by omega), e2]
    · rw [if_neg e2, if_neg (by omega)]
      by_cases e3 : p = q + 1
      · rw [if_pos e3]; rfl
      · rw [if_neg e3]
theorem cu_we (S : Nat) : cu_w S (3 ^ S) 0 = cu_ar S := by
  funext p
  unfold cu_w cu_ar
  by_cases e : p < 3 ^ S
  · rw [if_pos e, if_pos e]
  · rw [if_neg e, if_neg e]
    by_cases e3 : p = 3 ^ S
    · rw [if_pos e3]; rfl
    · rw [if_neg e3]
theorem cu_ws {S q c : Nat} : (cu_cv S q c = false → cu_w S q (c + 1) = cu_w S q c) ∧ (cu_cv S q c = true → cu_w S q (c + 1) = upd (cu_w S q c) q (cu_w S q c q ||| nI (2 ^ c))) := by
  have e0 : cu_m S q (c + 1) = cu_m S q c ||| (if cu_cv S q c = true then 2 ^ c else 0) := rfl
  refine ⟨fun h => ?_, fun h => ?_⟩
  · unfold cu_w
    rw [e0, h, if_neg (by simp), Nat.or_zero]
  · funext p
    show _ = (if p = q then _ else _)
    unfold cu_w
    rw [e0, if_pos h]
    by_cases e : p < q
    · rw [if_pos e, if_neg (by omega), if_pos e]
    · rw [if_neg e]
      by_cases e2 : p = q
      · rw [if_pos e2, if_pos e2, if_neg (by omega), if_pos rfl, sg_or]
      · rw [if_neg e2, if_neg e2, if_neg e, if_neg e2]
theorem xw_listCubeCodes (hS1 : 1 ≤ S) (hS : S ≤ 4) {post : SX → Prop} (h : post (xt P S T sg dr pe po im s0 tb vd us ic rc pc mc ln lh ls ar asn aa ao apt act acu aco aq apc af ad am)) : wpX_listCubeCodes post (nI S, nI (2 ^ P), nI (2 ^ S), nI (3 ^ S), nI T, nI im, nI s0, vd, us, ic, rc, pc, mc, ln, lh, ls, (fun _ => 0), (fun j => nI (sg j)), (fun j => nI (dr j)), (fun j => nI (pe j)), (fun j => nI (po j)), tb, ar, asn, aa, ao, apt, act, acu, aco, aq, apc, af, ad, am, 65536) := by
  have h81 := cu_81 hS
  have h16 := nt_pS hS
  rw [cu_w0 S]
  refine loop_0 (σ := Unit) (fun n q _ => wX_listCubeCodes_2 post (nI S) (nI (2 ^ P)) (nI (2 ^ S)) (nI (3 ^ S)) (nI T) (nI im) (nI s0) vd us ic rc pc mc ln lh ls 65536 n (nI q) (cu_w S q 0) (fun j => nI (sg j)) (fun j => nI (dr j)) (fun j => nI (pe j)) (fun j => nI (po j)) tb ar asn aa ao apt act acu aco aq apc af ad am) (fun _ _ => True) (3 ^ S) () trivial ?_ ?_
  · intro n _ _
    refine br_t (nI_le (Nat.le_refl _) (by omega)) ?_
    rw [cu_we]
    exact h
  · intro n q _ hq _ ih
    refine br_f (nI_ge hq (by omega)) ?_
    refine loop_0 (σ := Unit) (fun n' c _ => wX_listCubeCodes_12 post (wX_listCubeCodes_2 post (nI S) (nI (2 ^ P)) (nI (2 ^ S)) (nI (3 ^ S)) (nI T) (nI im) (nI s0) vd us ic rc pc mc ln lh ls 65536 n) (nI q) (nI S) (nI (2 ^ P)) (nI (2 ^ S)) (nI (3 ^ S)) (nI T) (nI im) (nI s0) vd us ic rc pc mc ln lh ls 65536 n' (nI c) (cu_w S q c) (fun j => nI (sg j)) (fun j => nI (dr j)) (fun j => nI (pe j)) (fun j => nI (po j)) tb ar asn aa ao apt act acu aco aq apc af ad am) (fun _ _ => True) (2 ^ S) () trivial ?_ ?_
    · intro n' _ _
      refine br_t (nI_le (Nat.le_refl _) (by omega)) ?_
      have hx := ih () trivial
      rw [← cu_wn] at hx
      exact nm_r (nI_1 q) hx
    · intro n' c _ hc _ ih'
      have hx := ih' () trivial
      obtain ⟨w1, w2⟩ := cu_ws (S := S) (q := q) (c := c)
      refine br_f (nI_ge hc (by omega)) (xw_cubeMeets hS (by omega) (bo_br (fun z => nm_r (nI_1 c) ?_) (fun z => ⟨vp_in_nI (by omega) (by decide), vp_in_nI (by omega) (by decide), ?_⟩)))
      · rw [w1 z] at hx
        exact hx
      · rw [nI_clamp (by omega), sg_s1 (by omega)]
        rw [w2 z] at hx
        exact nm_e (nm_r (nI_1 c) hx)
/-- no table given -/
def tb_k (k : Nat) : Nat → Int32 := fun j => if j < k then -1 else 0
theorem tb_s (k : Nat) : upd (tb_k k) k (-1) = tb_k (k + 1) := by
  funext j
  show (if j = k then -1 else tb_k k j) = tb_k (k + 1) j
  unfold tb_k
  by_cases e : j = k
  · rw [if_pos e, if_pos (by omega)]
  · rw [if_neg e]
    by_cases e2 : j < k
    · rw [if_pos e2, if_pos (by omega)]
    · rw [if_neg e2, if_neg (by omega)]
theorem tb_0 : (fun _ => (0 : Int32)) = tb_k 0 := by
  funext j
  unfold tb_k
  rw [if_neg (Nat.not_lt_zero j)]
theorem im_0 : (fun _ => (0 : Int32)) = (fun j => nI (Nat.testBit 0 j).toNat) := by
  funext j
  rw [Nat.zero_testBit]
  rfl
theorem i_vc0 (k0 : Int32) (k1 : Int32) : wpX_init (fun u => wpY_init (fun v => i_Rel 2 u v) k0 k1) k0 k1 := by
  obtain ⟨S, hS1, hS, cS⟩ := cl_A k1 1 4 (by omega) (by omega)
  obtain ⟨P, hP1, hP, cP⟩ := cl_A k0 2 6 (by omega) (by omega)
  have h16 := nt_pS hS
  have hpos : 0 < 2 ^ S := Nat.two_pow_pos S
  have K : nt_K P S 0 (fun _ => 0) (fun _ => 0) (fun _ => 0) (fun _ => 0) 0 16 := ⟨⟨hP1, hP⟩, ⟨hS1, hS⟩, by omega, fun t => ⟨by dsimp only; omega, Nat.zero_le _, (by decide : 0 < 64), (by decide : 0 < 64)⟩, by omega, by omega, hpos⟩
  have G : gt_T (tb_k 4) := fun i hi => Or.inl (if_pos hi)
  have V : ∀ rc ar asn aa ao apt act acu aco yr, re_V S 0 (fun _ => 0) (fun _ => 0) (fun _ => 0) (fun _ => 0) 0 16 0 rc ar asn aa ao apt act acu aco yr := fun _ _ _ _ _ _ _ _ _ _ => ⟨by omega, Or.inl rfl⟩
  refine ⟨by decide, nm_r (show (65536 : Int32).toNatClampNeg = 65536 from by decide +kernel) ⟨Nat.le_refl _, ?_⟩⟩
  have xS : ∀ A : Int32 → Prop, A (nI S) → wpX_clamp A k1 1 4 := cS
  have xP : ∀ A : Int32 → Prop, A (nI P) → wpX_clamp A k0 2 6 := cP
  refine xS _ ?_
  refine xP _ ?_
  refine nm_r (sg_s1 (s := P) (by omega)) ?_
  refine nm_r (sg_s1 (s := S) (by omega)) ?_
  refine xw_powerOfThree hS ?_
  show ∃ n215 : Nat, wX_init_215 _ (nI S) (nI (2 ^ P)) (nI (2 ^ S)) (nI (3 ^ S)) 0 0 ((1 : Int32) * 16 + 0) 0 0 0 0 0 0 0 0 0 65536 n215 0 (fun _ => 0) (fun _ => 0) (fun _ => 0) (fun _ => 0) (fun _ => 0) (fun _ => 0) (fun _ => 0) (fun _ => 0) (fun _ => 0) (fun _ => 0) (fun _ => 0) (fun _ => 0) (fun _ => 0) (fun _ => 0) (fun _ => 0) (fun _ => 0) (fun _ => 0) (fun _ => 0) (fun _ => 0)
  rw [show (1 : Int32) * 16 + 0 = nI 16 from by decide +kernel]
  have key := loop_0 (σ := Unit) (fun n i _ => wX_init_215 (fun u => wpY_init (fun v => i_Rel 2 u v) k0 k1) (nI S) (nI (2 ^ P)) (nI (2 ^ S)) (nI (3 ^ S)) 0 0 (nI 16) 0 0 0 0 0 0 0 0 0 65536 n (nI i) (fun _ => 0) (fun _ => 0) (fun _ => 0) (fun _ => 0) (fun _ => 0) (tb_k i) (fun _ => 0) (fun _ => 0) (fun _ => 0) (fun _ => 0) (fun _ => 0) (fun _ => 0) (fun _ => 0) (fun _ => 0) (fun _ => 0) (fun _ => 0) (fun _ => 0) (fun _ => 0) (fun _ => 0)) (fun _ _ => True) 4 () trivial ?_ ?_
  · obtain ⟨n, hn⟩ := key
    refine ⟨n, ?_⟩
    rw [← tb_0] at hn
    exact hn
  · intro n _ _
    refine br_t (nI_le (Nat.le_refl 4) (by decide)) ?_
    refine xw_listCubeCodes (T := 0) (sg := fun _ => 0) (dr := fun _ => 0) (pe := fun _ => 0) (po := fun _ => 0) (im := 0) (s0 := 16) hS1 hS ?_
    show wpY_init _ k0 k1
    refine cP (fun z => wY_init_142 (fun v => i_Rel 2 _ v) k1 z 0 0 1 0 0 0 0 0 0 (fun _ => 0) (fun _ => 0) (fun _ => 0) (fun _ => 0) (fun _ => 0) (fun _ => 0) (fun _ => 0) (fun _ => 0) (fun _ => 0) (fun _ => 0) (fun _ => 0) (fun _ => 0)) ?_
    refine cS (fun z => ∃ n170 : Nat, wY_init_170 (fun v => i_Rel 2 _ v) (nI P) z 1 0 0 0 0 0 0 n170 0 (fun _ => 0) (fun _ => 0) (fun _ => 0) (fun _ => 0) (fun _ => 0) (fun _ => 0) (fun _ => 0) (fun _ => 0) (fun _ => 0) (fun _ => 0) (fun _ => 0) (fun _ => 0)) ?_
    have key := loop_0 (σ := Unit) (fun n i _ => wY_init_170 (fun v => i_Rel 2 (xt P S 0 (fun _ => 0) (fun _ => 0) (fun _ => 0) (fun _ => 0) 0 16 (tb_k 4) 0 0 0 0 0 0 0 0 0 (fun _ => 0) (fun _ => 0) (fun _ => 0) (fun _ => 0) (fun _ => 0) (fun _ => 0) (fun _ => 0) (fun _ => 0) (fun _ => 0) (fun _ => 0) (fun _ => 0) (fun _ => 0) (fun _ => 0)) v) (nI P) (nI S) 1 0 0 0 0 0 0 n (nI i) (fun _ => 0) (fun _ => 0) (fun _ => 0) (fun _ => 0) (fun _ => 0) (tb_k i) (fun _ => 0) (fun _ => 0) (fun _ => 0) (fun _ => 0) (fun _ => 0) (fun _ => 0)) (fun _ _ => True) 4 () trivial ?_ ?_
    · obtain ⟨n, hn⟩ := key
      refine ⟨n, ?_⟩
      rw [← tb_0] at hn
      exact hn
    · intro n _ _
      refine br_t (nI_le (Nat.le_refl 4) (by decide)) ?_
      have hr := re_mk (k := 2) (d := 0) (us := 0) (ic := 0) (pc := 0) (mc := 0) (ln := 0) (lh := 0) (ls := 0) (aq := fun _ => 0) (apc := fun _ => 0) (af := fun _ => 0) (ad := fun _ => 0) (am := fun _ => 0) (pcy := 0) (cm := 0) (cc := 0) (ym := fun _ => 0) (yn := fun _ => 0) (yi := fun _ => 0) (yp := fun _ => 0) (yv := fun _ => 0) K G (V 0 (fun _ => 0) (fun _ => 0) (fun _ => 0) (fun _ => 0) (fun _ => 0) (fun _ => 0) (fun _ => 0) (fun _ => 0) (fun _ => 0))
      unfold yt at hr
      rw [← im_0] at hr
      exact hr
    · intro n i _ hi _ ih
      refine br_f (nI_ge hi (by decide)) ⟨vp_in_nI hi (by decide), ?_⟩
      rw [nI_clamp (by omega), tb_s]
      exact nm_e (nm_r (nI_1 i) (ih () trivial))
  · intro n i _ hi _ ih
    refine br_f (nI_ge hi (by decide)) ⟨vp_in_nI hi (by decide), ?_⟩
    rw [nI_clamp (by omega), tb_s]
    exact nm_e (nm_r (nI_1 i) (ih () trivial))
end
end
section
/-! the calls that change the net, and those that read -/
section
variable {P S T : Nat} {sg dr pe po : Nat → Nat} {im s0 : Nat} {tb : Nat → Int32}
variable {vd us ic rc pc mc ln lh ls cm cc : Int32} {ar asn aa ao apt act acu aco aq apc af ad am yr ym yn yi yp yv : Nat → Int32}
theorem rg_f {x : Int32} {n : Nat} (h : x < 0 ∨ nI n ≤ x) {A B : Prop} (a : A) : (x < 0 → A) ∧ (¬ x < 0 → ((x < nI n → B) ∧ (¬ x < nI n → A))) := by
  by_cases h0 : x < 0
  · exact br_t h0 a
  · rcases h with z | z
    · exact absurd z h0
    · exact br_f h0 (br_f (fun y => Int32.lt_irrefl (Int32.lt_of_lt_of_le y z)) a)
theorem rg_t {i n : Nat} (hi : i < n) (hn : n < 2 ^ 31) {A B : Prop} (b : B) : (nI i < 0 → A) ∧ (¬ nI i < 0 → ((nI i < nI n → B) ∧ (¬ nI i < nI n → A))) := br_f (nI_pos (by omega)) (br_t (nI_lt hi hn) b)
theorem rl_f {x : Int32} {n : Nat} (h : x < 0 ∨ nI n ≤ x) {A B : Prop} (a : A) : (x < 0 → A) ∧ (¬ x < 0 → ((nI n ≤ x → A) ∧ (¬ nI n ≤ x → B))) := by
  by_cases h0 : x < 0
  · exact br_t h0 a
  · rcases h with z | z
    · exact absurd z h0
    · exact br_f h0 (br_t z a)
theorem rl_t {i n : Nat} (hi : i < n) (hn : n < 2 ^ 31) {A B : Prop} (b : B) : (nI i < 0 → A) ∧ (¬ nI i < 0 → ((nI n ≤ nI i → A) ∧ (¬ nI n ≤ nI i → B))) := br_f (nI_pos (by omega)) (br_f (nI_ge hi hn) b)
theorem yw_inRange_t (K : nt_K P S T sg dr pe po im s0) {m c : Nat} (hm : m < 2 ^ P) (hc : c < 2 ^ S) {post : Int32 → Prop} (h : post 1) : wpY_inRange post (yt P S T sg dr pe po im s0 tb vd pc cm cc yr ym yn yi yp yv) (nI m) (nI c) := by
  have hp : 2 ^ P ≤ 2 ^ 6 := Nat.pow_le_pow_right (by decide) K.1.2
  have hs := nt_pS K.2.1.2
  have h1 := K.1.2
  have h2 := K.2.1.2
  unfold wpY_inRange yt
  dsimp only
  rw [sg_s1 (s := P) (by omega), sg_s1 (s := S) (by omega)]
  exact rl_t hm (by omega) (rl_t hc (by omega) h)
theorem yw_inRange_f (K : nt_K P S T sg dr pe po im s0) {x y : Int32} (hxy : (x < 0 ∨ nI (2 ^ P) ≤ x) ∨ (y < 0 ∨ nI (2 ^ S) ≤ y)) {post : Int32 → Prop} (h : post 0) : wpY_inRange post (yt P S T sg dr pe po im s0 tb vd pc cm cc yr ym yn yi yp yv) x y := by
  have hp : 2 ^ P ≤ 2 ^ 6 := Nat.pow_le_pow_right (by decide) K.1.2
  have hs := nt_pS K.2.1.2
  have h1 := K.1.2
  have h2 := K.2.1.2
  unfold wpY_inRange yt
  dsimp only
  rw [sg_s1 (s := P) (by omega), sg_s1 (s := S) (by omega)]
  rcases iv_ix x (n := 2 ^ P) (by omega) with ⟨m, hm, rfl⟩ | hx
  · refine rl_t hm (by omega) ?_
    rcases hxy with z | z
    · exfalso
      rcases z with z | z
      · exact nI_pos (by omega) z
      · exact nI_ge hm (by omega) z
    · exact rl_f z h
  · exact rl_f hx h
theorem i_vc_verdict {k : Nat} {u : SX} {v : SY} (I : i_Rel k u v) (hk : k + 5 ≤ 2562) : wpX_verdict (fun r => wpY_verdict (fun r' => r' = r ∧ i_Rel (k + 5) u v) v) u := by
  obtain ⟨P, S, T, sg, dr, pe, po, im, s0, tb, d, us, ic, rc, pc, mc, ln, lh, ls, ar, asn, aa, ao, apt, act, acu, aco, aq, apc, af, ad, am, pcy, cm, cc, yr, ym, yn, yi, yp, yv, rfl, rfl, K, G, V⟩ := I
  exact ⟨rfl, re_mk K G V⟩
theorem i_vc_states {k : Nat} {u : SX} {v : SY} (I : i_Rel k u v) (hk : k + 5 ≤ 2562) : wpX_states (fun r => wpY_states (fun r' => r' = r ∧ i_Rel (k + 5) u v) v) u := by
  obtain ⟨P, S, T, sg, dr, pe, po, im, s0, tb, d, us, ic, rc, pc, mc, ln, lh, ls, ar, asn, aa, ao, apt, act, acu, aco, aq, apc, af, ad, am, pcy, cm, cc, yr, ym, yn, yi, yp, yv, rfl, rfl, K, G, V⟩ := I
  have hd := V.1
  by_cases h0 : d = 0
  · subst h0
    exact br_t rfl (br_t rfl ⟨rfl, re_mk K G V⟩)
  · have hn : ¬ nI d = 0 := fun z => h0 ((iv_n0 (by omega)).mp z)
    rcases V.2 with z | ⟨R, r1, r2, r3, r4, r5, r6⟩
    · exact absurd z h0
    · refine br_f hn (yw_states K r3 hn ⟨r4.symm, re_mk K G V⟩)
theorem i_vc_isReachable {k : Nat} {u : SX} {v : SY} (I : i_Rel k u v) (hk : k + 5 ≤ 2562) (v1 : Int32) (v2 : Int32) : wpX_isReachable (fun r => wpY_isReachable (fun r' => r' = r ∧ i_Rel (k + 5) u v) v v1 v2) u v1 v2 := by
  obtain ⟨P, S, T, sg, dr, pe, po, im, s0, tb, d, us, ic, rc, pc, mc, ln, lh, ls, ar, asn, aa, ao, apt, act, acu, aco, aq, apc, af, ad, am, pcy, cm, cc, yr, ym, yn, yi, yp, yv, rfl, rfl, K, G, V⟩ := I
  have hd := V.1
  have hp : 2 ^ P ≤ 2 ^ 6 := Nat.pow_le_pow_right (by decide) K.1.2
  have hs := nt_pS K.2.1.2
  by_cases h0 : d = 0
  · subst h0
    exact br_t rfl (br_t rfl ⟨rfl, re_mk K G V⟩)
  · have hn : ¬ nI d = 0 := fun z => h0 ((iv_n0 (by omega)).mp z)
    rcases V.2 with z | ⟨R, r1, r2, r3, r4, r5, r6⟩
    · exact absurd z h0
    · refine br_f hn ?_
      rcases iv_ix v1 (n := 2 ^ P) (by omega) with ⟨m, hm, rfl⟩ | hx
      · refine xw_isMarking_t K.1.2 hm (br_f (by decide) ?_)
        rcases iv_ix v2 (n := 2 ^ S) (by omega) with ⟨c, hc, rfl⟩ | hy
        · refine xw_isCode_t K.2.1.2 hc (br_f (by decide) ?_)
          unfold wpX_stateOf
          dsimp only
          rw [iv_16, nI_clamp (by omega), r2 _ (by omega)]
          refine ⟨vp_in_nI (by omega) (by decide), bo_nar _, br_f hn (yw_inRange_t K hm hc (br_f (by decide) ?_))⟩
          rw [iv_16', nI_clamp (by omega), r3 _ (by omega), Nat.mul_comm 16 m]
          exact ⟨vp_in_nI (by omega) (by decide), bo_nar _, rfl, re_mk K G V⟩
        · exact xw_isCode_f hy (br_t rfl (br_f hn (yw_inRange_f K (Or.inr hy) (br_t rfl ⟨rfl, re_mk K G V⟩))))
      · exact xw_isMarking_f hx (br_t rfl (br_f hn (yw_inRange_f K (Or.inl hx) (br_t rfl ⟨rfl, re_mk K G V⟩))))
theorem i_vc_nextValue {k : Nat} {u : SX} {v : SY} (I : i_Rel k u v) (hk : k + 5 ≤ 2562) (v1 : Int32) (v2 : Int32) : wpX_nextValue (fun r => wpY_nextValue (fun r' => r' = r ∧ i_Rel (k + 5) u v) v v1 v2) u v1 v2 := by
  obtain ⟨P, S, T, sg, dr, pe, po, im, s0, tb, d, us, ic, rc, pc, mc, ln, lh, ls, ar, asn, aa, ao, apt, act, acu, aco, aq, apc, af, ad, am, pcy, cm, cc, yr, ym, yn, yi, yp, yv, rfl, rfl, K, G, V⟩ := I
  have hd := V.1
  have hS := K.2.1
  have hs := nt_pS K.2.1.2
  by_cases h0 : d = 0
  · subst h0
    exact br_t rfl (br_t rfl ⟨rfl, re_mk K G V⟩)
  · have hn : ¬ nI d = 0 := fun z => h0 ((iv_n0 (by omega)).mp z)
    rcases V.2 with z | ⟨R, r1, r2, r3, r4, r5, r6⟩
    · exact absurd z h0
    · refine br_f hn ?_
      rcases iv_ix v1 (n := S) (by omega) with ⟨i, hi, rfl⟩ | hx
      · have hY : ∀ A B : Prop, (im.testBit i = true → A) → (im.testBit i = false → B) → vp_in (nI i) 4 ∧ (((nI (im.testBit (nI i).toNatClampNeg).toNat = 0 → B) ∧ (¬ nI (im.testBit (nI i).toNatClampNeg).toNat = 0 → A))) := by
          intro A B a b
          rw [nI_clamp (by omega)]
          exact ⟨vp_in_nI (by omega) (by decide), bo_br b a⟩
        refine xw_isOutput hS.2 hi (bo_br (fun z => ?_) (fun z => ?_))
        · have z' : im.testBit i = true := by cases h : im.testBit i <;> rw [h] at z <;> first | rfl | exact absurd z (by simp)
          exact br_f hn (rg_t hi (by omega) (hY _ _ (fun _ => ⟨rfl, re_mk K G V⟩) (fun y => absurd (z'.symm.trans y) (by simp))))
        · have z' : im.testBit i = false := by cases h : im.testBit i <;> rw [h] at z <;> first | rfl | exact absurd z (by simp)
          rcases iv_ix v2 (n := 2 ^ S) (by omega) with ⟨c, hc, rfl⟩ | hy
          · refine xw_isCode_t hS.2 hc (br_f (by decide) (xw_nextOf K r5 (by omega) (by omega) (br_f hn (rg_t hi (by omega) (hY _ _ (fun y => absurd (z'.symm.trans y) (by simp)) (fun _ => ?_))))))
            rw [sg_s1 (s := S) (by omega)]
            exact rg_t hc (by omega) (yw_valueFor K r3 (by omega) (by omega) ⟨rfl, re_mk K G V⟩)
          · refine xw_isCode_f hy (br_t rfl (br_f hn (rg_t hi (by omega) (hY _ _ (fun y => absurd (z'.symm.trans y) (by simp)) (fun _ => ?_)))))
            rw [sg_s1 (s := S) (by omega)]
            exact rg_f hy ⟨rfl, re_mk K G V⟩
      · exact xw_isOutput_f hx (br_t rfl (br_f hn (rg_f hx ⟨rfl, re_mk K G V⟩)))
theorem i_vc_conflict {k : Nat} {u : SX} {v : SY} (I : i_Rel k u v) (hk : k + 5 ≤ 2562) : wpX_conflict (fun r => wpY_conflict (fun r' => r' = r ∧ i_Rel (k + 5) u v) v) u := by
  obtain ⟨P, S, T, sg, dr, pe, po, im, s0, tb, d, us, ic, rc, pc, mc, ln, lh, ls, ar, asn, aa, ao, apt, act, acu, aco, aq, apc, af, ad, am, pcy, cm, cc, yr, ym, yn, yi, yp, yv, rfl, rfl, K, G, V⟩ := I
  have hd := V.1
  by_cases h0 : d = 0
  · subst h0
    exact br_t rfl (br_t rfl ⟨rfl, re_mk K G V⟩)
  · have hn : ¬ nI d = 0 := fun z => h0 ((iv_n0 (by omega)).mp z)
    rcases V.2 with z | ⟨R, r1, r2, r3, r4, r5, r6⟩
    · exact absurd z h0
    · exact br_f hn (xw_leastConflict K r5 (fun r hr => br_f hn (yw_leastConflict K r3 (fun r' hr' => ⟨ls_uniq hr' hr, re_mk K G V⟩))))
theorem i_vc_setStart {k : Nat} {u : SX} {v : SY} (I : i_Rel k u v) (hk : k + 5 ≤ 2562) (v1 : Int32) (v2 : Int32) : wpX_setStart (fun r u' => wpY_setStart (fun r' v' => r' = r ∧ i_Rel (k + 5) u' v') v v1 v2) u v1 v2 := by
  obtain ⟨P, S, T, sg, dr, pe, po, im, s0, tb, d, us, ic, rc, pc, mc, ln, lh, ls, ar, asn, aa, ao, apt, act, acu, aco, aq, apc, af, ad, am, pcy, cm, cc, yr, ym, yn, yi, yp, yv, rfl, rfl, K, G, V⟩ := I
  have hp : 2 ^ P ≤ 2 ^ 6 := Nat.pow_le_pow_right (by decide) K.1.2
  have hs := nt_pS K.2.1.2
  rcases iv_ix v1 (n := 2 ^ P) (by omega) with ⟨m, hm, rfl⟩ | hx
  · rcases iv_ix v2 (n := 2 ^ S) (by omega) with ⟨c, hc, rfl⟩ | hy
    · obtain ⟨s, hs2, rfl, rfl⟩ : ∃ s, s < 1024 ∧ m = s / 16 ∧ c = s % 16 := ⟨m * 16 + c, by omega, by omega, by omega⟩
      have e : nI (s / 16) * 16 + nI (s % 16) = nI s := by
        rw [iv_16]
        congr 1
        omega
      have K' : nt_K P S T sg dr pe po im s := ⟨K.1, K.2.1, K.2.2.1, K.2.2.2.1, K.2.2.2.2.1, hs2, hc⟩
      unfold wpX_setStart wpY_setStart xt yt wpX_stateOf
      dsimp only
      rw [e]
      exact xw_isMarking_t K.1.2 hm (br_f (by decide) (xw_isCode_t K.2.1.2 hc (br_f (by decide) (yw_inRange_t K hm hc (br_f (by decide) ⟨rfl, re_mk (d := 0) (rc := rc) (ar := ar) (asn := asn) (aa := aa) (ao := ao) (apt := apt) (act := act) (acu := acu) (aco := aco) (yr := yr) K' G ⟨by omega, Or.inl rfl⟩⟩)))))
    · unfold wpX_setStart wpY_setStart xt yt
      dsimp only
      exact xw_isMarking_t K.1.2 hm (br_f (by decide) (xw_isCode_f hy (br_t rfl (yw_inRange_f K (Or.inr hy) (br_t rfl ⟨rfl, re_mk K G V⟩)))))
  · unfold wpX_setStart wpY_setStart xt yt
    dsimp only
    exact xw_isMarking_f hx (br_t rfl (yw_inRange_f K (Or.inl hx) (br_t rfl ⟨rfl, re_mk K G V⟩)))
theorem i_vc_setInput {k : Nat} {u : SX} {v : SY} (I : i_Rel k u v) (hk : k + 5 ≤ 2562) (v1 : Int32) (v2 : Int32) : wpX_setInput (fun r u' => wpY_setInput (fun r' v' => r' = r ∧ i_Rel (k + 5) u' v') v v1 (lw_bz v2)) u v1 (lw_bz v2) := by
  obtain ⟨P, S, T, sg, dr, pe, po, im, s0, tb, d, us, ic, rc, pc, mc, ln, lh, ls, ar, asn, aa, ao, apt, act, acu, aco, aq, apc, af, ad, am, pcy, cm, cc, yr, ym, yn, yi, yp, yv, rfl, rfl, K, G, V⟩ := I
  have hS := K.2.1
  have him := K.2.2.2.2.1
  rcases iv_ix v1 (n := S) (by omega) with ⟨i, hi, rfl⟩ | hx
  · have hv : vp_in (nI i) 4 := vp_in_nI (by omega) (by decide)
    have h16 : 2 ^ i < 2 ^ 4 := Nat.pow_lt_pow_right (by decide) (by omega)
    have V0 : re_V S T sg dr pe po im s0 0 rc ar asn aa ao apt act acu aco yr := ⟨by omega, Or.inl rfl⟩
    unfold wpX_setInput wpY_setInput xt yt
    dsimp only
    rw [nI_clamp (by omega), sg_s1 (s := i) (by omega), sg_andn, sg_or]
    rcases lw_bz_01 v2 with e | e
    · have K' : nt_K P S T sg dr pe po (sg_an im (2 ^ i)) s0 := ⟨K.1, K.2.1, K.2.2.1, K.2.2.2.1, Nat.lt_of_le_of_lt (sg_an_le _ _) him, K.2.2.2.2.2⟩
      rw [e]
      refine xw_isSignal_t hS.2 hi (br_f (by decide) (br_t rfl (nm_e (rg_t hi (by omega) ⟨hv, nm_r (e' := fun j => nI ((sg_an im (2 ^ i)).testBit j).toNat) ?_ ⟨rfl, re_mk (d := 0) (rc := rc) (ar := ar) (asn := asn) (aa := aa) (ao := ao) (apt := apt) (act := act) (acu := acu) (aco := aco) (yr := yr) K' G ⟨by omega, Or.inl rfl⟩⟩⟩))))
      rw [show vp_nar .boolean 0 = nI false.toNat from bo_vn false]
      refine iv_upb im i false _ (fun j => ?_)
      rw [sg_anb, Nat.testBit_two_pow]
      by_cases ej : j = i
      · rw [if_pos ej, decide_eq_true (show i = j from ej.symm)]; simp
      · rw [if_neg ej, decide_eq_false (show ¬ i = j from fun y => ej y.symm)]; simp
    · have K' : nt_K P S T sg dr pe po (im ||| 2 ^ i) s0 := ⟨K.1, K.2.1, K.2.2.1, K.2.2.2.1, Nat.or_lt_two_pow (n := 4) him h16, K.2.2.2.2.2⟩
      rw [e]
      refine xw_isSignal_t hS.2 hi (br_f (by decide) (br_f (by decide) (nm_e (rg_t hi (by omega) ⟨hv, nm_r (e' := fun j => nI ((im ||| 2 ^ i).testBit j).toNat) ?_ ⟨rfl, re_mk (d := 0) (rc := rc) (ar := ar) (asn := asn) (aa := aa) (ao := ao) (apt := apt) (act := act) (acu := acu) (aco := aco) (yr := yr) K' G ⟨by omega, Or.inl rfl⟩⟩⟩))))
      rw [show vp_nar .boolean 1 = nI true.toNat from bo_vn true]
      refine iv_upb im i true _ (fun j => ?_)
      rw [Nat.testBit_or, Nat.testBit_two_pow]
      by_cases ej : j = i
      · rw [if_pos ej, decide_eq_true (show i = j from ej.symm)]; simp
      · rw [if_neg ej, decide_eq_false (show ¬ i = j from fun y => ej y.symm)]; simp
  · unfold wpX_setInput wpY_setInput xt yt
    dsimp only
    exact xw_isSignal_f hx (br_t rfl (rg_f hx ⟨rfl, re_mk K G V⟩))
theorem iv_m1 {x : Int32} (h1 : ¬ x < -1) (h2 : x ≤ 65535) : x = -1 ∨ ∃ n, n < 65536 ∧ x = nI n := by
  by_cases h0 : x < 0
  · left
    rw [Int32.lt_iff_toInt_lt] at h1 h0
    have e1 : (-1 : Int32).toInt = -1 := by decide
    have e0 : (0 : Int32).toInt = 0 := by decide
    apply Int32.toInt_inj.mp
    omega
  · right
    obtain ⟨j, hj, e⟩ := nI_of2 (n := 65535) (M := 65535) (by decide) h0 h2
    exact ⟨j, by omega, e⟩
theorem i_vc_setGate {k : Nat} {u : SX} {v : SY} (I : i_Rel k u v) (hk : k + 5 ≤ 2562) (v1 : Int32) (v2 : Int32) : wpX_setGate (fun r u' => wpY_setGate (fun r' v' => r' = r ∧ i_Rel (k + 5) u' v') v v1 v2) u v1 v2 := by
  obtain ⟨P, S, T, sg, dr, pe, po, im, s0, tb, d, us, ic, rc, pc, mc, ln, lh, ls, ar, asn, aa, ao, apt, act, acu, aco, aq, apc, af, ad, am, pcy, cm, cc, yr, ym, yn, yi, yp, yv, rfl, rfl, K, G, V⟩ := I
  have hS := K.2.1
  unfold wpX_setGate wpY_setGate xt yt
  dsimp only
  rcases iv_ix v1 (n := S) (by omega) with ⟨i, hi, rfl⟩ | hx
  · have hv : vp_in (nI i) 4 := vp_in_nI (by omega) (by decide)
    rw [nI_clamp (by omega)]
    refine xw_isOutput hS.2 hi (bo_br (fun z => ?_) (fun z => ?_))
    · have z' : im.testBit i = true := by cases h : im.testBit i <;> rw [h] at z <;> first | rfl | exact absurd z (by simp)
      exact rl_t hi (by omega) ⟨hv, bo_br (fun y => absurd (z'.symm.trans y) (by simp)) (fun _ => ⟨rfl, re_mk K G V⟩)⟩
    · have z' : im.testBit i = false := by cases h : im.testBit i <;> rw [h] at z <;> first | rfl | exact absurd z (by simp)
      by_cases h1 : v2 < -1
      · exact br_t h1 (rl_t hi (by omega) ⟨hv, bo_br (fun _ => br_t h1 ⟨rfl, re_mk K G V⟩) (fun y => absurd (z'.symm.trans y) (by simp))⟩)
      · by_cases h2 : v2 ≤ 65535
        · have G' : gt_T (upd tb i v2) := by
            intro j hj
            by_cases e : j = i
            · subst e; rw [pk_us]; exact iv_m1 h1 h2
            · rw [pk_un e]; exact G j hj
          exact br_f h1 (br_t h2 ⟨hv, nm_e (rl_t hi (by omega) ⟨hv, bo_br (fun _ => br_f h1 (br_t h2 ⟨hv, nm_e ⟨rfl, re_mk K G' V⟩⟩)) (fun y => absurd (z'.symm.trans y) (by simp))⟩)⟩)
        · exact br_f h1 (br_f h2 (rl_t hi (by omega) ⟨hv, bo_br (fun _ => br_f h1 (br_f h2 ⟨rfl, re_mk K G V⟩)) (fun y => absurd (z'.symm.trans y) (by simp))⟩))
  · exact xw_isOutput_f hx (br_t rfl (rl_f hx ⟨rfl, re_mk K G V⟩))
end
end
section
/-! addTransition, explore -/
section
variable {P S T : Nat} {sg dr pe po : Nat → Nat} {im s0 : Nat} {tb : Nat → Int32}
variable {vd us ic rc pc mc ln lh ls cm cc : Int32} {ar asn aa ao apt act acu aco aq apc af ad am yr ym yn yi yp yv : Nat → Int32}
/-- the arguments of a transition that is taken -/
def ad_G (P S : Nat) (v1 v2 v3 v4 : Int32) : Prop := ∃ i d p q, i < S ∧ d < 2 ∧ (1 ≤ p ∧ p < 2 ^ P) ∧ (1 ≤ q ∧ q < 2 ^ P) ∧ v1 = nI i ∧ v2 = nI d ∧ v3 = nI p ∧ v4 = nI q
theorem iv_01 {x : Int32} (h1 : ¬ x < 0) (h2 : x ≤ 1) : ∃ d, d < 2 ∧ x = nI d := by
  obtain ⟨j, hj, e⟩ := nI_of2 (n := 1) (M := 1) (by decide) h1 h2
  exact ⟨j, by omega, e⟩
theorem xw_addBad (K : nt_K P S T sg dr pe po im s0) (hT : T < 12) {v1 v2 v3 v4 : Int32} (hb : ¬ ad_G P S v1 v2 v3 v4) {post : Int32 → SX → Prop} (h : post (-1) (xt P S T sg dr pe po im s0 tb vd us ic rc pc mc ln lh ls ar asn aa ao apt act acu aco aq apc af ad am)) : wpX_addTransition post (xt P S T sg dr pe po im s0 tb vd us ic rc pc mc ln lh ls ar asn aa ao apt act acu aco aq apc af ad am) v1 v2 v3 v4 := by
  have hp : 2 ^ P ≤ 2 ^ 6 := Nat.pow_le_pow_right (by decide) K.1.2
  have hS := K.2.1
  refine br_t (nI_lt (b := 12) hT (by decide)) ?_
  rcases iv_ix v1 (n := S) (by omega) with ⟨i, hi, rfl⟩ | hx
  · refine xw_isSignal_t hS.2 hi (br_f (by decide) ?_)
    by_cases h1 : v2 < 0
    · exact br_t h1 h
    · refine br_f h1 ?_
      by_cases h2 : v2 ≤ 1
      · refine br_t h2 ?_
        by_cases h3 : v3 = 0
        · exact br_t h3 h
        · refine br_f h3 ?_
          by_cases h4 : v4 = 0
          · exact br_t h4 h
          · refine br_f h4 ?_
            rcases iv_ix v3 (n := 2 ^ P) (by omega) with ⟨p, hp3, rfl⟩ | hx3
            · refine xw_isMarking_t K.1.2 hp3 (br_f (by decide) ?_)
              rcases iv_ix v4 (n := 2 ^ P) (by omega) with ⟨q, hp4, rfl⟩ | hx4
              · exfalso
                obtain ⟨d, hd, e⟩ := iv_01 h1 h2
                have a3 : p ≠ 0 := by intro z; subst z; exact h3 rfl
                have a4 : q ≠ 0 := by intro z; subst z; exact h4 rfl
                exact hb ⟨i, d, p, q, hi, hd, ⟨by omega, hp3⟩, ⟨by omega, hp4⟩, rfl, e, rfl, rfl⟩
              · exact xw_isMarking_f hx4 (br_t rfl h)
            · exact xw_isMarking_f hx3 (br_t rfl h)
      · exact br_f h2 h
  · exact xw_isSignal_f hx (br_t rfl h)
theorem iv_lt1 {x : Int32} (h : ¬ x < 1) : ¬ x < 0 ∧ ¬ x = 0 := by
  rw [Int32.lt_iff_toInt_lt] at h
  have e1 : (1 : Int32).toInt = 1 := by decide
  have e0 : (0 : Int32).toInt = 0 := by decide
  refine ⟨fun z => ?_, fun z => ?_⟩
  · rw [Int32.lt_iff_toInt_lt] at z
    omega
  · rw [z] at h
    omega
theorem yw_ad47 (K : nt_K P S T sg dr pe po im s0) {v1 v2 v3 v4 : Int32} {post : Int32 → SY → Prop} (hb : ¬ (∃ p q, (1 ≤ p ∧ p < 2 ^ P) ∧ (1 ≤ q ∧ q < 2 ^ P) ∧ v3 = nI p ∧ v4 = nI q)) (h : post (-1) (yt P S T sg dr pe po im s0 tb vd pc cm cc yr ym yn yi yp yv)) : wY_addTransition_47 post v1 v2 v3 v4 (nI (2 ^ P - 1)) (nI P) (nI S) (nI (s0 / 16)) (nI (s0 % 16)) (nI T) vd pc cm cc (fun j => nI (sg j)) (fun j => nI (dr j)) (fun j => nI (pe j)) (fun j => nI (po j)) (fun j => nI (im.testBit j).toNat) tb yr ym yn yi yp yv := by
  have hp : 2 ^ P ≤ 2 ^ 6 := Nat.pow_le_pow_right (by decide) K.1.2
  have hp0 : 0 < 2 ^ P := Nat.two_pow_pos P
  by_cases h1 : v3 < 1
  · exact br_t h1 h
  · refine br_f h1 ?_
    by_cases h2 : nI (2 ^ P - 1) < v3
    · exact br_t h2 h
    · refine br_f h2 ?_
      by_cases h3 : v4 < 1
      · exact br_t h3 h
      · refine br_f h3 ?_
        by_cases h4 : v4 ≤ nI (2 ^ P - 1)
        · exfalso
          obtain ⟨a1, a2⟩ := iv_lt1 h1
          obtain ⟨b1, b2⟩ := iv_lt1 h3
          obtain ⟨p, hp1, rfl⟩ := nI_of a1
          obtain ⟨q, hq1, rfl⟩ := nI_of b1
          rw [nI_ltI (by omega) hp1] at h2
          rw [nI_leI hq1 (by omega)] at h4
          rw [iv_n0 hp1] at a2
          rw [iv_n0 hq1] at b2
          exact hb ⟨p, q, ⟨by omega, by omega⟩, ⟨by omega, by omega⟩, rfl, rfl⟩
        · exact br_f h4 h
theorem yw_addBad (K : nt_K P S T sg dr pe po im s0) (hT : T < 12) {v1 v2 v3 v4 : Int32} (hb : ¬ ad_G P S v1 v2 v3 v4) {post : Int32 → SY → Prop} (h : post (-1) (yt P S T sg dr pe po im s0 tb vd pc cm cc yr ym yn yi yp yv)) : wpY_addTransition post (yt P S T sg dr pe po im s0 tb vd pc cm cc yr ym yn yi yp yv) v1 v2 v3 v4 := by
  have hp : 2 ^ P ≤ 2 ^ 6 := Nat.pow_le_pow_right (by decide) K.1.2
  have hp0 : 0 < 2 ^ P := Nat.two_pow_pos P
  have hP := K.1.2
  have hS := K.2.1
  have e : ((1 : Int32) <<< (nI P &&& 31)) - 1 = nI (2 ^ P - 1) := by
    rw [sg_s1 (by omega)]
    exact pk_sub (b := 1) (by omega)
  refine br_f (fun z => ?_) (nm_r e ?_)
  · have := (nI_eq (b := 12) (by omega) (by omega)).mp z
    omega
  · rcases iv_ix v1 (n := S) (by omega) with ⟨i, hi, rfl⟩ | hx
    · refine rg_t hi (by omega) ?_
      have h47 : ∀ d, d < 2 → v2 = nI d → wY_addTransition_47 post (nI i) v2 v3 v4 (nI (2 ^ P - 1)) (nI P) (nI S) (nI (s0 / 16)) (nI (s0 % 16)) (nI T) vd pc cm cc (fun j => nI (sg j)) (fun j => nI (dr j)) (fun j => nI (pe j)) (fun j => nI (po j)) (fun j => nI (im.testBit j).toNat) tb yr ym yn yi yp yv := by
        intro d hd ed
        refine yw_ad47 K (fun ⟨p, q, a, b, c, f⟩ => hb ⟨i, d, p, q, hi, hd, a, b, rfl, ed, c, f⟩) h
      by_cases h0 : v2 = 0
      · exact br_t h0 (h47 0 (by omega) h0)
      · refine br_f h0 ?_
        by_cases h1 : v2 = 1
        · exact br_t h1 (h47 1 (by omega) h1)
        · exact br_f h1 h
    · exact rg_f hx h
theorem iv_e01 {e : Nat} (he : e < 2) {A B : Prop} (a : A) : (nI e = 0 → A) ∧ (¬ nI e = 0 → ((nI e = 1 → A) ∧ (¬ nI e = 1 → B))) := by
  have : e = 0 ∨ e = 1 := by omega
  rcases this with rfl | rfl
  · exact br_t rfl a
  · exact br_f (by decide) (br_t rfl a)
theorem i_vc_addTransition {k : Nat} {u : SX} {v : SY} (I : i_Rel k u v) (hk : k + 5 ≤ 2562) (v1 : Int32) (v2 : Int32) (v3 : Int32) (v4 : Int32) : wpX_addTransition (fun r u' => wpY_addTransition (fun r' v' => r' = r ∧ i_Rel (k + 5) u' v') v v1 v2 v3 v4) u v1 v2 v3 v4 := by
  obtain ⟨P, S, T, sg, dr, pe, po, im, s0, tb, d, us, ic, rc, pc, mc, ln, lh, ls, ar, asn, aa, ao, apt, act, acu, aco, aq, apc, af, ad, am, pcy, cm, cc, yr, ym, yn, yi, yp, yv, rfl, rfl, K, G, V⟩ := I
  have hT := K.2.2.1
  have hS := K.2.1
  have hP := K.1.2
  have hp : 2 ^ P ≤ 2 ^ 6 := Nat.pow_le_pow_right (by decide) K.1.2
  have hp0 : 0 < 2 ^ P := Nat.two_pow_pos P
  by_cases h12 : T = 12
  · subst h12
    exact br_f (nI_nlt (b := 12) (Nat.le_refl _) (by decide)) (br_t rfl ⟨rfl, re_mk K G V⟩)
  · by_cases hg : ad_G P S v1 v2 v3 v4
    · obtain ⟨i, e, p, q, hi, he, ⟨hp1, hp2⟩, ⟨hq1, hq2⟩, rfl, rfl, rfl, rfl⟩ := hg
      have hv : vp_in (nI T) 12 := vp_in_nI (by omega) (by decide)
      have et : ((1 : Int32) <<< (nI P &&& 31)) - 1 = nI (2 ^ P - 1) := by
        rw [sg_s1 (by omega)]
        exact pk_sub (b := 1) (by omega)
      have K' : nt_K P S (T + 1) (fun j => if j = T then i else sg j) (fun j => if j = T then e else dr j) (fun j => if j = T then p else pe j) (fun j => if j = T then q else po j) im s0 := by
        refine ⟨K.1, K.2.1, by omega, fun t => ?_, K.2.2.2.2⟩
        have hB := K.2.2.2.1 t
        dsimp only
        by_cases et : t = T
        · rw [if_pos et, if_pos et, if_pos et, if_pos et]
          exact ⟨hi, by omega, by omega, by omega⟩
        · rw [if_neg et, if_neg et, if_neg et, if_neg et]
          exact hB
      unfold wpX_addTransition wpY_addTransition wY_addTransition_47 xt yt
      dsimp only
      rw [nI_clamp (by omega), iv_up, iv_up, iv_up, iv_up]
      refine br_t (nI_lt (b := 12) (by omega) (by decide)) ?_
      refine xw_isSignal_t hS.2 hi ?_
      refine br_f (by decide) (br_f (nI_pos (by omega)) (br_t (nI_le (b := 1) (by omega) (by decide)) (br_f (nI_ne0 (by omega) (by omega)) (br_f (nI_ne0 (by omega) (by omega)) ?_))))
      refine xw_isMarking_t hP hp2 ?_
      refine br_f (by decide) ?_
      refine xw_isMarking_t hP hq2 ?_
      refine br_f (by decide) ⟨hv, nm_e ⟨hv, nm_e ⟨hv, nm_e ⟨hv, nm_e (nm_r (nI_1 T) ?_)⟩⟩⟩⟩
      refine br_f (fun z => h12 ((nI_eq (b := 12) (by omega) (by omega)).mp z)) (nm_r et (rg_t hi (by omega) ?_))
      refine iv_e01 he ?_
      refine br_f (nI_nlt (b := 1) hp1 (by omega)) (br_f (nI_nlt (a := 2 ^ P - 1) (b := p) (by omega) (by omega)) (br_f (nI_nlt (b := 1) hq1 (by omega)) (br_t (nI_le (a := q) (b := 2 ^ P - 1) (by omega) (by omega)) ?_)))
      exact ⟨hv, nm_e ⟨hv, nm_e ⟨hv, nm_e ⟨hv, nm_e (nm_r (nI_1 T) ⟨nI_pred T, re_mk (d := 0) (k := k + 5) (us := us) (ic := ic) (rc := rc) (pc := pc) (mc := mc) (ln := ln) (lh := lh) (ls := ls) (ar := ar) (asn := asn) (aa := aa) (ao := ao) (apt := apt) (act := act) (acu := acu) (aco := aco) (aq := aq) (apc := apc) (af := af) (ad := ad) (am := am) (pcy := pcy) (cm := cm) (cc := cc) (yr := yr) (ym := ym) (yn := yn) (yi := yi) (yp := yp) (yv := yv) K' G ⟨by omega, Or.inl rfl⟩⟩)⟩⟩⟩⟩
    · exact xw_addBad K (by omega) hg (yw_addBad K (by omega) hg ⟨rfl, re_mk K G V⟩)
theorem nt_J_lt (S T : Nat) (sg dr pe po : Nat → Nat) (im : Nat) (R : Nat → Bool) : nt_J S T sg dr pe po im R < 5 ∧ nt_J S T sg dr pe po im R ≠ 0 := by
  unfold nt_J
  split
  · omega
  · split
    · omega
    · split <;> omega
theorem nt_J_cong {R Q : Nat → Bool} (hS : S ≤ 4) (h : ∀ s, s < 1024 → R s = Q s) : nt_J S T sg dr pe po im R = nt_J S T sg dr pe po im Q := by
  have e : ex_n (cf_f S im.testBit (nt_v T sg dr pe po R)) (16 * S) = ex_n (cf_f S im.testBit (nt_v T sg dr pe po Q)) (16 * S) := ex_congr (fun k hk => by
    unfold cf_f
    rw [nt_v_cong h (Nat.mod_lt _ (by decide))])
  unfold nt_J
  rw [nt_U_cong h, nt_I_cong h, e]
theorem i_vc_explore {k : Nat} {u : SX} {v : SY} (I : i_Rel k u v) (hk : k + 5 ≤ 2562) : wpX_explore (fun r u' => wpY_explore (fun r' v' => r' = r ∧ i_Rel (k + 5) u' v') v) u := by
  obtain ⟨P, S, T, sg, dr, pe, po, im, s0, tb, d, us, ic, rc, pc, mc, ln, lh, ls, ar, asn, aa, ao, apt, act, acu, aco, aq, apc, af, ad, am, pcy, cm, cc, yr, ym, yn, yi, yp, yv, rfl, rfl, K, G, V⟩ := I
  have hd := V.1
  have hS := K.2.1
  by_cases h0 : d = 0
  · subst h0
    refine br_t rfl (xw_walkNet K (fun R ar' aq' a1 a2 => xw_noteExcitement K a1 (fun asn' aa' ao' b1 => xw_judge K b1 ?_)))
    obtain ⟨j1, j2⟩ := nt_J_lt S T sg dr pe po im R
    by_cases hj : nt_J S T sg dr pe po im R = 1
    · refine br_t (by rw [hj]; rfl) (xw_synthesise K b1 (fun pc' apt' act' acu' aco' apc' af' c1 => yw_explore K (fun Q yr' q1 q2 => ?_)))
      have e := rc_uniq q2 a2
      rw [nt_J_cong hS.2 e]
      exact ⟨rfl, re_mk K G ⟨j1, Or.inr ⟨R, a2, a1, fun s hs => by rw [q1 s hs, e s hs], rfl, b1, fun _ => c1⟩⟩⟩
    · refine br_f (fun z => hj ((nI_eq (b := 1) (by omega) (by omega)).mp z)) (yw_explore K (fun Q yr' q1 q2 => ?_))
      have e := rc_uniq q2 a2
      rw [nt_J_cong hS.2 e]
      exact ⟨rfl, re_mk K G ⟨j1, Or.inr ⟨R, a2, a1, fun s hs => by rw [q1 s hs, e s hs], rfl, b1, fun z => absurd z hj⟩⟩⟩
  · have hn : ¬ nI d = 0 := fun z => h0 ((iv_n0 (by omega)).mp z)
    exact br_f hn (br_f hn ⟨rfl, re_mk K G V⟩)
end
end
section
/-! primes, coverSize, coverCube, gate -/
section
variable {P S T : Nat} {sg dr pe po : Nat → Nat} {im s0 : Nat} {tb : Nat → Int32}
variable {vd us ic rc pc mc ln lh ls cm cc : Int32} {ar asn aa ao apt act acu aco aq apc af ad am yr ym yn yi yp yv : Nat → Int32}
theorem xw_hasCover_t (hS : S ≤ 4) {i : Nat} (hi : i < S) (hm : im.testBit i = false) {post : Int32 → Prop} (h : post 1) : wpX_hasCover post (xt P S T sg dr pe po im s0 tb (nI 1) us ic rc pc mc ln lh ls ar asn aa ao apt act acu aco aq apc af ad am) (nI i) := by
  refine br_t rfl (xw_isOutput hS hi (bo_br (fun z => ?_) (fun _ => h)))
  rw [hm] at z
  exact absurd z (by simp)
theorem xw_hasCover_f (hS : S ≤ 4) {d : Nat} (hd : d < 5) {x : Int32} (hb : ¬ (d = 1 ∧ ∃ i, i < S ∧ x = nI i ∧ im.testBit i = false)) {post : Int32 → Prop} (h : post 0) : wpX_hasCover post (xt P S T sg dr pe po im s0 tb (nI d) us ic rc pc mc ln lh ls ar asn aa ao apt act acu aco aq apc af ad am) x := by
  by_cases h1 : d = 1
  · subst h1
    refine br_t rfl ?_
    rcases iv_ix x (n := S) (by omega) with ⟨i, hi, rfl⟩ | hx
    · refine xw_isOutput hS hi (bo_br (fun _ => h) (fun z => ?_))
      exfalso
      refine hb ⟨rfl, i, hi, rfl, ?_⟩
      cases hm : im.testBit i
      · rfl
      · rw [hm] at z
        exact absurd z (by simp)
    · exact xw_isOutput_f hx (br_t rfl h)
  · exact br_f (fun z => h1 ((nI_eq (b := 1) (by omega) (by omega)).mp z)) h
theorem yw_isGood_t (hS : S ≤ 4) {i : Nat} (hi : i < S) (hm : im.testBit i = false) {post : Int32 → Prop} (h : post 1) : wpY_isGood post (yt P S T sg dr pe po im s0 tb (nI 1) pc cm cc yr ym yn yi yp yv) (nI i) := by
  refine br_t rfl (rl_t hi (by omega) ⟨vp_in_nI (by omega) (by decide), ?_⟩)
  try dsimp only
  rw [nI_clamp (by omega), hm]
  exact br_t rfl h
theorem yw_isGood_f (hS : S ≤ 4) {d : Nat} (hd : d < 5) {x : Int32} (hb : ¬ (d = 1 ∧ ∃ i, i < S ∧ x = nI i ∧ im.testBit i = false)) {post : Int32 → Prop} (h : post 0) : wpY_isGood post (yt P S T sg dr pe po im s0 tb (nI d) pc cm cc yr ym yn yi yp yv) x := by
  by_cases h1 : d = 1
  · subst h1
    refine br_t rfl ?_
    rcases iv_ix x (n := S) (by omega) with ⟨i, hi, rfl⟩ | hx
    · refine rl_t hi (by omega) ⟨vp_in_nI (by omega) (by decide), ?_⟩
      try dsimp only
      rw [nI_clamp (by omega)]
      exact bo_br (fun z => absurd ⟨rfl, i, hi, rfl, z⟩ hb) (fun _ => h)
    · exact rl_f hx h
  · exact br_f (fun z => h1 ((nI_eq (b := 1) (by omega) (by omega)).mp z)) h
theorem i_vc_primes {k : Nat} {u : SX} {v : SY} (I : i_Rel k u v) (hk : k + 5 ≤ 2562) (v1 : Int32) : wpX_primes (fun r => wpY_primes (fun r' v' => r' = r ∧ i_Rel (k + 5) u v') v v1) u v1 := by
  obtain ⟨P, S, T, sg, dr, pe, po, im, s0, tb, d, us, ic, rc, pc, mc, ln, lh, ls, ar, asn, aa, ao, apt, act, acu, aco, aq, apc, af, ad, am, pcy, cm, cc, yr, ym, yn, yi, yp, yv, rfl, rfl, K, G, V⟩ := I
  have hS := K.2.1
  by_cases hg : d = 1 ∧ ∃ i, i < S ∧ v1 = nI i ∧ im.testBit i = false
  · obtain ⟨rfl, i, hi, rfl, hm⟩ := hg
    rcases V.2 with z | ⟨R, r1, r2, r3, r4, r5, r6⟩
    · exact absurd z (by decide)
    · obtain ⟨x1, n, M, Cc, x2, x3, x4, x5, x6, x7, x8⟩ := r6 rfl i hi hm
      unfold wpX_primes xt
      dsimp only
      refine xw_hasCover_t hS.2 hi hm (br_f (by decide) ⟨vp_in_nI (by omega) (by decide), ?_⟩)
      rw [nI_clamp (by omega), x1]
      unfold wpY_primes yt
      dsimp only
      exact yw_isGood_t hS.2 hi hm (br_f (by decide) (yw_findPrimes K r3 (by omega) (fun yn' yi' yp' _ _ => ⟨rfl, re_mk K G V⟩)))
  · unfold wpX_primes wpY_primes xt yt
    dsimp only
    exact xw_hasCover_f hS.2 V.1 hg (br_t rfl (yw_isGood_f hS.2 V.1 hg (br_t rfl ⟨rfl, re_mk K G V⟩)))
theorem i_vc_coverSize {k : Nat} {u : SX} {v : SY} (I : i_Rel k u v) (hk : k + 5 ≤ 2562) (v1 : Int32) : wpX_coverSize (fun r => wpY_coverSize (fun r' v' => r' = r ∧ i_Rel (k + 5) u v') v v1) u v1 := by
  obtain ⟨P, S, T, sg, dr, pe, po, im, s0, tb, d, us, ic, rc, pc, mc, ln, lh, ls, ar, asn, aa, ao, apt, act, acu, aco, aq, apc, af, ad, am, pcy, cm, cc, yr, ym, yn, yi, yp, yv, rfl, rfl, K, G, V⟩ := I
  have hS := K.2.1
  by_cases hg : d = 1 ∧ ∃ i, i < S ∧ v1 = nI i ∧ im.testBit i = false
  · obtain ⟨rfl, i, hi, rfl, hm⟩ := hg
    rcases V.2 with z | ⟨R, r1, r2, r3, r4, r5, r6⟩
    · exact absurd z (by decide)
    · obtain ⟨x1, n, M, Cc, x2, x3, x4, x5, x6, x7, x8⟩ := r6 rfl i hi hm
      unfold wpX_coverSize xt
      dsimp only
      refine xw_hasCover_t hS.2 hi hm (br_f (by decide) ⟨vp_in_nI (by omega) (by decide), ?_⟩)
      rw [nI_clamp (by omega), x4]
      unfold wpY_coverSize yt
      dsimp only
      exact yw_isGood_t hS.2 hi hm (br_f (by decide) (yw_findCover K r3 (by omega) (fun n' M' yn' yi' yp' y1 y2 => ⟨congrArg nI (nu_Bu x2 y1).1.symm, re_mk K G V⟩)))
  · unfold wpX_coverSize wpY_coverSize xt yt
    dsimp only
    exact xw_hasCover_f hS.2 V.1 hg (br_t rfl (yw_isGood_f hS.2 V.1 hg (br_t rfl ⟨rfl, re_mk K G V⟩)))
/-- the k-th of the chosen -/
theorem yw_cc34 (K : nt_K P S T sg dr pe po im s0) {f : Nat → Nat} (hA : pq_A S f yp (3 ^ S)) {M k n : Nat} (hn : ct_n (nu_in (pq_n S f) M) (pq_n S f) = n) (hk : k < n) {post : Int32 → SY → Prop} (h : ∀ j, j < pq_n S f → nu_in (pq_n S f) M j = true → ct_n (nu_in (pq_n S f) M) j = k → post (nI (pq_q S f j)) (yt P S T sg dr pe po im s0 tb vd (nI (pq_n S f)) (nI M) cc yr ym yn yi yp yv)) :
    ∃ n34, wY_coverCube_34 post (nI k) (nI P) (nI S) (nI (s0 / 16)) (nI (s0 % 16)) (nI T) vd (nI (pq_n S f)) (nI M) cc (fun j => nI (sg j)) (fun j => nI (dr j)) (fun j => nI (pe j)) (fun j => nI (po j)) (fun j => nI (im.testBit j).toNat) tb yr ym yn yi yp yv n34 0 0 := by
  have h27 := pq_le K.2.1.1 K.2.1.2 f
  obtain ⟨q, q1, q2, q3⟩ := ct_enum (f := nu_in (pq_n S f) M) (n := pq_n S f) (k := k) (by omega)
  refine loop_0 (σ := Unit) (fun n34 j _ => wY_coverCube_34 post (nI k) (nI P) (nI S) (nI (s0 / 16)) (nI (s0 % 16)) (nI T) vd (nI (pq_n S f)) (nI M) cc (fun j => nI (sg j)) (fun j => nI (dr j)) (fun j => nI (pe j)) (fun j => nI (po j)) (fun j => nI (im.testBit j).toNat) tb yr ym yn yi yp yv n34 (nI (ct_n (nu_in (pq_n S f) M) j)) (nI j)) (fun j _ => j ≤ q) (pq_n S f) () (Nat.zero_le _) ?_ ?_
  · intro n34 _ hI
    omega
  · intro n34 j _ hj hI ih
    have hc := ct_le (nu_in (pq_n S f) M) j
    have hcn := ct_le (nu_in (pq_n S f) M) (pq_n S f)
    have hadd : ct_n (nu_in (pq_n S f) M) (j + 1) = ct_n (nu_in (pq_n S f) M) j + (nu_in (pq_n S f) M j).toNat := rfl
    refine br_f (nI_ge hj (by omega)) (yw_inSet h27 hj (bo_br (fun z => nm_r (nI_1 j) ?_) (fun z => ?_)))
    · have hne : j ≠ q := by intro e; subst e; rw [q2] at z; exact absurd z (by simp)
      have hx := ih () (by omega)
      rw [hadd, z] at hx
      exact hx
    · by_cases e : ct_n (nu_in (pq_n S f) M) j = k
      · refine br_t (by rw [e]) ⟨vp_in_nI (by omega) (by decide), ?_⟩
        rw [nI_clamp (by omega), pq_Aq hA hj]
        exact h j hj z e
      · have hne : j ≠ q := by intro e2; subst e2; exact e q3
        have hx := ih () (by omega)
        rw [hadd, z] at hx
        exact br_f (fun y => e ((nI_eq (by omega) (by omega)).mp y)) (nm_r (nI_1 _) (nm_r (nI_1 j) hx))
theorem i_vc_coverCube {k : Nat} {u : SX} {v : SY} (I : i_Rel k u v) (hk : k + 5 ≤ 2562) (v1 : Int32) (v2 : Int32) : wpX_coverCube (fun r => wpY_coverCube (fun r' v' => r' = r ∧ i_Rel (k + 5) u v') v v1 v2) u v1 v2 := by
  obtain ⟨P, S, T, sg, dr, pe, po, im, s0, tb, d, us, ic, rc, pc, mc, ln, lh, ls, ar, asn, aa, ao, apt, act, acu, aco, aq, apc, af, ad, am, pcy, cm, cc, yr, ym, yn, yi, yp, yv, rfl, rfl, K, G, V⟩ := I
  have hS := K.2.1
  by_cases hg : d = 1 ∧ ∃ i, i < S ∧ v1 = nI i ∧ im.testBit i = false
  · obtain ⟨rfl, i, hi, rfl, hm⟩ := hg
    rcases V.2 with z | ⟨R, r1, r2, r3, r4, r5, r6⟩
    · exact absurd z (by decide)
    · obtain ⟨x1, n, M, Cc, x2, x3, x4, x5, x6, x7, x8⟩ := r6 rfl i hi hm
      have hn : ct_n (nu_in (pq_n S (nt_v T sg dr pe po R i)) M) (pq_n S (nt_v T sg dr pe po R i)) = n := x2.2.2.1
      unfold wpX_coverCube xt
      dsimp only
      refine xw_hasCover_t hS.2 hi hm (br_f (by decide) ?_)
      rw [nI_clamp (n := i) (by omega), x4]
      unfold wpY_coverCube yt
      dsimp only
      by_cases h0 : v2 < 0
      · refine br_t h0 (yw_isGood_t hS.2 hi hm (br_f (by decide) (yw_findCover K r3 (by omega) (fun n' M' yn' yi' yp' y1 y2 => br_t h0 ⟨rfl, re_mk K G V⟩))))
      · refine br_f h0 ⟨vp_in_nI (by omega) (by decide), ?_⟩
        by_cases h1 : v2 < nI n
        · obtain ⟨c, hc, rfl⟩ := nI_of h0
          rw [nI_ltI hc (by omega)] at h1
          refine br_t (nI_lt h1 (by omega)) ?_
          rw [iv_16, nI_clamp (n := i * 16 + c) (by omega)]
          refine ⟨vp_in_nI (by omega) (by decide), yw_isGood_t hS.2 hi hm (br_f (by decide) (yw_findCover K r3 (by omega) (fun n' M' yn' yi' yp' y1 y2 => br_f h0 ?_)))⟩
          obtain ⟨e1, e2⟩ := nu_Bu x2 y1
          subst e1 e2
          refine br_t (nI_lt h1 (by omega)) (yw_cc34 K y2 hn h1 (fun j hj hin hct => ⟨?_, re_mk K G V⟩))
          have := x5 j hj hin
          rw [hct, Nat.mul_comm 16 i] at this
          exact this.symm
        · refine br_f h1 (yw_isGood_t hS.2 hi hm (br_f (by decide) (yw_findCover K r3 (by omega) (fun n' M' yn' yi' yp' y1 y2 => br_f h0 ?_))))
          obtain ⟨e1, e2⟩ := nu_Bu x2 y1
          subst e1 e2
          exact br_f h1 ⟨rfl, re_mk K G V⟩
  · unfold wpX_coverCube wpY_coverCube xt yt
    dsimp only
    exact xw_hasCover_f hS.2 V.1 hg (br_t rfl (yw_isGood_f hS.2 V.1 hg (br_t rfl ⟨rfl, re_mk K G V⟩)))
theorem i_vc_gate {k : Nat} {u : SX} {v : SY} (I : i_Rel k u v) (hk : k + 5 ≤ 2562) (v1 : Int32) (v2 : Int32) : wpX_gate (fun r => wpY_gate (fun r' v' => r' = r ∧ i_Rel (k + 5) u v') v v1 v2) u v1 v2 := by
  obtain ⟨P, S, T, sg, dr, pe, po, im, s0, tb, d, us, ic, rc, pc, mc, ln, lh, ls, ar, asn, aa, ao, apt, act, acu, aco, aq, apc, af, ad, am, pcy, cm, cc, yr, ym, yn, yi, yp, yv, rfl, rfl, K, G, V⟩ := I
  have hS := K.2.1
  have h16 := nt_pS hS.2
  by_cases hg : d = 1 ∧ ∃ i, i < S ∧ v1 = nI i ∧ im.testBit i = false
  · obtain ⟨rfl, i, hi, rfl, hm⟩ := hg
    rcases V.2 with z | ⟨R, r1, r2, r3, r4, r5, r6⟩
    · exact absurd z (by decide)
    · unfold wpX_gate wpY_gate xt yt
      dsimp only
      rw [sg_s1 (s := S) (by omega)]
      refine xw_hasCover_t hS.2 hi hm (br_f (by decide) ?_)
      rcases iv_ix v2 (n := 2 ^ S) (by omega) with ⟨c, hc, rfl⟩ | hy
      · refine xw_isCode_t hS.2 hc (br_f (by decide) (xw_gateOf (by omega) (by omega) (yw_isGood_t hS.2 hi hm (br_f (by decide) (rg_t hc (by omega) (yw_fillGate K r3 G hi (r6 rfl i hi hm) (fun pc' cm' cc' yn' yi' yp' yv' f1 f2 => ?_)))))))
        show vp_in (16 * nI i + nI c) 64 ∧ _
        rw [iv_16']
        refine ⟨vp_in_nI (by omega) (by decide), ?_⟩
        exact ⟨show yv' (nI (16 * i + c)).toNatClampNeg = _ from by rw [nI_clamp (by omega), f1 c hc], re_mk K G V⟩
      · exact xw_isCode_f hy (br_t rfl (yw_isGood_t hS.2 hi hm (br_f (by decide) (rg_f hy ⟨rfl, re_mk K G V⟩))))
  · unfold wpX_gate wpY_gate xt yt
    dsimp only
    exact xw_hasCover_f hS.2 V.1 hg (br_t rfl (yw_isGood_f hS.2 V.1 hg (br_t rfl ⟨rfl, re_mk K G V⟩)))
end
end
section
/-! verify, witness -/
section
variable {P S T : Nat} {sg dr pe po : Nat → Nat} {im s0 : Nat} {tb : Nat → Int32}
variable {vd us ic rc pc mc ln lh ls cm cc : Int32} {ar asn aa ao apt act acu aco aq apc af ad am yr ym yn yi yp yv : Nat → Int32}
theorem sk_5 {inp : Nat → Bool} {dv : Nat → Nat → Bool} (s : Nat) : sh_k S T inp dv sg dr pe po 5 s = sh_n S T dv sg pe s := if_pos rfl
theorem sk_6 {inp : Nat → Bool} {dv : Nat → Nat → Bool} (s : Nat) : sh_k S T inp dv sg dr pe po 6 s = sh_h S T inp dv sg dr pe po s := by
  unfold sh_k
  rw [if_neg (by decide), if_pos rfl]
theorem sk_7 {inp : Nat → Bool} {dv : Nat → Nat → Bool} (s : Nat) : sh_k S T inp dv sg dr pe po 7 s = sh_s S T inp dv sg pe s := by
  unfold sh_k
  rw [if_neg (by decide), if_neg (by decide), if_pos rfl]
theorem sk_n {inp : Nat → Bool} {dv : Nat → Nat → Bool} {x : Int32} (h5 : ¬ x = 5) (h6 : ¬ x = 6) (h7 : ¬ x = 7) (s : Nat) : sh_k S T inp dv sg dr pe po x s = false := by
  unfold sh_k
  rw [if_neg h5, if_neg h6, if_neg h7]
theorem sk_u {R Q f g : Nat → Bool} (e : ∀ s, s < 1024 → R s = Q s) (h : ∀ s, f s = g s) {a b : Int32} (ha : ls_n (fun s => R s && f s) 1024 a) (hb : ls_n (fun s => Q s && g s) 1024 b) : a = b :=
  ls_uniq (ls_congr (g := fun s => Q s && g s) (fun s hs => by rw [e s hs, h s]) ha) hb
/-- the least one of a kind, given the other side's -/
theorem yw_first (K : nt_K P S T sg dr pe po im s0) (hV : gt_V S im tb aco yv S) {R2 Q : Nat → Bool} (hA : rp_A ym Q) (hQ : rc_is (me_st T im.testBit (gt_D im tb aco) sg dr pe po) s0 Q) (hR : rc_is (me_st T im.testBit (gt_D im tb aco) sg dr pe po) s0 R2) {x : Int32} {f : Nat → Bool} (hf : ∀ s, sh_k S T im.testBit (gt_D im tb aco) sg dr pe po x s = f s) {r : Int32} (hr : ls_n (fun s => R2 s && f s) 1024 r) {post : Int32 → Prop} (h : post r) : wpY_firstThatShows post (yt P S T sg dr pe po im s0 tb vd pc cm cc yr ym yn yi yp yv) x :=
  yw_firstThatShows K hV hA hQ (fun r' hr' => by rw [sk_u (rc_uniq hQ hR) hf hr' hr]; exact h)
theorem yw_verify (K : nt_K P S T sg dr pe po im s0) {R : Nat → Bool} (hR : rp_A yr R) (G : gt_T tb) (hx : ∀ i, i < S → im.testBit i = false → xc_A S (nt_v T sg dr pe po R i) i apt act acu aco) {R2 : Nat → Bool} (h2 : rc_is (me_st T im.testBit (gt_D im tb aco) sg dr pe po) s0 R2) {l5 l6 l7 r : Int32}
    (a5 : ls_n (fun s => R2 s && sh_n S T (gt_D im tb aco) sg pe s) 1024 l5) (a6 : ls_n (fun s => R2 s && sh_h S T im.testBit (gt_D im tb aco) sg dr pe po s) 1024 l6) (a7 : ls_n (fun s => R2 s && sh_s S T im.testBit (gt_D im tb aco) sg pe s) 1024 l7)
    (hr : (¬ l5 = -1 ∧ r = 5) ∨ (l5 = -1 ∧ ¬ l6 = -1 ∧ r = 6) ∨ (l5 = -1 ∧ l6 = -1 ∧ ¬ l7 = -1 ∧ r = 7) ∨ (l5 = -1 ∧ l6 = -1 ∧ l7 = -1 ∧ r = 1)) {post : Int32 → SY → Prop}
    (h : ∀ (pc' cm' cc' : Int32) (yn' yi' yp' yv' ym' : Nat → Int32), post r (yt P S T sg dr pe po im s0 tb (nI 1) pc' cm' cc' yr ym' yn' yi' yp' yv')) : wpY_verify post (yt P S T sg dr pe po im s0 tb (nI 1) pc cm cc yr ym yn yi yp yv) := by
  refine br_t rfl (yw_findMet K hR G hx (fun pc' cm' cc' yn' yi' yp' yv' ym' Q hV hA hQ => ⟨4, ?_⟩))
  have hh := h pc' cm' cc' yn' yi' yp' yv' ym'
  refine br_f (by decide) (yw_first K hV hA hQ h2 sk_5 a5 ?_)
  rcases hr with ⟨c1, rfl⟩ | ⟨c1, c2, rfl⟩ | ⟨c1, c2, c3, rfl⟩ | ⟨c1, c2, c3, rfl⟩
  · exact br_f c1 hh
  · exact br_t c1 (nm_r (show (5 : Int32) + 1 = 6 from by decide) (br_f (by decide) (yw_first K hV hA hQ h2 sk_6 a6 (br_f c2 hh))))
  · exact br_t c1 (nm_r (show (5 : Int32) + 1 = 6 from by decide) (br_f (by decide) (yw_first K hV hA hQ h2 sk_6 a6 (br_t c2 (nm_r (show (6 : Int32) + 1 = 7 from by decide) (br_f (by decide) (yw_first K hV hA hQ h2 sk_7 a7 (br_f c3 hh))))))))
  · exact br_t c1 (nm_r (show (5 : Int32) + 1 = 6 from by decide) (br_f (by decide) (yw_first K hV hA hQ h2 sk_6 a6 (br_t c2 (nm_r (show (6 : Int32) + 1 = 7 from by decide) (br_f (by decide) (yw_first K hV hA hQ h2 sk_7 a7 (br_t c3 (nm_r (show (7 : Int32) + 1 = 8 from by decide) (br_t (by decide) hh))))))))))
theorem i_vc_verify {k : Nat} {u : SX} {v : SY} (I : i_Rel k u v) (hk : k + 5 ≤ 2562) : wpX_verify (fun r u' => wpY_verify (fun r' v' => r' = r ∧ i_Rel (k + 5) u' v') v) u := by
  obtain ⟨P, S, T, sg, dr, pe, po, im, s0, tb, d, us, ic, rc, pc, mc, ln, lh, ls, ar, asn, aa, ao, apt, act, acu, aco, aq, apc, af, ad, am, pcy, cm, cc, yr, ym, yn, yi, yp, yv, rfl, rfl, K, G, V⟩ := I
  have hd := V.1
  by_cases h1 : d = 1
  · subst h1
    rcases V.2 with z | ⟨R, r1, r2, r3, r4, r5, r6⟩
    · exact absurd z (by decide)
    · refine br_t rfl (xw_meetStates K (fun R2 ad' am' aq' A a1 a2 => xw_noteFailures K A a1 a2 (fun l5 l6 l7 b5 b6 b7 => ?_)))
      by_cases c5 : l5 = -1
      · refine br_t c5 ?_
        by_cases c6 : l6 = -1
        · refine br_t c6 ?_
          by_cases c7 : l7 = -1
          · exact br_t c7 (yw_verify K r3 G (r6 rfl) a2 b5 b6 b7 (Or.inr (Or.inr (Or.inr ⟨c5, c6, c7, rfl⟩))) (fun _ _ _ _ _ _ _ _ => ⟨rfl, re_mk K G V⟩))
          · exact br_f c7 (yw_verify K r3 G (r6 rfl) a2 b5 b6 b7 (Or.inr (Or.inr (Or.inl ⟨c5, c6, c7, rfl⟩))) (fun _ _ _ _ _ _ _ _ => ⟨rfl, re_mk K G V⟩))
        · exact br_f c6 (yw_verify K r3 G (r6 rfl) a2 b5 b6 b7 (Or.inr (Or.inl ⟨c5, c6, rfl⟩)) (fun _ _ _ _ _ _ _ _ => ⟨rfl, re_mk K G V⟩))
      · exact br_f c5 (yw_verify K r3 G (r6 rfl) a2 b5 b6 b7 (Or.inl ⟨c5, rfl⟩) (fun _ _ _ _ _ _ _ _ => ⟨rfl, re_mk K G V⟩))
  · have hn : ¬ nI d = 1 := fun z => h1 ((nI_eq (b := 1) (by omega) (by omega)).mp z)
    exact br_f hn (br_f hn ⟨rfl, re_mk K G V⟩)
theorem yw_wit1 {Q : Nat → Bool} (hA : rp_A ym Q) {post : Int32 → SY → Prop} (h : post (nI (ct_n Q 1024)) (yt P S T sg dr pe po im s0 tb vd pc cm cc yr ym yn yi yp yv)) : ∃ n29, wY_witness_29 post (nI P) (nI S) (nI (s0 / 16)) (nI (s0 % 16)) (nI T) vd pc cm cc (fun j => nI (sg j)) (fun j => nI (dr j)) (fun j => nI (pe j)) (fun j => nI (po j)) (fun j => nI (im.testBit j).toNat) tb yr ym yn yi yp yv n29 0 0 := by
  refine loop_0 (σ := Unit) (fun n s _ => wY_witness_29 post (nI P) (nI S) (nI (s0 / 16)) (nI (s0 % 16)) (nI T) vd pc cm cc (fun j => nI (sg j)) (fun j => nI (dr j)) (fun j => nI (pe j)) (fun j => nI (po j)) (fun j => nI (im.testBit j).toNat) tb yr ym yn yi yp yv n (nI (ct_n Q s)) (nI s)) (fun _ _ => True) 1024 () trivial ?_ ?_
  · intro n _ _
    exact br_t (nI_le (Nat.le_refl 1024) (by decide)) h
  · intro n s _ hs _ ih
    have hn := ih () trivial
    refine br_f (nI_ge hs (by decide)) ⟨vp_in_nI hs (by decide), ?_⟩
    rw [nI_clamp (by omega), hA s hs]
    refine bo_br (fun h1 => nm_r (nI_1 s) ?_) (fun h1 => nm_r (nI_1 _) (nm_r (nI_1 s) ?_))
    · have e1 : ct_n Q (s + 1) = ct_n Q s := by show ct_n Q s + (Q s).toNat = _; rw [h1]; rfl
      rw [e1] at hn
      exact hn
    · have e1 : ct_n Q (s + 1) = ct_n Q s + 1 := by show ct_n Q s + (Q s).toNat = _; rw [h1]; rfl
      rw [e1] at hn
      exact hn
theorem iv_w {x : Int32} (c1 : ¬ x = 1) (c5 : ¬ x = 5) (c6 : ¬ x = 6) (c7 : ¬ x = 7) {A B C D E : Prop} (a : A) :
    (x < 1 → A) ∧ (¬ x < 1 → ((7 < x → A) ∧ (¬ 7 < x → ((x = 1 → B) ∧ (¬ x = 1 → ((x = 2 → A) ∧ (¬ x = 2 → ((x = 3 → A) ∧ (¬ x = 3 → ((x = 4 → A) ∧ (¬ x = 4 → ((x = 5 → C) ∧ (¬ x = 5 → ((x = 6 → D) ∧ (¬ x = 6 → ((x = 7 → E) ∧ (¬ x = 7 → True))))))))))))))))) :=
  ⟨fun _ => a, fun _ => ⟨fun _ => a, fun _ => ⟨fun z => absurd z c1, fun _ => ⟨fun _ => a, fun _ => ⟨fun _ => a, fun _ => ⟨fun _ => a, fun _ => ⟨fun z => absurd z c5, fun _ => ⟨fun z => absurd z c6, fun _ => ⟨fun z => absurd z c7, fun _ => trivial⟩⟩⟩⟩⟩⟩⟩⟩⟩
theorem i_vc_witness {k : Nat} {u : SX} {v : SY} (I : i_Rel k u v) (hk : k + 5 ≤ 2562) (v1 : Int32) : wpX_witness (fun r u' => wpY_witness (fun r' v' => r' = r ∧ i_Rel (k + 5) u' v') v v1) u v1 := by
  obtain ⟨P, S, T, sg, dr, pe, po, im, s0, tb, d, us, ic, rc, pc, mc, ln, lh, ls, ar, asn, aa, ao, apt, act, acu, aco, aq, apc, af, ad, am, pcy, cm, cc, yr, ym, yn, yi, yp, yv, rfl, rfl, K, G, V⟩ := I
  have hd := V.1
  by_cases h1 : d = 1
  · subst h1
    rcases V.2 with z | ⟨R, r1, r2, r3, r4, r5, r6⟩
    · exact absurd z (by decide)
    · refine br_t rfl (xw_meetStates K (fun R2 ad' am' aq' A a1 a2 => xw_noteFailures K A a1 a2 (fun l5 l6 l7 b5 b6 b7 => ?_)))
      by_cases c1 : v1 = 1
      · subst c1
        refine br_f (by decide) (br_f (by decide) (br_t rfl (br_t rfl (yw_findMet K r3 G (r6 rfl) (fun pc' cm' cc' yn' yi' yp' yv' ym' Q hV hA hQ => br_t rfl (yw_wit1 hA ⟨?_, re_mk K G V⟩))))))
        rw [ct_congr (rc_uniq hQ a2)]
      · by_cases c5 : v1 = 5
        · subst c5
          exact br_f (by decide) (br_f (by decide) (br_f c1 (br_f (by decide) (br_f (by decide) (br_f (by decide) (br_t rfl (br_t rfl (yw_findMet K r3 G (r6 rfl) (fun pc' cm' cc' yn' yi' yp' yv' ym' Q hV hA hQ => br_f c1 (yw_first K hV hA hQ a2 sk_5 b5 ⟨rfl, re_mk K G V⟩))))))))))
        · by_cases c6 : v1 = 6
          · subst c6
            exact br_f (by decide) (br_f (by decide) (br_f c1 (br_f (by decide) (br_f (by decide) (br_f (by decide) (br_f c5 (br_t rfl (br_t rfl (yw_findMet K r3 G (r6 rfl) (fun pc' cm' cc' yn' yi' yp' yv' ym' Q hV hA hQ => br_f c1 (yw_first K hV hA hQ a2 sk_6 b6 ⟨rfl, re_mk K G V⟩)))))))))))
          · by_cases c7 : v1 = 7
            · subst c7
              exact br_f (by decide) (br_f (by decide) (br_f c1 (br_f (by decide) (br_f (by decide) (br_f (by decide) (br_f c5 (br_f c6 (br_t rfl (br_t rfl (yw_findMet K r3 G (r6 rfl) (fun pc' cm' cc' yn' yi' yp' yv' ym' Q hV hA hQ => br_f c1 (yw_first K hV hA hQ a2 sk_7 b7 ⟨rfl, re_mk K G V⟩))))))))))))
            · refine iv_w c1 c5 c6 c7 (br_t rfl (yw_findMet K r3 G (r6 rfl) (fun pc' cm' cc' yn' yi' yp' yv' ym' Q hV hA hQ => br_f c1 (yw_firstThatShows K hV hA hQ (fun r hr => ⟨?_, re_mk K G V⟩)))))
              rcases hr with ⟨e, _⟩ | ⟨j, _, _, hj, _⟩
              · exact e
              · dsimp only at hj
                rw [sk_n c5 c6 c7, Bool.and_false] at hj
                exact absurd hj (by simp)
  · have hn : ¬ nI d = 1 := fun z => h1 ((nI_eq (b := 1) (by omega) (by omega)).mp z)
    exact br_f hn (br_f hn ⟨rfl, re_mk K G V⟩)
end
end
