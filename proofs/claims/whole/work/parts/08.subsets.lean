/-! the subsets of W in ascending order: the i-th -/
theorem pd_an2 {a b x y : Nat} (hx : x < 2) (hy : y < 2) : sg_an (2 * a + x) (2 * b + y) = 2 * sg_an a b + sg_an x y := by
  have hxy : sg_an x y < 2 := Nat.lt_of_le_of_lt (sg_an_le x y) hx
  apply Nat.eq_of_testBit_eq
  intro i
  rw [sg_anb]
  cases i with
  | zero =>
    rw [Nat.testBit_zero, Nat.testBit_zero, Nat.testBit_zero, show (2 * a + x) % 2 = x from by omega, show (2 * b + y) % 2 = y from by omega, show (2 * sg_an a b + sg_an x y) % 2 = sg_an x y from by omega]
    have : (x = 0 ∨ x = 1) ∧ (y = 0 ∨ y = 1) := by omega
    rcases this with ⟨rfl | rfl, rfl | rfl⟩ <;> decide
  | succ i =>
    rw [Nat.testBit_succ, Nat.testBit_succ, Nat.testBit_succ, show (2 * a + x) / 2 = a from by omega, show (2 * b + y) / 2 = b from by omega, show (2 * sg_an a b + sg_an x y) / 2 = sg_an a b from by omega, sg_anb]
theorem pd_sub2 {a b x y : Nat} (h : sg_sub a b) (hxy : x ≤ y) (hy : y < 2) : sg_sub (2 * a + x) (2 * b + y) := by
  rw [← sg_an_0, pd_an2 (by omega) hy, sg_an_0.mpr h]
  have : (x = 0 ∨ x = 1) ∧ (y = 0 ∨ y = 1) := by omega
  rcases this with ⟨rfl | rfl, rfl | rfl⟩
  · decide
  · decide
  · omega
  · decide
theorem pd_sub2' {a b x y : Nat} (hx : x < 2) (hy : y < 2) (h : sg_sub (2 * a + x) (2 * b + y)) : sg_sub a b ∧ x ≤ y := by
  rw [← sg_an_0, pd_an2 hx hy] at h
  refine ⟨sg_an_0.mp (by omega), ?_⟩
  have : (x = 0 ∨ x = 1) ∧ (y = 0 ∨ y = 1) := by omega
  rcases this with ⟨rfl | rfl, rfl | rfl⟩
  · omega
  · omega
  · exfalso
    have h2 : sg_an 1 0 = 0 := by omega
    exact absurd h2 (by decide)
  · omega
theorem pd_diff {s W : Nat} (h : sg_sub s W) : sg_an W (W - s) = s := by
  have h1 : W - s = sg_an W s := by
    have : sg_an W s + s = W := by
      have key : ∀ f s W, W < 2 ^ f → sg_sub s W → sg_an W s + s = W := by
        intro f
        induction f with
        | zero =>
          intro s W hW h
          have h0 : W = 0 := by rw [Nat.pow_zero] at hW; omega
          have := sg_sub_le h
          have h1 : s = 0 := by omega
          rw [h0, h1]; decide
        | succ f ih =>
          intro s W hW h
          rw [Nat.pow_succ] at hW
          have eW : W = 2 * (W / 2) + W % 2 := by omega
          have es : s = 2 * (s / 2) + s % 2 := by omega
          rw [eW, es] at h
          obtain ⟨h1, h2⟩ := pd_sub2' (by omega) (by omega) h
          have h3 := ih (s / 2) (W / 2) (by omega) h1
          have h4 := pd_an2 (a := W / 2) (b := s / 2) (x := W % 2) (y := s % 2) (by omega) (by omega)
          rw [← eW, ← es] at h4
          have h5 : sg_an (W % 2) (s % 2) + s % 2 = W % 2 := by
            have : (W % 2 = 0 ∨ W % 2 = 1) ∧ (s % 2 = 0 ∨ s % 2 = 1) := by omega
            rcases this with ⟨e1 | e1, e2 | e2⟩
            · rw [e1, e2]; decide
            · omega
            · rw [e1, e2]; decide
            · rw [e1, e2]; decide
          omega
      exact key W s W Nat.lt_two_pow_self h
    omega
  rw [h1]
  apply Nat.eq_of_testBit_eq
  intro i
  rw [sg_anb, sg_anb]
  cases hs : s.testBit i
  · cases W.testBit i <;> rfl
  · rw [h i hs]; rfl
def pd_n : Nat → Nat → Nat → Nat
  | 0, _, _ => 0
  | f + 1, W, i => if W % 2 = 0 then 2 * pd_n f (W / 2) i else 2 * pd_n f (W / 2) (i / 2) + i % 2
def pd_z : Nat → Nat → Nat
  | 0, _ => 1
  | f + 1, W => if W % 2 = 0 then pd_z f (W / 2) else 2 * pd_z f (W / 2)
theorem pd_e {f W i : Nat} (h : W % 2 = 0) : pd_n (f + 1) W i = 2 * pd_n f (W / 2) i := if_pos h
theorem pd_o {f W i : Nat} (h : W % 2 = 1) : pd_n (f + 1) W i = 2 * pd_n f (W / 2) (i / 2) + i % 2 := if_neg (by omega)
theorem pd_ze {f W : Nat} (h : W % 2 = 0) : pd_z (f + 1) W = pd_z f (W / 2) := if_pos h
theorem pd_zo {f W : Nat} (h : W % 2 = 1) : pd_z (f + 1) W = 2 * pd_z f (W / 2) := if_neg (by omega)
theorem pd_s : ∀ f W i, sg_sub (pd_n f W i) W := by
  intro f
  induction f with
  | zero => intro W i; exact sg_sub0 W
  | succ f ih =>
    intro W i
    have eW : W = 2 * (W / 2) + W % 2 := by omega
    by_cases h : W % 2 = 0
    · have := pd_sub2 (ih (W / 2) i) (x := 0) (y := W % 2) (by omega) (by omega)
      rw [← eW] at this
      rw [pd_e h]; exact this
    · have := pd_sub2 (ih (W / 2) (i / 2)) (x := i % 2) (y := W % 2) (by omega) (by omega)
      rw [← eW] at this
      rw [pd_o (by omega)]; exact this
theorem pd_0 : ∀ f W, pd_n f W 0 = 0 := by
  intro f
  induction f with
  | zero => intro W; rfl
  | succ f ih =>
    intro W
    by_cases h : W % 2 = 0
    · rw [pd_e h, ih]
    · rw [pd_o (by omega), ih]
theorem pd_lt : ∀ f W i j, i < j → j < pd_z f W → pd_n f W i < pd_n f W j := by
  intro f
  induction f with
  | zero =>
    intro W i j h1 h2
    have h3 : j < 1 := h2
    omega
  | succ f ih =>
    intro W i j h1 h2
    by_cases h : W % 2 = 0
    · rw [pd_ze h] at h2
      rw [pd_e h, pd_e h]
      have := ih (W / 2) i j h1 h2
      omega
    · rw [pd_zo (by omega)] at h2
      rw [pd_o (by omega), pd_o (by omega)]
      by_cases e : i / 2 = j / 2
      · rw [e]; omega
      · have := ih (W / 2) (i / 2) (j / 2) (by omega) (by omega)
        omega
theorem pd_inv {f W i j : Nat} (h : pd_n f W i < pd_n f W j) (hi : i < pd_z f W) : i < j := by
  apply Classical.byContradiction
  intro z
  by_cases e : i = j
  · subst e; omega
  · have := pd_lt f W j i (by omega) hi
    omega
theorem pd_su : ∀ f W B, W < 2 ^ f → sg_sub B W → ∃ i, i < pd_z f W ∧ pd_n f W i = B := by
  intro f
  induction f with
  | zero =>
    intro W B hW h
    have := sg_sub_le h
    rw [Nat.pow_zero] at hW
    refine ⟨0, (by decide : 0 < 1), ?_⟩
    show 0 = B
    omega
  | succ f ih =>
    intro W B hW h
    rw [Nat.pow_succ] at hW
    have eW : W = 2 * (W / 2) + W % 2 := by omega
    have eB : B = 2 * (B / 2) + B % 2 := by omega
    rw [eW, eB] at h
    obtain ⟨h1, h2⟩ := pd_sub2' (by omega) (by omega) h
    obtain ⟨i, hi, e⟩ := ih (W / 2) (B / 2) (by omega) h1
    by_cases hw : W % 2 = 0
    · refine ⟨i, by rw [pd_ze hw]; exact hi, ?_⟩
      rw [pd_e hw, e]; omega
    · refine ⟨2 * i + B % 2, by rw [pd_zo (by omega)]; omega, ?_⟩
      rw [pd_o (by omega), show (2 * i + B % 2) / 2 = i from by omega, show (2 * i + B % 2) % 2 = B % 2 from by omega, e]
      omega
theorem pd_nx : ∀ f W i, W < 2 ^ f → i + 1 < pd_z f W → sg_an W (W - pd_n f W i - 1) = pd_n f W (i + 1) := by
  intro f
  induction f with
  | zero =>
    intro W i _ h
    have h3 : i + 1 < 1 := h
    omega
  | succ f ih =>
    intro W i hW h
    have hlt := pd_lt (f + 1) W i (i + 1) (by omega) h
    have hle := sg_sub_le (pd_s (f + 1) W (i + 1))
    rw [Nat.pow_succ] at hW
    have eW : W = 2 * (W / 2) + W % 2 := by omega
    by_cases hw : W % 2 = 0
    · rw [pd_ze hw] at h
      have h1 := ih (W / 2) i (by omega) h
      rw [pd_e hw] at hlt hle
      rw [pd_e hw] at hlt
      rw [pd_e hw, pd_e hw, ← h1]
      have e1 : W - 2 * pd_n f (W / 2) i - 1 = 2 * (W / 2 - pd_n f (W / 2) i - 1) + 1 := by omega
      have e2 : sg_an (2 * (W / 2) + 0) (2 * (W / 2 - pd_n f (W / 2) i - 1) + 1) = _ := pd_an2 (by omega) (by omega)
      rw [e1]
      have e3 : W = 2 * (W / 2) + 0 := by omega
      have e4 : sg_an 0 1 = 0 := by decide
      rw [e4] at e2
      calc sg_an W (2 * (W / 2 - pd_n f (W / 2) i - 1) + 1) = sg_an (2 * (W / 2) + 0) (2 * (W / 2 - pd_n f (W / 2) i - 1) + 1) := by rw [← e3]
        _ = _ := e2
        _ = _ := by omega
    · have hw1 : W % 2 = 1 := by omega
      rw [pd_zo hw1] at h
      have hsub := pd_s f (W / 2) (i / 2)
      have hsl := sg_sub_le hsub
      have e3 : W = 2 * (W / 2) + 1 := by omega
      rw [pd_o hw1, pd_o hw1]
      by_cases hi : i % 2 = 0
      · have e1 : W - (2 * pd_n f (W / 2) (i / 2) + i % 2) - 1 = 2 * (W / 2 - pd_n f (W / 2) (i / 2)) + 0 := by omega
        have e2 : sg_an (2 * (W / 2) + 1) (2 * (W / 2 - pd_n f (W / 2) (i / 2)) + 0) = _ := pd_an2 (by omega) (by omega)
        have e4 : sg_an 1 0 = 1 := by decide
        rw [pd_diff hsub, e4, ← e3] at e2
        rw [e1, e2, show (i + 1) / 2 = i / 2 from by omega, show (i + 1) % 2 = 1 from by omega]
      · have h1 := ih (W / 2) (i / 2) (by omega) (by omega)
        have hlt2 := pd_lt f (W / 2) (i / 2) (i / 2 + 1) (by omega) (by omega)
        have hle2 := sg_sub_le (pd_s f (W / 2) (i / 2 + 1))
        have e1 : W - (2 * pd_n f (W / 2) (i / 2) + i % 2) - 1 = 2 * (W / 2 - pd_n f (W / 2) (i / 2) - 1) + 1 := by omega
        have e2 : sg_an (2 * (W / 2) + 1) (2 * (W / 2 - pd_n f (W / 2) (i / 2) - 1) + 1) = _ := pd_an2 (by omega) (by omega)
        have e4 : sg_an 1 1 = 0 := by decide
        rw [h1, e4, ← e3] at e2
        rw [e1, e2, show (i + 1) / 2 = i / 2 + 1 from by omega, show (i + 1) % 2 = 0 from by omega]
theorem ct_shift (g : Nat → Bool) (n : Nat) : ct_n g (n + 1) = (g 0).toNat + ct_n (fun i => g (i + 1)) n := by
  induction n with
  | zero =>
    show 0 + (g 0).toNat = (g 0).toNat + 0
    omega
  | succ n ih =>
    show ct_n g (n + 1) + (g (n + 1)).toNat = (g 0).toNat + (ct_n (fun i => g (i + 1)) n + (g (n + 1)).toNat)
    rw [ih]; omega
theorem pd_zz : ∀ f W, pd_z f W = 2 ^ ct_n (fun i => W.testBit i) f := by
  intro f
  induction f with
  | zero => intro W; rfl
  | succ f ih =>
    intro W
    rw [ct_shift]
    have e : ct_n (fun i => W.testBit (i + 1)) f = ct_n (fun i => (W / 2).testBit i) f := ct_congr (fun i _ => Nat.testBit_succ W i)
    have e0 : (W.testBit 0).toNat = W % 2 := by
      rw [Nat.testBit_zero]
      rcases Nat.mod_two_eq_zero_or_one W with h | h <;> rw [h] <;> rfl
    rw [e, e0]
    by_cases h : W % 2 = 0
    · rw [pd_ze h, ih, h, Nat.zero_add]
    · have h1 : W % 2 = 1 := by omega
      rw [pd_zo h1, ih, h1, Nat.pow_add, Nat.pow_one]
/-- the next set, as the component reckons it -/
theorem pd_step {s W : Nat} (h : s < W) (hW : W < 2 ^ 31) : (nI s - nI W) &&& nI W = nI (sg_an W (W - s - 1)) := by
  have e1 : nI s - nI W = nI (W - s - 1) ^^^ (-1) := by
    have h2 : nI (W - s - 1) ^^^ (-1) = -(nI (W - s - 1)) - 1 := by
      generalize nI (W - s - 1) = x
      apply Int32.toBitVec_inj.mp
      show x.toBitVec ^^^ (-1 : Int32).toBitVec = -x.toBitVec - 1#32
      rw [show (-1 : Int32).toBitVec = BitVec.allOnes 32 from by decide, BitVec.xor_allOnes, BitVec.neg_eq_not_add, BitVec.add_sub_cancel]
    have h3 : nI W = nI s + nI (W - s - 1) + 1 := by
      rw [nI_add, nI_1]
      congr 1
      omega
    rw [h2, h3]
    grind
  rw [e1, Int32.and_comm, sg_andn]
/-- the least member, as the component reckons it -/
theorem pd_low : ∀ n A, A ≠ 0 → A ≤ n → ∃ b, A.testBit b = true ∧ sg_an A (A - 1) = 2 ^ b := by
  intro n
  induction n with
  | zero => intro A h1 h2; omega
  | succ n ih =>
    intro A h1 h2
    by_cases h : A % 2 = 1
    · refine ⟨0, ?_, ?_⟩
      · rw [Nat.testBit_zero, h]; rfl
      · have e : sg_an (2 * (A / 2) + 1) (2 * (A / 2) + 0) = _ := pd_an2 (by omega) (by omega)
        have e4 : sg_an 1 0 = 1 := by decide
        have e5 : sg_an (A / 2) (A / 2) = 0 := sg_an_0.mpr (sg_sub_r _)
        rw [e4, e5, show 2 * (A / 2) + 1 = A from by omega, show 2 * (A / 2) + 0 = A - 1 from by omega] at e
        rw [e]
    · obtain ⟨b, hb, e⟩ := ih (A / 2) (by omega) (by omega)
      refine ⟨b + 1, ?_, ?_⟩
      · rw [Nat.testBit_succ]; exact hb
      · have e2 : sg_an (2 * (A / 2) + 0) (2 * (A / 2 - 1) + 1) = _ := pd_an2 (by omega) (by omega)
        have e4 : sg_an 0 1 = 0 := by decide
        rw [e, e4, show 2 * (A / 2) + 0 = A from by omega, show 2 * (A / 2 - 1) + 1 = A - 1 from by omega] at e2
        rw [e2, Nat.pow_succ]
        omega
theorem pd_neg {A : Nat} (h : A ≠ 0) : nI A &&& -(nI A) = nI (sg_an A (A - 1)) := by
  have e : -(nI A) = nI (A - 1) ^^^ (-1) := by
    have h2 : nI (A - 1) ^^^ (-1) = -(nI (A - 1)) - 1 := by
      generalize nI (A - 1) = x
      apply Int32.toBitVec_inj.mp
      show x.toBitVec ^^^ (-1 : Int32).toBitVec = -x.toBitVec - 1#32
      rw [show (-1 : Int32).toBitVec = BitVec.allOnes 32 from by decide, BitVec.xor_allOnes, BitVec.neg_eq_not_add, BitVec.add_sub_cancel]
    have h3 : nI A = nI (A - 1) + 1 := by
      rw [nI_1]
      congr 1
      omega
    rw [h2, h3]
    grind
  rw [e, sg_andn]
