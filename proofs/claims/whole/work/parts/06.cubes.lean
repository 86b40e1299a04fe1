/-! cubes: digits to base three, digit i for signal i -/
def cu_cv (S q c : Nat) : Bool := al_n (fun i => (q / 3 ^ i % 3 == 2) || (q / 3 ^ i % 3 == (c.testBit i).toNat)) S
/-- the cube's codes as a set -/
def cu_m (S q : Nat) : Nat → Nat
  | 0 => 0
  | c + 1 => cu_m S q c ||| (if cu_cv S q c = true then 2 ^ c else 0)
theorem cu_mb (S q n c : Nat) : (cu_m S q n).testBit c = (decide (c < n) && cu_cv S q c) := by
  induction n with
  | zero => show (0 : Nat).testBit c = _; rw [Nat.zero_testBit]; simp
  | succ n ih =>
    show (cu_m S q n ||| (if cu_cv S q n = true then 2 ^ n else 0)).testBit c = _
    rw [Nat.testBit_or, ih]
    by_cases e : c = n
    · subst e
      by_cases h : cu_cv S q c = true
      · rw [if_pos h, Nat.testBit_two_pow, h]; simp
      · rw [if_neg h, bo_nt h]; simp
    · have h2 : (if cu_cv S q n = true then 2 ^ n else 0).testBit c = false := by
        by_cases h : cu_cv S q n = true
        · rw [if_pos h, Nat.testBit_two_pow]
          exact decide_eq_false (fun z => e z.symm)
        · rw [if_neg h, Nat.zero_testBit]
      have h3 : decide (c < n + 1) = decide (c < n) := by
        by_cases h : c < n
        · rw [decide_eq_true h, decide_eq_true (by omega)]
        · rw [decide_eq_false h, decide_eq_false (by omega)]
      rw [h2, h3, Bool.or_false]
theorem cu_m_lt {S q n : Nat} (hn : n ≤ 16) : cu_m S q n < 65536 := by
  apply sg_16.mpr
  intro i hi
  rw [cu_mb, decide_eq_false (by omega)]
  rfl
/-- the first and the last code of a cube, and the cube that these make -/
def cu_lo (f : Nat → Bool) : Nat → Nat
  | 0 => 0
  | n + 1 => if f n = true then n else cu_lo f n
def cu_hi (f : Nat → Bool) : Nat → Nat → Nat
  | 0, k => k
  | n + 1, k => if f k = true then k else cu_hi f n (k + 1)
def cu_mk (S a b : Nat) : Nat → Nat
  | 0 => 0
  | i + 1 => cu_mk S a b i + 3 ^ i * (if a.testBit i = b.testBit i then (a.testBit i).toNat else 2)
theorem cu_lo_c {f g : Nat → Bool} {n : Nat} (h : ∀ i, i < n → f i = g i) : cu_lo f n = cu_lo g n := by
  induction n with
  | zero => rfl
  | succ n ih =>
    show (if f n = true then n else cu_lo f n) = (if g n = true then n else cu_lo g n)
    rw [h n (by omega), ih (fun i hi => h i (by omega))]
theorem cu_hi_c {f g : Nat → Bool} : ∀ {n k : Nat}, (∀ i, i < k + n → f i = g i) → cu_hi f n k = cu_hi g n k := by
  intro n
  induction n with
  | zero => intro k _; rfl
  | succ n ih =>
    intro k h
    show (if f k = true then k else cu_hi f n (k + 1)) = (if g k = true then k else cu_hi g n (k + 1))
    rw [h k (by omega), ih (k := k + 1) (fun i hi => h i (by omega))]
theorem cu_dec1 : ∀ q, q < 3 → cu_mk 1 (cu_lo (cu_cv 1 q) 2) (cu_hi (cu_cv 1 q) 2 0) 1 = q := by decide +kernel
theorem cu_dec2 : ∀ q, q < 9 → cu_mk 2 (cu_lo (cu_cv 2 q) 4) (cu_hi (cu_cv 2 q) 4 0) 2 = q := by decide +kernel
theorem cu_dec3 : ∀ q, q < 27 → cu_mk 3 (cu_lo (cu_cv 3 q) 8) (cu_hi (cu_cv 3 q) 8 0) 3 = q := by decide +kernel
theorem cu_dec4 : ∀ q, q < 81 → cu_mk 4 (cu_lo (cu_cv 4 q) 16) (cu_hi (cu_cv 4 q) 16 0) 4 = q := by decide +kernel
theorem cu_S {P : Nat → Prop} (h1 : P 1) (h2 : P 2) (h3 : P 3) (h4 : P 4) {S : Nat} (a : 1 ≤ S) (b : S ≤ 4) : P S := by
  have : S = 1 ∨ S = 2 ∨ S = 3 ∨ S = 4 := by omega
  rcases this with rfl | rfl | rfl | rfl
  · exact h1
  · exact h2
  · exact h3
  · exact h4
theorem cu_dec {S : Nat} (a : 1 ≤ S) (b : S ≤ 4) : ∀ q, q < 3 ^ S → cu_mk S (cu_lo (cu_cv S q) (2 ^ S)) (cu_hi (cu_cv S q) (2 ^ S) 0) S = q :=
  cu_S (P := fun S => ∀ q, q < 3 ^ S → cu_mk S (cu_lo (cu_cv S q) (2 ^ S)) (cu_hi (cu_cv S q) (2 ^ S) 0) S = q) cu_dec1 cu_dec2 cu_dec3 cu_dec4 a b
theorem cu_inj {S : Nat} (a : 1 ≤ S) (b : S ≤ 4) {p q : Nat} (hp : p < 3 ^ S) (hq : q < 3 ^ S) (h : ∀ c, c < 2 ^ S → cu_cv S p c = cu_cv S q c) : p = q := by
  rw [← cu_dec a b p hp, ← cu_dec a b q hq, cu_lo_c (f := cu_cv S p) (g := cu_cv S q) h, cu_hi_c (f := cu_cv S p) (g := cu_cv S q) (n := 2 ^ S) (k := 0) (fun i hi => h i (by omega))]
/-- the cube of one code -/
def cu_one (c : Nat) : Nat → Nat
  | 0 => 0
  | i + 1 => cu_one c i + 3 ^ i * (c.testBit i).toNat
theorem cu_o1 : ∀ c, c < 2 → cu_one c 1 < 3 ∧ ∀ d, d < 2 → cu_cv 1 (cu_one c 1) d = (c == d) := by decide +kernel
theorem cu_o2 : ∀ c, c < 4 → cu_one c 2 < 9 ∧ ∀ d, d < 4 → cu_cv 2 (cu_one c 2) d = (c == d) := by decide +kernel
theorem cu_o3 : ∀ c, c < 8 → cu_one c 3 < 27 ∧ ∀ d, d < 8 → cu_cv 3 (cu_one c 3) d = (c == d) := by decide +kernel
theorem cu_o4 : ∀ c, c < 16 → cu_one c 4 < 81 ∧ ∀ d, d < 16 → cu_cv 4 (cu_one c 4) d = (c == d) := by decide +kernel
theorem cu_o {S : Nat} (a : 1 ≤ S) (b : S ≤ 4) : ∀ c, c < 2 ^ S → cu_one c S < 3 ^ S ∧ ∀ d, d < 2 ^ S → cu_cv S (cu_one c S) d = (c == d) :=
  cu_S (P := fun S => ∀ c, c < 2 ^ S → cu_one c S < 3 ^ S ∧ ∀ d, d < 2 ^ S → cu_cv S (cu_one c S) d = (c == d)) cu_o1 cu_o2 cu_o3 cu_o4 a b
/-- of three neighbours the third is the other two -/
theorem cu_t1 : ∀ r, r < 1 → ∀ c, c < 2 → cu_cv 1 (3 * r + 2) c = (cu_cv 1 (3 * r) c || cu_cv 1 (3 * r + 1) c) := by decide +kernel
theorem cu_t2 : ∀ r, r < 3 → ∀ c, c < 4 → cu_cv 2 (3 * r + 2) c = (cu_cv 2 (3 * r) c || cu_cv 2 (3 * r + 1) c) := by decide +kernel
theorem cu_t3 : ∀ r, r < 9 → ∀ c, c < 8 → cu_cv 3 (3 * r + 2) c = (cu_cv 3 (3 * r) c || cu_cv 3 (3 * r + 1) c) := by decide +kernel
theorem cu_t4 : ∀ r, r < 27 → ∀ c, c < 16 → cu_cv 4 (3 * r + 2) c = (cu_cv 4 (3 * r) c || cu_cv 4 (3 * r + 1) c) := by decide +kernel
theorem cu_t {S : Nat} (a : 1 ≤ S) (b : S ≤ 4) : ∀ r, r < 3 ^ (S - 1) → ∀ c, c < 2 ^ S → cu_cv S (3 * r + 2) c = (cu_cv S (3 * r) c || cu_cv S (3 * r + 1) c) :=
  cu_S (P := fun S => ∀ r, r < 3 ^ (S - 1) → ∀ c, c < 2 ^ S → cu_cv S (3 * r + 2) c = (cu_cv S (3 * r) c || cu_cv S (3 * r + 1) c)) cu_t1 cu_t2 cu_t3 cu_t4 a b
theorem cu_3 {S : Nat} (a : 1 ≤ S) (b : S ≤ 4) : 3 ^ S = 3 * 3 ^ (S - 1) ∧ 3 ^ (S - 1) ≤ 27 ∧ 2 ^ S ≤ 16 ∧ 2 ≤ 2 ^ S :=
  cu_S (P := fun S => 3 ^ S = 3 * 3 ^ (S - 1) ∧ 3 ^ (S - 1) ≤ 27 ∧ 2 ^ S ≤ 16 ∧ 2 ≤ 2 ^ S) (by decide) (by decide) (by decide) (by decide) a b
/-! implicants and primes of a function v: 1 wanted, 0 barred -/
def pr_im (S : Nat) (v : Nat → Nat) (q : Nat) : Bool := al_n (fun c => !((v c == 0) && cu_cv S q c)) (2 ^ S)
def pr_h1 (S : Nat) (v : Nat → Nat) (q : Nat) : Bool := ex_n (fun c => (v c == 1) && cu_cv S q c) (2 ^ S)
def pr_al (S : Nat) (big small : Nat) : Bool := al_n (fun c => !(cu_cv S small c) || cu_cv S big c) (2 ^ S)
def pr_lg (S : Nat) (v : Nat → Nat) (q : Nat) : Bool := ex_n (fun p => !(p == q) && (pr_im S v p && pr_al S p q)) (3 ^ S)
def pr_p (S : Nat) (v : Nat → Nat) (q : Nat) : Bool := pr_im S v q && (pr_h1 S v q && !(pr_lg S v q))
theorem pr_im_iff {S : Nat} {v : Nat → Nat} {q : Nat} : pr_im S v q = true ↔ ∀ c, c < 2 ^ S → v c = 0 → cu_cv S q c = false := by
  unfold pr_im
  rw [al_iff]
  refine ⟨fun h c hc hv => ?_, fun h c hc => ?_⟩
  · have := h c hc
    rw [hv] at this
    cases hq : cu_cv S q c
    · rfl
    · rw [hq] at this; exact absurd this (by simp)
  · cases hq : cu_cv S q c
    · simp
    · have : v c ≠ 0 := by
        intro hv
        rw [h c hc hv] at hq
        exact absurd hq (by simp)
      simp [this]
theorem pr_al_iff {S p q : Nat} : pr_al S p q = true ↔ ∀ c, c < 2 ^ S → cu_cv S q c = true → cu_cv S p c = true := by
  unfold pr_al
  rw [al_iff]
  refine ⟨fun h c hc hq => ?_, fun h c hc => ?_⟩
  · have := h c hc
    rw [hq] at this
    exact this
  · cases hq : cu_cv S q c
    · rfl
    · rw [h c hc hq]; rfl
theorem pr_lg_iff {S : Nat} {v : Nat → Nat} {q : Nat} : pr_lg S v q = true ↔ ∃ p, p < 3 ^ S ∧ p ≠ q ∧ pr_im S v p = true ∧ pr_al S p q = true := by
  unfold pr_lg
  rw [ex_iff]
  refine ⟨fun ⟨p, hp, h⟩ => ?_, fun ⟨p, hp, h1, h2, h3⟩ => ⟨p, hp, ?_⟩⟩
  · rw [Bool.and_eq_true, Bool.and_eq_true, Bool.not_eq_true', beq_eq_false_iff_ne] at h
    exact ⟨p, hp, h.1, h.2.1, h.2.2⟩
  · rw [Bool.and_eq_true, Bool.and_eq_true, Bool.not_eq_true', beq_eq_false_iff_ne]
    exact ⟨h1, h2, h3⟩
theorem pr_p_iff {S : Nat} {v : Nat → Nat} {q : Nat} : pr_p S v q = true ↔ pr_im S v q = true ∧ pr_h1 S v q = true ∧ pr_lg S v q = false := by
  unfold pr_p
  rw [Bool.and_eq_true, Bool.and_eq_true, Bool.not_eq_true']
/-- every wanted code lies in a prime -/
theorem pr_ex {S : Nat} (a : 1 ≤ S) (b : S ≤ 4) {v : Nat → Nat} {c : Nat} (hc : c < 2 ^ S) (hv : v c = 1) : ∃ q, q < 3 ^ S ∧ pr_p S v q = true ∧ cu_cv S q c = true := by
  have key : ∀ d q, q < 3 ^ S → pr_im S v q = true → cu_cv S q c = true → 65536 - cu_m S q (2 ^ S) ≤ d → ∃ q, q < 3 ^ S ∧ pr_p S v q = true ∧ cu_cv S q c = true := by
    intro d
    induction d with
    | zero =>
      intro q _ _ _ h
      have := cu_m_lt (S := S) (q := q) (n := 2 ^ S) (cu_3 a b).2.2.1
      omega
    | succ d ih =>
      intro q hq hi hcv hd
      cases hl : pr_lg S v q
      · refine ⟨q, hq, pr_p_iff.mpr ⟨hi, ?_, hl⟩, hcv⟩
        unfold pr_h1
        exact ex_iff.mpr ⟨c, hc, by rw [hv, hcv]; rfl⟩
      · obtain ⟨p, hp, hne, him, hal⟩ := pr_lg_iff.mp hl
        have hs : sg_sub (cu_m S q (2 ^ S)) (cu_m S p (2 ^ S)) := by
          intro i h
          rw [cu_mb, Bool.and_eq_true, decide_eq_true_eq] at h
          rw [cu_mb, Bool.and_eq_true, decide_eq_true_eq]
          exact ⟨h.1, pr_al_iff.mp hal i h.1 h.2⟩
        have hle := sg_sub_le hs
        have hneq : cu_m S q (2 ^ S) ≠ cu_m S p (2 ^ S) := by
          intro e
          apply hne
          refine cu_inj a b hp hq (fun i hi' => ?_)
          have h1 := cu_mb S q (2 ^ S) i
          have h2 := cu_mb S p (2 ^ S) i
          rw [e, h2, decide_eq_true hi'] at h1
          exact h1
        have := cu_m_lt (S := S) (q := p) (n := 2 ^ S) (cu_3 a b).2.2.1
        exact ih p hp him (pr_al_iff.mp hal c hc hcv) (by omega)
  obtain ⟨h1, h2⟩ := cu_o a b c hc
  refine key 65536 (cu_one c S) h1 (pr_im_iff.mpr (fun e he hve => ?_)) ?_ (Nat.sub_le _ _)
  · rw [h2 e he]
    cases hce : c == e
    · rfl
    · rw [beq_iff_eq] at hce
      subst hce
      rw [hv] at hve
      exact absurd hve (by simp)
  · rw [h2 c hc]; exact beq_self_eq_true c
/-- at most one prime in three neighbours, so at most 27 -/
theorem pr_one {S : Nat} (a : 1 ≤ S) (b : S ≤ 4) {v : Nat → Nat} {r : Nat} (hr : r < 3 ^ (S - 1)) : (pr_p S v (3 * r)).toNat + (pr_p S v (3 * r + 1)).toNat + (pr_p S v (3 * r + 2)).toNat ≤ 1 := by
  have h3 := (cu_3 a b).1
  have ht := cu_t a b r hr
  have lg : ∀ p q, p < 3 ^ S → p ≠ q → pr_im S v p = true → pr_al S p q = true → pr_p S v q = false := by
    intro p q hp hne hi hal
    apply bo_nt
    intro h
    have := (pr_p_iff.mp h).2.2
    rw [pr_lg_iff.mpr ⟨p, hp, hne, hi, hal⟩] at this
    exact absurd this (by simp)
  have a0 : pr_al S (3 * r + 2) (3 * r) = true := pr_al_iff.mpr (fun c hc h => by rw [ht c hc, h]; rfl)
  have a1 : pr_al S (3 * r + 2) (3 * r + 1) = true := pr_al_iff.mpr (fun c hc h => by rw [ht c hc, h]; exact Bool.or_true _)
  cases h2 : pr_p S v (3 * r + 2)
  · cases h0 : pr_p S v (3 * r)
    · cases pr_p S v (3 * r + 1) <;> decide
    · cases h1 : pr_p S v (3 * r + 1)
      · decide
      · exfalso
        have i0 := pr_im_iff.mp (pr_p_iff.mp h0).1
        have i1 := pr_im_iff.mp (pr_p_iff.mp h1).1
        have i2 : pr_im S v (3 * r + 2) = true := pr_im_iff.mpr (fun c hc hv => by rw [ht c hc, i0 c hc hv, i1 c hc hv]; rfl)
        have := lg (3 * r + 2) (3 * r) (by omega) (by omega) i2 a0
        rw [h0] at this
        exact absurd this (by simp)
  · have i2 := (pr_p_iff.mp h2).1
    rw [lg (3 * r + 2) (3 * r) (by omega) (by omega) i2 a0, lg (3 * r + 2) (3 * r + 1) (by omega) (by omega) i2 a1]
    decide
theorem pr_le {S : Nat} (a : 1 ≤ S) (b : S ≤ 4) (v : Nat → Nat) : ct_n (pr_p S v) (3 ^ S) ≤ 27 := by
  have h3 := cu_3 a b
  have : ∀ r, r ≤ 3 ^ (S - 1) → ct_n (pr_p S v) (3 * r) ≤ r := by
    intro r
    induction r with
    | zero => intro _; exact Nat.le_refl _
    | succ r ih =>
      intro hr
      have h1 := ih (by omega)
      have h2 := pr_one a b (v := v) (r := r) (by omega)
      have e : ct_n (pr_p S v) (3 * (r + 1)) = ct_n (pr_p S v) (3 * r) + (pr_p S v (3 * r)).toNat + (pr_p S v (3 * r + 1)).toNat + (pr_p S v (3 * r + 2)).toNat := by
        rw [show 3 * (r + 1) = 3 * r + 1 + 1 + 1 from by omega]
        rfl
      omega
  rw [h3.1]
  have := this (3 ^ (S - 1)) (Nat.le_refl _)
  omega
theorem pr_cong {S : Nat} {v w : Nat → Nat} (h : ∀ c, c < 2 ^ S → v c = w c) : ∀ q, pr_p S v q = pr_p S w q := by
  have im : ∀ q, pr_im S v q = pr_im S w q := fun q => al_congr (fun c hc => by rw [h c hc])
  intro q
  have h1 : pr_h1 S v q = pr_h1 S w q := ex_congr (fun c hc => by rw [h c hc])
  have h2 : pr_lg S v q = pr_lg S w q := ex_congr (fun p _ => by rw [im p])
  unfold pr_p
  rw [im, h1, h2]
