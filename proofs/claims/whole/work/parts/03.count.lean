/-! counting, searching, least ones -/
def ct_n (f : Nat → Bool) : Nat → Nat
  | 0 => 0
  | n + 1 => ct_n f n + (f n).toNat
theorem ct_le (f : Nat → Bool) (n : Nat) : ct_n f n ≤ n := by
  induction n with
  | zero => exact Nat.le_refl _
  | succ n ih =>
    have := sg_toNat_lt (f n)
    show ct_n f n + (f n).toNat ≤ n + 1
    omega
theorem ct_mono (f : Nat → Bool) {a b : Nat} (h : a ≤ b) : ct_n f a ≤ ct_n f b := by
  induction b with
  | zero =>
    have : a = 0 := by omega
    subst this
    exact Nat.le_refl _
  | succ b ih =>
    by_cases e : a = b + 1
    · subst e; exact Nat.le_refl _
    · have := ih (by omega)
      show ct_n f a ≤ ct_n f b + (f b).toNat
      omega
theorem ct_congr {f g : Nat → Bool} {n : Nat} (h : ∀ i, i < n → f i = g i) : ct_n f n = ct_n g n := by
  induction n with
  | zero => rfl
  | succ n ih =>
    show ct_n f n + (f n).toNat = ct_n g n + (g n).toNat
    rw [ih (fun i hi => h i (by omega)), h n (by omega)]
theorem ct_sub {f g : Nat → Bool} {n : Nat} (h : ∀ i, i < n → f i = true → g i = true) : ct_n f n ≤ ct_n g n := by
  induction n with
  | zero => exact Nat.le_refl _
  | succ n ih =>
    have h1 := ih (fun i hi => h i (by omega))
    have h2 : (f n).toNat ≤ (g n).toNat := by
      cases hf : f n
      · exact Nat.zero_le _
      · rw [h n (by omega) hf]; exact Nat.le_refl _
    show ct_n f n + (f n).toNat ≤ ct_n g n + (g n).toNat
    omega
theorem ct_lt {f g : Nat → Bool} {n k : Nat} (h : ∀ i, i < n → f i = true → g i = true) (hk : k < n) (h0 : f k = false) (h1 : g k = true) : ct_n f n < ct_n g n := by
  induction n with
  | zero => omega
  | succ n ih =>
    have h3 : ct_n f n ≤ ct_n g n := ct_sub (fun i hi => h i (by omega))
    show ct_n f n + (f n).toNat < ct_n g n + (g n).toNat
    by_cases e : k = n
    · subst e
      rw [h0, h1]
      show ct_n f k + 0 < ct_n g k + 1
      omega
    · have h2 : (f n).toNat ≤ (g n).toNat := by
        cases hf : f n
        · exact Nat.zero_le _
        · rw [h n (by omega) hf]; exact Nat.le_refl _
      have := ih (fun i hi => h i (by omega)) (by omega)
      omega
def ct_u (f : Nat → Bool) (k : Nat) : Nat → Bool := fun j => if j = k then true else f j
theorem ct_us (f : Nat → Bool) (k : Nat) : ct_u f k k = true := if_pos rfl
theorem ct_un (f : Nat → Bool) {k j : Nat} (h : j ≠ k) : ct_u f k j = f j := if_neg h
theorem ct_uo (f : Nat → Bool) (k j : Nat) (h : f j = true) : ct_u f k j = true := by
  by_cases e : j = k
  · subst e; exact ct_us f j
  · rw [ct_un f e, h]
theorem ct_add {f : Nat → Bool} {n k : Nat} (hk : k < n) (h0 : f k = false) : ct_n (ct_u f k) n = ct_n f n + 1 := by
  induction n with
  | zero => omega
  | succ n ih =>
    show ct_n (ct_u f k) n + (ct_u f k n).toNat = ct_n f n + (f n).toNat + 1
    by_cases e : k = n
    · subst e
      rw [ct_us, h0, ct_congr (f := ct_u f k) (g := f) (fun i hi => ct_un f (by omega))]
      rfl
    · rw [ih (by omega), ct_un f (by omega)]
      omega
theorem ct_full {f : Nat → Bool} {n k : Nat} (hk : k < n) (h0 : f k = false) : ct_n f n < n := by
  have h1 := ct_add hk h0
  have h2 := ct_le (ct_u f k) n
  omega
theorem ct_enum {f : Nat → Bool} {n k : Nat} (h : k < ct_n f n) : ∃ q, q < n ∧ f q = true ∧ ct_n f q = k := by
  induction n with
  | zero => exact absurd h (Nat.not_lt_zero _)
  | succ n ih =>
    by_cases e : k < ct_n f n
    · obtain ⟨q, h1, h2, h3⟩ := ih e
      exact ⟨q, by omega, h2, h3⟩
    · have h' : k < ct_n f n + (f n).toNat := h
      have := sg_toNat_lt (f n)
      cases hf : f n
      · rw [hf] at h'
        have h'' : k < ct_n f n + 0 := h'
        omega
      · exact ⟨n, by omega, hf, by omega⟩
theorem ct_pos {f : Nat → Bool} {n q : Nat} (hq : q < n) (hf : f q = true) : ct_n f q < ct_n f n := by
  have h1 := ct_mono f (a := q + 1) (b := n) hq
  have h2 : ct_n f (q + 1) = ct_n f q + 1 := by
    show ct_n f q + (f q).toNat = _
    rw [hf]; rfl
  omega
theorem ct_inj {f : Nat → Bool} {a b : Nat} (ha : f a = true) (hb : f b = true) (h : ct_n f a = ct_n f b) : a = b := by
  rcases Nat.lt_or_ge a b with h1 | h1
  · have := ct_pos h1 ha; omega
  · rcases Nat.lt_or_ge b a with h2 | h2
    · have := ct_pos h2 hb; omega
    · omega
/-- is there one below n -/
def ex_n (f : Nat → Bool) : Nat → Bool
  | 0 => false
  | n + 1 => ex_n f n || f n
theorem ex_iff {f : Nat → Bool} {n : Nat} : ex_n f n = true ↔ ∃ i, i < n ∧ f i = true := by
  induction n with
  | zero => exact ⟨fun h => (Bool.false_ne_true h).elim, fun ⟨i, hi, _⟩ => absurd hi (Nat.not_lt_zero _)⟩
  | succ n ih =>
    show (ex_n f n || f n) = true ↔ _
    rw [Bool.or_eq_true, ih]
    constructor
    · rintro (⟨i, hi, h⟩ | h)
      · exact ⟨i, by omega, h⟩
      · exact ⟨n, by omega, h⟩
    · rintro ⟨i, hi, h⟩
      by_cases e : i = n
      · subst e; exact Or.inr h
      · exact Or.inl ⟨i, by omega, h⟩
theorem ex_not {f : Nat → Bool} {n : Nat} : ex_n f n = false ↔ ∀ i, i < n → f i = false := by
  constructor
  · intro h i hi
    cases hf : f i
    · rfl
    · have := ex_iff.mpr ⟨i, hi, hf⟩
      rw [h] at this
      exact absurd this (by simp)
  · intro h
    cases he : ex_n f n
    · rfl
    · obtain ⟨i, hi, hf⟩ := ex_iff.mp he
      rw [h i hi] at hf
      exact absurd hf (by simp)
theorem ex_congr {f g : Nat → Bool} {n : Nat} (h : ∀ i, i < n → f i = g i) : ex_n f n = ex_n g n := by
  induction n with
  | zero => rfl
  | succ n ih =>
    show (ex_n f n || f n) = (ex_n g n || g n)
    rw [ih (fun i hi => h i (by omega)), h n (by omega)]
/-- all below n -/
def al_n (f : Nat → Bool) (n : Nat) : Bool := !(ex_n (fun i => !(f i)) n)
theorem al_iff {f : Nat → Bool} {n : Nat} : al_n f n = true ↔ ∀ i, i < n → f i = true := by
  unfold al_n
  rw [Bool.not_eq_true', ex_not]
  constructor
  · intro h i hi
    have := h i hi
    cases hf : f i
    · rw [hf] at this; exact absurd this (by simp)
    · rfl
  · intro h i hi
    rw [h i hi]; rfl
theorem al_not {f : Nat → Bool} {n : Nat} : al_n f n = false ↔ ∃ i, i < n ∧ f i = false := by
  unfold al_n
  rw [Bool.not_eq_false', ex_iff]
  constructor
  · rintro ⟨i, hi, h⟩
    refine ⟨i, hi, ?_⟩
    cases hf : f i
    · rfl
    · rw [hf] at h; exact absurd h (by simp)
  · rintro ⟨i, hi, h⟩
    exact ⟨i, hi, by rw [h]; rfl⟩
theorem al_congr {f g : Nat → Bool} {n : Nat} (h : ∀ i, i < n → f i = g i) : al_n f n = al_n g n := by
  unfold al_n
  rw [ex_congr (f := fun i => !(f i)) (g := fun i => !(g i)) (fun i hi => by rw [h i hi])]
theorem bo_iff {a b : Bool} (h : a = true ↔ b = true) : a = b := by
  cases a <;> cases b
  · rfl
  · exact absurd (h.mpr rfl) (by simp)
  · exact absurd (h.mp rfl) (by simp)
  · rfl
theorem bo_nt {a : Bool} (h : ¬ a = true) : a = false := by
  cases a
  · rfl
  · exact absurd rfl h
theorem bo_nf {a : Bool} (h : ¬ a = false) : a = true := by
  cases a
  · exact absurd rfl h
  · rfl
/-- r is the least one below n, or -1 -/
def ls_n (f : Nat → Bool) (n : Nat) (r : Int32) : Prop := (r = -1 ∧ ∀ i, i < n → f i = false) ∨ ∃ k, k < n ∧ r = nI k ∧ f k = true ∧ ∀ i, i < k → f i = false
theorem ls_uniq {f : Nat → Bool} {n : Nat} {a b : Int32} (ha : ls_n f n a) (hb : ls_n f n b) : a = b := by
  rcases ha with ⟨ea, h⟩ | ⟨k, hk, ea, hf, h⟩
  · rcases hb with ⟨eb, _⟩ | ⟨j, hj, eb, hg, _⟩
    · rw [ea, eb]
    · rw [h j hj] at hg; exact absurd hg (by simp)
  · rcases hb with ⟨eb, g⟩ | ⟨j, hj, eb, hg, g⟩
    · rw [g k hk] at hf; exact absurd hf (by simp)
    · have : k = j := by
        rcases Nat.lt_or_ge k j with z | z
        · rw [g k z] at hf; exact absurd hf (by simp)
        · rcases Nat.lt_or_ge j k with y | y
          · rw [h j y] at hg; exact absurd hg (by simp)
          · omega
      rw [ea, eb, this]
theorem ls_congr {f g : Nat → Bool} {n : Nat} {r : Int32} (h : ∀ i, i < n → f i = g i) (k : ls_n f n r) : ls_n g n r := by
  rcases k with ⟨e, z⟩ | ⟨j, hj, e, hf, z⟩
  · exact Or.inl ⟨e, fun i hi => by rw [← h i hi]; exact z i hi⟩
  · exact Or.inr ⟨j, hj, e, by rw [← h j hj]; exact hf, fun i hi => by rw [← h i (by omega)]; exact z i hi⟩
theorem ls_bad {f : Nat → Bool} {n : Nat} {r : Int32} (hn : n < 2 ^ 31) (k : ls_n f n r) : r = -1 ↔ ex_n f n = false := by
  rw [ex_not]
  rcases k with ⟨e, z⟩ | ⟨j, hj, e, hf, z⟩
  · exact ⟨fun _ => z, fun _ => e⟩
  · constructor
    · intro h
      exfalso
      have h2 : nI j = -1 := by rw [← e, h]
      have h3 := congrArg Int32.toInt h2
      rw [nI_toInt (by omega)] at h3
      have h4 : (-1 : Int32).toInt = -1 := by decide
      omega
    · intro h
      rw [h j hj] at hf
      exact absurd hf (by simp)
