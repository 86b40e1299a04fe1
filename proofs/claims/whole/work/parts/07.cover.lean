/-! n of the first np sets cover A -/
def fw_c (np : Nat) (km : Nat → Nat) : Nat → Nat → Prop
  | 0 => fun A => A = 0
  | n + 1 => fun A => ∃ k, k < np ∧ fw_c np km n (sg_an A (km k))
def fw_L (np : Nat) (km : Nat → Nat) (A n : Nat) : Prop := fw_c np km n A ∧ ∀ j, fw_c np km j A → n ≤ j
theorem fw_0 (np : Nat) (km : Nat → Nat) : fw_L np km 0 0 := ⟨rfl, fun _ _ => Nat.zero_le _⟩
theorem fw_u {np : Nat} {km : Nat → Nat} {A m n : Nat} (h : fw_L np km A m) (k : fw_L np km A n) : m = n := Nat.le_antisymm (h.2 _ k.1) (k.2 _ h.1)
theorem fw_first {np : Nat} {km : Nat → Nat} : ∀ n A b, fw_c np km (n + 1) A → A.testBit b = true → ∃ k, k < np ∧ (km k).testBit b = true ∧ fw_c np km n (sg_an A (km k)) := by
  intro n
  induction n with
  | zero =>
    rintro A b ⟨k, hk, h⟩ hb
    refine ⟨k, hk, ?_, h⟩
    have h' : sg_an A (km k) = 0 := h
    exact sg_an_0.mp h' b hb
  | succ n ih =>
    rintro A b ⟨k, hk, h⟩ hb
    cases hkb : (km k).testBit b
    · have hb2 : (sg_an A (km k)).testBit b = true := by rw [sg_anb, hb, hkb]; rfl
      obtain ⟨j, hj, hjb, hc⟩ := ih (sg_an A (km k)) b h hb2
      refine ⟨j, hj, hjb, k, hk, ?_⟩
      rw [sg_anc]
      exact hc
    · exact ⟨k, hk, hkb, h⟩
/-- every member in some set: so many sets do -/
theorem fw_ex {np : Nat} {km : Nat → Nat} : ∀ d A, (∀ i, A.testBit i = true → i < d ∧ ∃ k, k < np ∧ (km k).testBit i = true) → ∃ n, n ≤ d ∧ fw_c np km n A := by
  intro d
  induction d with
  | zero =>
    intro A h
    refine ⟨0, Nat.le_refl _, ?_⟩
    show A = 0
    refine sg_0 (fun i => bo_nt (fun z => ?_))
    exact absurd (h i z).1 (Nat.not_lt_zero _)
  | succ d ih =>
    intro A h
    cases hd : A.testBit d
    · obtain ⟨n, hn, hc⟩ := ih A (fun i hi => by
        have h1 := h i hi
        have : i ≠ d := by intro e; subst e; rw [hd] at hi; exact absurd hi (by simp)
        exact ⟨by omega, h1.2⟩)
      exact ⟨n, by omega, hc⟩
    · obtain ⟨_, k, hk, hkd⟩ := h d hd
      obtain ⟨n, hn, hc⟩ := ih (sg_an A (km k)) (fun i hi => by
        have hA : A.testBit i = true := sg_sub_an A (km k) i hi
        have h1 := h i hA
        have : i ≠ d := by
          intro e
          subst e
          rw [sg_anb, hkd, hd] at hi
          exact absurd hi (by simp)
        exact ⟨by omega, h1.2⟩)
      exact ⟨n + 1, by omega, k, hk, hc⟩
theorem fw_exL {np : Nat} {km : Nat → Nat} {d A : Nat} (h : ∀ i, A.testBit i = true → i < d ∧ ∃ k, k < np ∧ (km k).testBit i = true) : ∃ n, n ≤ d ∧ fw_L np km A n := by
  obtain ⟨n, hn, hc⟩ := fw_ex d A h
  obtain ⟨m, hm, hl⟩ := pk_least (fun n => fw_c np km n A) ⟨n, hc⟩
  have hmj : ∀ j, fw_c np km j A → m ≤ j := by
    intro j hj
    rcases Nat.lt_or_ge j m with z | z
    · exact absurd hj (hl j z)
    · exact z
  exact ⟨m, Nat.le_trans (hmj n hc) hn, hm, hmj⟩
/-- one row of the table: the least over the sets that have member b -/
def fw_m (km F : Nat → Nat) (A b : Nat) : Nat → Nat
  | 0 => 16
  | k + 1 => if (km k).testBit b = true then (if 1 + F (sg_an A (km k)) < fw_m km F A b k then 1 + F (sg_an A (km k)) else fw_m km F A b k) else fw_m km F A b k
theorem fw_mle {km F : Nat → Nat} {A b : Nat} : ∀ n k, k < n → (km k).testBit b = true → fw_m km F A b n ≤ 1 + F (sg_an A (km k)) := by
  intro n
  induction n with
  | zero => intro k hk; omega
  | succ n ih =>
    intro k hk hb
    show (if (km n).testBit b = true then (if 1 + F (sg_an A (km n)) < fw_m km F A b n then 1 + F (sg_an A (km n)) else fw_m km F A b n) else fw_m km F A b n) ≤ _
    by_cases e : k = n
    · subst e
      rw [if_pos hb]
      split <;> omega
    · have := ih k (by omega) hb
      split
      · split <;> omega
      · exact this
theorem fw_mis {km F : Nat → Nat} {A b : Nat} : ∀ n, fw_m km F A b n = 16 ∨ ∃ k, k < n ∧ (km k).testBit b = true ∧ fw_m km F A b n = 1 + F (sg_an A (km k)) := by
  intro n
  induction n with
  | zero => exact Or.inl rfl
  | succ n ih =>
    show (if (km n).testBit b = true then (if 1 + F (sg_an A (km n)) < fw_m km F A b n then 1 + F (sg_an A (km n)) else fw_m km F A b n) else fw_m km F A b n) = 16 ∨ ∃ k, k < n + 1 ∧ (km k).testBit b = true ∧ (if (km n).testBit b = true then (if 1 + F (sg_an A (km n)) < fw_m km F A b n then 1 + F (sg_an A (km n)) else fw_m km F A b n) else fw_m km F A b n) = 1 + F (sg_an A (km k))
    have up : fw_m km F A b n = 16 ∨ ∃ k, k < n + 1 ∧ (km k).testBit b = true ∧ fw_m km F A b n = 1 + F (sg_an A (km k)) := by
      rcases ih with h | ⟨k, hk, h⟩
      · exact Or.inl h
      · exact Or.inr ⟨k, by omega, h⟩
    by_cases hb : (km n).testBit b = true
    · rw [if_pos hb]
      by_cases hl : 1 + F (sg_an A (km n)) < fw_m km F A b n
      · rw [if_pos hl]; exact Or.inr ⟨n, by omega, hb, rfl⟩
      · rw [if_neg hl]; exact up
    · rw [if_neg hb]; exact up
theorem fw_m16 {km F : Nat → Nat} {A b : Nat} : ∀ n, fw_m km F A b n ≤ 16 := by
  intro n
  induction n with
  | zero => exact Nat.le_refl _
  | succ n ih =>
    show (if (km n).testBit b = true then (if 1 + F (sg_an A (km n)) < fw_m km F A b n then 1 + F (sg_an A (km n)) else fw_m km F A b n) else fw_m km F A b n) ≤ 16
    split
    · split <;> omega
    · exact ih
theorem fw_mL {np : Nat} {km F : Nat → Nat} {A b : Nat} (hA : ∀ i, A.testBit i = true → i < 16 ∧ ∃ k, k < np ∧ (km k).testBit i = true) (hb : A.testBit b = true)
    (hF : ∀ k, k < np → (km k).testBit b = true → fw_L np km (sg_an A (km k)) (F (sg_an A (km k)))) : fw_L np km A (fw_m km F A b np) := by
  obtain ⟨n, hn, hc, hl⟩ := fw_exL hA
  have h1 : n ≤ fw_m km F A b np := by
    rcases fw_mis (km := km) (F := F) (A := A) (b := b) np with h | ⟨k, hk, hkb, h⟩
    · omega
    · rw [h]
      refine hl _ ?_
      rw [Nat.add_comm]
      exact ⟨k, hk, (hF k hk hkb).1⟩
  have h2 : fw_m km F A b np ≤ n := by
    cases n with
    | zero =>
      have : A = 0 := hc
      rw [this, Nat.zero_testBit] at hb
      exact absurd hb (by simp)
    | succ n =>
      obtain ⟨k, hk, hkb, h⟩ := fw_first n A b hc hb
      have h3 := fw_mle (km := km) (F := F) (A := A) np k hk hkb
      have h4 := (hF k hk hkb).2 n h
      omega
  have : fw_m km F A b np = n := by omega
  rw [this]
  exact ⟨hc, hl⟩
/-- the chosen ones cover A: so many do -/
theorem fw_of {np : Nat} {km : Nat → Nat} {M : Nat → Bool} : ∀ j A, j ≤ np → (∀ i, A.testBit i = true → ∃ k, k < j ∧ M k = true ∧ (km k).testBit i = true) → fw_c np km (ct_n M j) A := by
  intro j
  induction j with
  | zero =>
    intro A _ h
    show A = 0
    refine sg_0 (fun i => bo_nt (fun z => ?_))
    obtain ⟨k, hk, _⟩ := h i z
    exact absurd hk (Nat.not_lt_zero _)
  | succ j ih =>
    intro A hj h
    show fw_c np km (ct_n M j + (M j).toNat) A
    cases hM : M j
    · refine ih A (by omega) (fun i hi => ?_)
      obtain ⟨k, hk, h1, h2⟩ := h i hi
      have : k ≠ j := by intro e; subst e; rw [hM] at h1; exact absurd h1 (by simp)
      exact ⟨k, by omega, h1, h2⟩
    · refine ⟨j, by omega, ih (sg_an A (km j)) (by omega) (fun i hi => ?_)⟩
      obtain ⟨k, hk, h1, h2⟩ := h i (sg_sub_an _ _ i hi)
      have : k ≠ j := by intro e; subst e; rw [sg_anb, h2] at hi; cases A.testBit i <;> exact absurd hi (by simp)
      exact ⟨k, by omega, h1, h2⟩
theorem ct_rng (f : Nat → Bool) (lo : Nat) : ∀ n, lo ≤ n → ct_n (fun i => f i && decide (lo ≤ i)) n + ct_n f lo = ct_n f n := by
  intro n
  induction n with
  | zero =>
    intro h
    have : lo = 0 := by omega
    subst this
    rfl
  | succ n ih =>
    intro h
    show ct_n (fun i => f i && decide (lo ≤ i)) n + (f n && decide (lo ≤ n)).toNat + ct_n f lo = ct_n f n + (f n).toNat
    by_cases e : lo ≤ n
    · rw [decide_eq_true e, Bool.and_true]
      have := ih e
      omega
    · have e2 : lo = n + 1 := by omega
      subst e2
      have hz : ∀ k, k ≤ n → ct_n (fun i => f i && decide (n + 1 ≤ i)) k = 0 := by
        intro k
        induction k with
        | zero => intro _; rfl
        | succ k ih2 =>
          intro hk
          show ct_n (fun i => f i && decide (n + 1 ≤ i)) k + (f k && decide (n + 1 ≤ k)).toNat = 0
          rw [ih2 (by omega), decide_eq_false (by omega), Bool.and_false]
          rfl
      rw [hz n (Nat.le_refl _), decide_eq_false e, Bool.and_false]
      show 0 + 0 + (ct_n f n + (f n).toNat) = _
      omega
/-! one pass that takes what lowers F -/
def gr_O (km F : Nat → Nat) (W : Nat) : Nat → Nat
  | 0 => W
  | k + 1 => if F (sg_an (gr_O km F W k) (km k)) < F (gr_O km F W k) then sg_an (gr_O km F W k) (km k) else gr_O km F W k
def gr_G (km F : Nat → Nat) (W k : Nat) : Bool := decide (F (sg_an (gr_O km F W k) (km k)) < F (gr_O km F W k))
theorem gr_O1 {km F : Nat → Nat} {W k : Nat} (h : gr_G km F W k = true) : gr_O km F W (k + 1) = sg_an (gr_O km F W k) (km k) := if_pos (of_decide_eq_true h)
theorem gr_O0 {km F : Nat → Nat} {W k : Nat} (h : gr_G km F W k = false) : gr_O km F W (k + 1) = gr_O km F W k := if_neg (of_decide_eq_false h)
section
variable {np : Nat} {km F : Nat → Nat} {W : Nat}
theorem gr_sub : ∀ k, sg_sub (gr_O km F W k) W := by
  intro k
  induction k with
  | zero => exact sg_sub_r W
  | succ k ih =>
    cases h : gr_G km F W k
    · rw [gr_O0 h]; exact ih
    · rw [gr_O1 h]; exact sg_sub_t (sg_sub_an _ _) ih
theorem gr_1 (hF : ∀ A, sg_sub A W → fw_L np km A (F A)) {A k : Nat} (hA : sg_sub A W) (hk : k < np) : F A ≤ F (sg_an A (km k)) + 1 :=
  (hF A hA).2 _ ⟨k, hk, (hF _ (sg_sub_t (sg_sub_an A (km k)) hA)).1⟩
theorem gr_2 (hF : ∀ A, sg_sub A W → fw_L np km A (F A)) {A : Nat} (hA : sg_sub A W) (h0 : F A ≠ 0) : ∃ k, k < np ∧ F (sg_an A (km k)) < F A := by
  have h1 := (hF A hA).1
  cases e : F A with
  | zero => exact absurd e h0
  | succ n =>
    rw [e] at h1
    obtain ⟨k, hk, h2⟩ := h1
    refine ⟨k, hk, ?_⟩
    have := (hF _ (sg_sub_t (sg_sub_an A (km k)) hA)).2 n h2
    omega
theorem gr_cnt (hF : ∀ A, sg_sub A W → fw_L np km A (F A)) : ∀ k, k ≤ np → F (gr_O km F W k) + ct_n (gr_G km F W) k = F W := by
  intro k
  induction k with
  | zero => intro _; rfl
  | succ k ih =>
    intro hk
    have h1 := ih (by omega)
    show F (gr_O km F W (k + 1)) + (ct_n (gr_G km F W) k + (gr_G km F W k).toNat) = F W
    cases h : gr_G km F W k
    · rw [gr_O0 h]
      show _ + (_ + 0) = _
      omega
    · rw [gr_O1 h]
      have h2 := of_decide_eq_true h
      have h3 := gr_1 hF (gr_sub (km := km) (F := F) (W := W) k) (k := k) (by omega)
      show _ + (_ + 1) = _
      omega
theorem gr_use (hF : ∀ A, sg_sub A W → fw_L np km A (F A)) : ∀ i, i ≤ np → ∀ j, j < i → F (gr_O km F W i) ≤ F (sg_an (gr_O km F W i) (km j)) := by
  intro i
  induction i with
  | zero => intro _ j hj; omega
  | succ i ih =>
    intro hi j hj
    have hs := gr_sub (km := km) (F := F) (W := W) i
    cases h : gr_G km F W i
    · rw [gr_O0 h]
      by_cases e : j = i
      · subst e
        have := of_decide_eq_false h
        omega
      · exact ih (by omega) j (by omega)
    · rw [gr_O1 h]
      have h2 := of_decide_eq_true h
      by_cases e : j = i
      · subst e
        have e2 : sg_an (sg_an (gr_O km F W j) (km j)) (km j) = sg_an (gr_O km F W j) (km j) := by
          apply Nat.eq_of_testBit_eq
          intro b
          rw [sg_anb, sg_anb]
          cases (gr_O km F W j).testBit b <;> cases (km j).testBit b <;> rfl
        rw [e2]
        exact Nat.le_refl _
      · have h3 := ih (by omega) j (by omega)
        rw [sg_anc]
        have h4 := gr_1 hF (sg_sub_t (sg_sub_an _ (km j)) hs) (k := i) (by omega)
        have h5 := gr_1 hF hs (k := i) (by omega)
        omega
theorem gr_end (hF : ∀ A, sg_sub A W → fw_L np km A (F A)) : gr_O km F W np = 0 ∧ ct_n (gr_G km F W) np = F W := by
  have hs := gr_sub (km := km) (F := F) (W := W) np
  have h0 : F (gr_O km F W np) = 0 := by
    apply Classical.byContradiction
    intro h
    obtain ⟨k, hk, h1⟩ := gr_2 hF hs h
    have := gr_use hF np (Nat.le_refl _) k hk
    omega
  have h1 := gr_cnt hF np (Nat.le_refl _)
  have h2 := (hF _ hs).1
  rw [h0] at h2
  exact ⟨h2, by omega⟩
theorem gr_mem (k : Nat) : ∀ c, (gr_O km F W k).testBit c = true ↔ W.testBit c = true ∧ ∀ j, j < k → gr_G km F W j = true → (km j).testBit c = false := by
  induction k with
  | zero => exact fun c => ⟨fun h => ⟨h, fun j hj => absurd hj (Nat.not_lt_zero _)⟩, fun h => h.1⟩
  | succ k ih =>
    intro c
    cases h : gr_G km F W k
    · rw [gr_O0 h, ih c]
      refine ⟨fun ⟨a, b⟩ => ⟨a, fun j hj hG => ?_⟩, fun ⟨a, b⟩ => ⟨a, fun j hj hG => b j (by omega) hG⟩⟩
      by_cases e : j = k
      · subst e; rw [h] at hG; exact absurd hG (by simp)
      · exact b j (by omega) hG
    · rw [gr_O1 h, sg_anb, Bool.and_eq_true, ih c, Bool.not_eq_true']
      refine ⟨fun ⟨⟨a, b⟩, d⟩ => ⟨a, fun j hj hG => ?_⟩, fun ⟨a, b⟩ => ⟨⟨a, fun j hj hG => b j (by omega) hG⟩, b k (by omega) h⟩⟩
      by_cases e : j = k
      · subst e; exact d
      · exact b j (by omega) hG
theorem gr_cov (hF : ∀ A, sg_sub A W → fw_L np km A (F A)) {c : Nat} (hc : W.testBit c = true) : ∃ k, k < np ∧ gr_G km F W k = true ∧ (km k).testBit c = true := by
  apply Classical.byContradiction
  intro h
  have h1 := (gr_mem (km := km) (F := F) (W := W) np c).mpr ⟨hc, fun j hj hG => bo_nt (fun z => h ⟨j, hj, hG, z⟩)⟩
  rw [(gr_end hF).1, Nat.zero_testBit] at h1
  exact absurd h1 (by simp)
end
/-! lists as numbers: the first is the highest digit -/
def nu_v (g : Nat → Bool) : Nat → Nat
  | 0 => 0
  | k + 1 => 2 * nu_v g k + (g k).toNat
theorem nu_lt (g : Nat → Bool) (n : Nat) : nu_v g n < 2 ^ n := by
  induction n with
  | zero => exact (by decide : 0 < 2 ^ 0)
  | succ n ih =>
    have := sg_toNat_lt (g n)
    show 2 * nu_v g n + (g n).toNat < 2 ^ (n + 1)
    rw [Nat.pow_succ]
    omega
theorem nu_inj {g h : Nat → Bool} : ∀ n, nu_v g n = nu_v h n → ∀ k, k < n → g k = h k := by
  intro n
  induction n with
  | zero => intro _ k hk; omega
  | succ n ih =>
    intro e k hk
    have e' : 2 * nu_v g n + (g n).toNat = 2 * nu_v h n + (h n).toNat := e
    have a := sg_toNat_lt (g n)
    have b := sg_toNat_lt (h n)
    by_cases ek : k = n
    · subst ek
      have : (g k).toNat = (h k).toNat := by omega
      cases hg : g k <;> cases hh : h k <;> rw [hg, hh] at this <;> first | rfl | exact absurd this (by simp)
    · exact ih (by omega) k (by omega)
theorem nu_first {g h : Nat → Bool} : ∀ n, nu_v g n < nu_v h n → ∃ k, k < n ∧ (∀ j, j < k → g j = h j) ∧ g k = false ∧ h k = true := by
  intro n
  induction n with
  | zero => intro z; exact absurd z (Nat.lt_irrefl _)
  | succ n ih =>
    intro e
    have e' : 2 * nu_v g n + (g n).toNat < 2 * nu_v h n + (h n).toNat := e
    have a := sg_toNat_lt (g n)
    have b := sg_toNat_lt (h n)
    by_cases z : nu_v g n < nu_v h n
    · obtain ⟨k, hk, r⟩ := ih z
      exact ⟨k, by omega, r⟩
    · have z2 : nu_v g n = nu_v h n := by omega
      refine ⟨n, by omega, nu_inj n z2, ?_⟩
      have h1 : (g n).toNat = 0 := by omega
      have h2 : (h n).toNat = 1 := by omega
      cases hg : g n <;> cases hh : h n <;> rw [hg] at h1 <;> rw [hh] at h2 <;> first | exact ⟨rfl, rfl⟩ | exact absurd h1 (by decide) | exact absurd h2 (by decide)
def nu_in (n M k : Nat) : Bool := M.testBit (n - 1 - k)
theorem nu_M {n M : Nat} (hM : M < 2 ^ n) : nu_v (nu_in n M) n = M := by
  have : ∀ j, j ≤ n → nu_v (nu_in n M) j = M / 2 ^ (n - j) := by
    intro j
    induction j with
    | zero => intro _; exact (Nat.div_eq_of_lt hM).symm
    | succ j ih =>
      intro hj
      show 2 * nu_v (nu_in n M) j + (nu_in n M j).toNat = _
      rw [ih (by omega)]
      unfold nu_in
      have e : n - j = n - (j + 1) + 1 := by omega
      rw [e, Nat.pow_succ, ← Nat.div_div_eq_div_mul, show n - 1 - j = n - (j + 1) from by omega, Nat.testBit_eq_decide_div_mod_eq]
      generalize M / 2 ^ (n - (j + 1)) = z
      have : (decide (z % 2 = 1)).toNat = z % 2 := by
        rcases Nat.mod_two_eq_zero_or_one z with h | h <;> rw [h] <;> rfl
      omega
  have h := this n (Nat.le_refl _)
  rw [Nat.sub_self, Nat.pow_zero, Nat.div_one] at h
  exact h
theorem nu_of (g : Nat → Bool) {n k : Nat} (hk : k < n) : nu_in n (nu_v g n) k = g k :=
  nu_inj n (nu_M (nu_lt g n)) k hk
/-- the best set of sets: the fewest, then the greatest number -/
def nu_B (np : Nat) (Cv : (Nat → Bool) → Prop) (n M : Nat) : Prop :=
  M < 2 ^ np ∧ Cv (nu_in np M) ∧ ct_n (nu_in np M) np = n ∧ ∀ M', M' < 2 ^ np → Cv (nu_in np M') → n ≤ ct_n (nu_in np M') np ∧ (ct_n (nu_in np M') np = n → M' ≤ M)
theorem nu_Bu {np : Nat} {Cv : (Nat → Bool) → Prop} {n M n' M' : Nat} (h : nu_B np Cv n M) (k : nu_B np Cv n' M') : n = n' ∧ M = M' := by
  obtain ⟨h1, h2, h3, h4⟩ := h
  obtain ⟨k1, k2, k3, k4⟩ := k
  have a := h4 M' k1 k2
  have b := k4 M h1 h2
  rw [k3] at a
  rw [h3] at b
  have e : n = n' := by omega
  exact ⟨e, Nat.le_antisymm (b.2 e) (a.2 e.symm)⟩
theorem gr_best {np : Nat} {km F : Nat → Nat} {W : Nat} (hF : ∀ A, sg_sub A W → fw_L np km A (F A)) {Cv : (Nat → Bool) → Prop}
    (hC : ∀ g, Cv g ↔ ∀ c, W.testBit c = true → ∃ k, k < np ∧ g k = true ∧ (km k).testBit c = true) : nu_B np Cv (F W) (nu_v (gr_G km F W) np) := by
  have hin : ∀ k, k < np → nu_in np (nu_v (gr_G km F W) np) k = gr_G km F W k := fun k hk => nu_of _ hk
  refine ⟨nu_lt _ np, ?_, ?_, fun M h1 h2 => ?_⟩
  · exact (hC _).mpr (fun c hc => by
      obtain ⟨k, hk, a, b⟩ := gr_cov hF hc
      exact ⟨k, hk, by rw [hin k hk]; exact a, b⟩)
  · rw [ct_congr hin]; exact (gr_end hF).2
  have hM := (hF W (sg_sub_r W)).2 _ (fw_of (M := nu_in np M) np W (Nat.le_refl _) ((hC _).mp h2))
  refine ⟨hM, fun h3 => ?_⟩
  have hge : ¬ nu_v (gr_G km F W) np < nu_v (nu_in np M) np := by
    intro z
    obtain ⟨k, hk, ha, hb, hd⟩ := nu_first np z
    have hs := gr_sub (km := km) (F := F) (W := W) k
    have hsA := sg_sub_t (sg_sub_an (gr_O km F W k) (km k)) hs
    have hfw := fw_of (np := np) (km := km) (M := fun i => nu_in np M i && decide (k + 1 ≤ i)) np (sg_an (gr_O km F W k) (km k)) (Nat.le_refl _) (fun c hc => by
      rw [sg_anb, Bool.and_eq_true, Bool.not_eq_true'] at hc
      obtain ⟨hO, hkc⟩ := hc
      obtain ⟨hW, hno⟩ := (gr_mem k c).mp hO
      obtain ⟨j, hj, hjM, hjc⟩ := (hC _).mp h2 c hW
      refine ⟨j, hj, ?_, hjc⟩
      have hjk : k + 1 ≤ j := by
        apply Classical.byContradiction
        intro hlt
        by_cases e : j = k
        · subst e; rw [hkc] at hjc; exact absurd hjc (by simp)
        · have := hno j (by omega) (by rw [ha j (by omega)]; exact hjM)
          rw [this] at hjc
          exact absurd hjc (by simp)
      rw [hjM, decide_eq_true hjk]
      rfl)
    have hle2 := (hF _ hsA).2 _ hfw
    have hr := ct_rng (nu_in np M) (k + 1) np hk
    have hc1 : ct_n (nu_in np M) (k + 1) = ct_n (gr_G km F W) k + 1 := by
      show ct_n (nu_in np M) k + (nu_in np M k).toNat = _
      rw [hd, ct_congr (f := nu_in np M) (g := gr_G km F W) (fun i hi => (ha i hi).symm)]
      rfl
    have hc2 := gr_cnt hF k (by omega)
    have : gr_G km F W k = true := decide_eq_true (by omega)
    rw [hb] at this
    exact absurd this (by simp)
  rw [nu_M h1] at hge
  omega
/-- the search downwards: the numbers from k on are done -/
def nu_I (np : Nat) (Cv : (Nat → Bool) → Prop) (k n M : Nat) : Prop :=
  (∀ M', k ≤ M' → M' < 2 ^ np → Cv (nu_in np M') → n ≤ ct_n (nu_in np M') np ∧ (ct_n (nu_in np M') np = n → M' ≤ M)) ∧ ((n = 100 ∧ M = 0) ∨ (M < 2 ^ np ∧ k ≤ M ∧ Cv (nu_in np M) ∧ ct_n (nu_in np M) np = n))
theorem nu_take {np : Nat} {Cv : (Nat → Bool) → Prop} {k n M : Nat} (I : nu_I np Cv (k + 1) n M) (hk : k < 2 ^ np) (hc : Cv (nu_in np k)) (hn : ct_n (nu_in np k) np < n) : nu_I np Cv k (ct_n (nu_in np k) np) k := by
  refine ⟨fun M' h1 h2 h3 => ?_, Or.inr ⟨hk, Nat.le_refl _, hc, rfl⟩⟩
  by_cases e : M' = k
  · subst e; exact ⟨Nat.le_refl _, fun _ => Nat.le_refl _⟩
  · have := I.1 M' (by omega) h2 h3
    exact ⟨by omega, fun z => by omega⟩
theorem nu_pass {np : Nat} {Cv : (Nat → Bool) → Prop} {k n M : Nat} (hp : np < 100) (I : nu_I np Cv (k + 1) n M) (h : n ≤ ct_n (nu_in np k) np ∨ ¬ Cv (nu_in np k)) : nu_I np Cv k n M := by
  have hc := ct_le (nu_in np k) np
  refine ⟨fun M' h1 h2 h3 => ?_, ?_⟩
  · by_cases e : M' = k
    · subst e
      rcases h with h | h
      · refine ⟨h, fun z => ?_⟩
        rcases I.2 with ⟨h5, _⟩ | ⟨_, h5, _⟩
        · omega
        · omega
      · exact absurd h3 h
    · exact I.1 M' (by omega) h2 h3
  · rcases I.2 with h5 | ⟨h5, h6, h7⟩
    · exact Or.inl h5
    · exact Or.inr ⟨h5, by omega, h7⟩
theorem nu_start (np : Nat) (Cv : (Nat → Bool) → Prop) : nu_I np Cv (2 ^ np) 100 0 :=
  ⟨fun M' h1 h2 => absurd h2 (by omega), Or.inl ⟨rfl, rfl⟩⟩
theorem nu_end {np : Nat} {Cv : (Nat → Bool) → Prop} {n M M0 : Nat} (hp : np < 100) (I : nu_I np Cv 0 n M) (h0 : M0 < 2 ^ np) (hc : Cv (nu_in np M0)) : nu_B np Cv n M := by
  have h1 := (I.1 M0 (Nat.zero_le _) h0 hc).1
  have h2 := ct_le (nu_in np M0) np
  rcases I.2 with ⟨h5, _⟩ | ⟨h5, _, h6, h7⟩
  · omega
  · exact ⟨h5, h6, h7, fun M' a b => I.1 M' (Nat.zero_le _) a b⟩
