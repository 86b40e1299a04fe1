/-! what the walks need beside -/
theorem bo_br {b : Bool} {A B : Prop} (f : b = false → A) (g : b = true → B) : (nI b.toNat = 0 → A) ∧ (¬ nI b.toNat = 0 → B) :=
  ⟨fun h => f (sg_t0.mp h), fun h => g (bo_nf (fun z => h (sg_t0.mpr z)))⟩
theorem bo_br1 {b : Bool} {A B : Prop} (f : b = true → A) (g : b = false → B) : (nI b.toNat = 1 → A) ∧ (¬ nI b.toNat = 1 → B) :=
  ⟨fun h => f (sg_t1.mp h), fun h => g (bo_nt (fun z => h (sg_t1.mpr z)))⟩
theorem bo_or (a b : Bool) : nI a.toNat ||| nI b.toNat = nI (a || b).toNat := by cases a <;> cases b <;> decide +kernel
theorem bo_and (a b : Bool) : nI a.toNat &&& nI b.toNat = nI (a && b).toNat := by cases a <;> cases b <;> decide +kernel
theorem bo_nar (b : Bool) : narrow .boolean (.int (nI b.toNat)) = .int (nI b.toNat) := by cases b <;> rfl
theorem bo_vn (b : Bool) : vp_nar .boolean (nI b.toNat) = nI b.toNat := by cases b <;> rfl
theorem bo_e1 : nI true.toNat = 1 := rfl
theorem bo_e0 : nI false.toNat = 0 := rfl
def xe_ex (R X : Nat → Bool) (c j : Nat) : Bool := ex_n (fun s => (s % 16 == c) && (R s && X s)) j
theorem xe_any {R X : Nat → Bool} {c : Nat} (hc : c < 16) : xe_ex R X c 1024 = ex_n (fun m => R (16 * m + c) && X (16 * m + c)) 64 := by
  apply bo_iff
  unfold xe_ex
  rw [ex_iff, ex_iff]
  constructor
  · rintro ⟨s, hs, h⟩
    rw [Bool.and_eq_true, beq_iff_eq] at h
    refine ⟨s / 16, by omega, ?_⟩
    rw [show 16 * (s / 16) + c = s from by omega]
    exact h.2
  · rintro ⟨m, hm, h⟩
    refine ⟨16 * m + c, by omega, ?_⟩
    rw [h, show (16 * m + c) % 16 = c from by omega, beq_self_eq_true]
    rfl
/-- the component's marks of a code -/
def xe_A (T : Nat) (sg dr pe po : Nat → Nat) (R : Nat → Bool) (j : Nat) (as aa ao : Nat → Int32) : Prop := ∀ c, c < 16 → as c = nI (xe_ex R (fun _ => true) c j).toNat ∧ ∀ i, i < 4 →
  bt (aa c) i = !(xe_ex R (fun s => !(nt_ex T sg dr pe po i (s / 16) (s % 16))) c j) ∧ bt (ao c) i = xe_ex R (fun s => nt_ex T sg dr pe po i (s / 16) (s % 16)) c j
theorem xe_seen {T : Nat} {sg dr pe po : Nat → Nat} {R : Nat → Bool} {as aa ao : Nat → Int32} (A : xe_A T sg dr pe po R 1024 as aa ao) {c : Nat} (hc : c < 16) : as c = nI (nv_seen R c).toNat := by
  rw [(A c hc).1, xe_any hc]
  unfold nv_seen
  rw [ex_congr (f := fun m => R (16 * m + c) && true) (g := fun m => R (16 * m + c)) (fun i _ => Bool.and_true _)]
theorem xe_all {T : Nat} {sg dr pe po : Nat → Nat} {R : Nat → Bool} {as aa ao : Nat → Int32} (A : xe_A T sg dr pe po R 1024 as aa ao) {c i : Nat} (hc : c < 16) (hi : i < 4) :
    bt (aa c) i = nv_all R (fun m => nt_ex T sg dr pe po i m c) c ∧ bt (ao c) i = nv_any R (fun m => nt_ex T sg dr pe po i m c) c := by
  obtain ⟨h1, h2⟩ := (A c hc).2 i hi
  have e1 : ∀ m, (16 * m + c) / 16 = m := fun m => by omega
  have e2 : ∀ m, (16 * m + c) % 16 = c := fun m => by omega
  constructor
  · rw [h1, xe_any hc]
    unfold nv_all al_n
    rw [ex_congr (fun m _ => ?_)]
    dsimp only
    rw [e1, e2]
    cases R (16 * m + c) <;> cases nt_ex T sg dr pe po i m c <;> rfl
  · rw [h2, xe_any hc]
    unfold nv_any
    rw [ex_congr (fun m _ => ?_)]
    dsimp only
    rw [e1, e2]
/-- one state more -/
theorem xe_no {R X : Nat → Bool} {c j : Nat} (h : R j = false) : xe_ex R X c (j + 1) = xe_ex R X c j := by
  show (xe_ex R X c j || ((j % 16 == c) && (R j && X j))) = _
  rw [h]; simp
theorem xe_ne {R X : Nat → Bool} {c j : Nat} (h : c ≠ j % 16) : xe_ex R X c (j + 1) = xe_ex R X c j := by
  show (xe_ex R X c j || ((j % 16 == c) && (R j && X j))) = _
  rw [beq_eq_false_iff_ne.mpr (fun z => h z.symm)]; simp
theorem xe_eq {R X : Nat → Bool} {j : Nat} (h : R j = true) : xe_ex R X (j % 16) (j + 1) = (xe_ex R X (j % 16) j || X j) := by
  show (xe_ex R X (j % 16) j || ((j % 16 == j % 16) && (R j && X j))) = _
  rw [h, beq_self_eq_true]; rfl
theorem xe_skip {T : Nat} {sg dr pe po : Nat → Nat} {R : Nat → Bool} {as aa ao : Nat → Int32} {j : Nat} (A : xe_A T sg dr pe po R j as aa ao) (h : R j = false) : xe_A T sg dr pe po R (j + 1) as aa ao := by
  intro c hc
  obtain ⟨h1, h2⟩ := A c hc
  refine ⟨by rw [xe_no h]; exact h1, fun i hi => ?_⟩
  rw [xe_no h, xe_no h]
  exact h2 i hi
theorem xe_put {T : Nat} {sg dr pe po : Nat → Nat} {R : Nat → Bool} {as aa ao : Nat → Int32} {j M : Nat} (A : xe_A T sg dr pe po R j as aa ao) (h : R j = true)
    (hM : ∀ i, M.testBit i = nt_ex T sg dr pe po i (j / 16) (j % 16)) : xe_A T sg dr pe po R (j + 1) (upd as (j % 16) 1) (upd aa (j % 16) (aa (j % 16) &&& nI M)) (upd ao (j % 16) (ao (j % 16) ||| nI M)) := by
  intro c hc
  obtain ⟨h1, h2⟩ := A c hc
  by_cases e : c = j % 16
  · subst e
    rw [pk_us, pk_us, pk_us]
    refine ⟨?_, fun i hi => ?_⟩
    · rw [xe_eq h, Bool.or_true]; rfl
    · obtain ⟨h3, h4⟩ := h2 i hi
      rw [xe_eq h, xe_eq h, b_and, b_or, h3, h4, sg_bt M (by omega), hM i]
      refine ⟨?_, rfl⟩
      cases xe_ex R (fun s => !(nt_ex T sg dr pe po i (s / 16) (s % 16))) (j % 16) j <;> cases nt_ex T sg dr pe po i (j / 16) (j % 16) <;> rfl
  · rw [pk_un e, pk_un e, pk_un e, xe_ne e]
    refine ⟨h1, fun i hi => ?_⟩
    rw [xe_ne e, xe_ne e]
    exact h2 i hi
theorem xe_0 (T : Nat) (sg dr pe po : Nat → Nat) (R : Nat → Bool) {as aa ao : Nat → Int32} (h : ∀ c, c < 16 → as c = 0 ∧ aa c = -1 ∧ ao c = 0) : xe_A T sg dr pe po R 0 as aa ao := by
  intro c hc
  obtain ⟨h1, h2, h3⟩ := h c hc
  refine ⟨h1, fun i hi => ?_⟩
  rw [h2, h3, b_m1 i (by omega), b_0]
  exact ⟨rfl, rfl⟩
theorem xe_cong {T : Nat} {sg dr pe po : Nat → Nat} {R Q : Nat → Bool} (h : ∀ s, s < 1024 → R s = Q s) {as aa ao : Nat → Int32} (A : xe_A T sg dr pe po R 1024 as aa ao) : xe_A T sg dr pe po Q 1024 as aa ao := by
  have e : ∀ X c, xe_ex R X c 1024 = xe_ex Q X c 1024 := fun X c => ex_congr (fun s hs => by rw [h s hs])
  intro c hc
  obtain ⟨h1, h2⟩ := A c hc
  refine ⟨by rw [← e]; exact h1, fun i hi => ?_⟩
  rw [← e, ← e]
  exact h2 i hi
/-- the least torn one: the first 16 * i + c are not torn -/
theorem cf_row {S : Nat} {inp : Nat → Bool} {v : Nat → Nat → Nat} {i : Nat} (h : ∀ k, k < 16 * i + 2 ^ S → cf_f S inp v k = false) : ∀ k, k < 16 * (i + 1) → cf_f S inp v k = false := by
  intro k hk
  rcases Nat.lt_or_ge k (16 * i + 2 ^ S) with z | z
  · exact h k z
  · unfold cf_f
    by_cases e : k % 16 < 2 ^ S
    · exfalso; omega
    · rw [decide_eq_false e]; simp
theorem cf_at {S : Nat} (hS : S ≤ 4) {inp : Nat → Bool} {v : Nat → Nat → Nat} {i c : Nat} (hc : c < 2 ^ S) : cf_f S inp v (16 * i + c) = (!(inp i) && (v i c == 3)) := by
  have := nt_pS hS
  unfold cf_f
  rw [show (16 * i + c) / 16 = i from by omega, show (16 * i + c) % 16 = c from by omega, decide_eq_true hc, Bool.true_and]
/-- the queue: some state among the first h shows f -/
def qu_x (f : Nat → Bool) (q : Nat → Int32) (h : Nat) (b : Bool) : Prop := b = true ↔ ∃ j a, j < h ∧ a < 1024 ∧ q j = nI a ∧ f a = true
theorem qu_0 (f : Nat → Bool) (q : Nat → Int32) : qu_x f q 0 false := ⟨fun h => absurd h (by simp), fun ⟨_, _, h, _⟩ => absurd h (Nat.not_lt_zero _)⟩
theorem qu_s {f : Nat → Bool} {q q' : Nat → Int32} {h n a : Nat} {b : Bool} (H : qu_x f q h b) (hh : h < n) (ha : a < 1024) (e : q h = nI a) (hq : ∀ j, j < n → q' j = q j) : qu_x f q' (h + 1) (b || f a) := by
  unfold qu_x at H ⊢
  rw [Bool.or_eq_true, H]
  constructor
  · rintro (⟨j, x, h1, h2, h3, h4⟩ | h4)
    · exact ⟨j, x, by omega, h2, by rw [hq j (by omega)]; exact h3, h4⟩
    · exact ⟨h, a, by omega, ha, by rw [hq h hh]; exact e, h4⟩
  · rintro ⟨j, x, h1, h2, h3, h4⟩
    rw [hq j (by omega)] at h3
    by_cases ej : j = h
    · subst ej
      rw [e, nI_eq (by omega) (by omega)] at h3
      rw [h3]; exact Or.inr h4
    · exact Or.inl ⟨j, x, by omega, h2, h3, h4⟩
theorem qu_end {st : Nat → Nat → Prop} {s0 n h : Nat} {R f : Nat → Bool} {q : Nat → Int32} {b : Bool} (J : bf_J st s0 R q n) (H : qu_x f q h b) (hh : h = n) : b = ex_n (fun s => R s && f s) 1024 := by
  obtain ⟨h1, h2, h3, h4, h5⟩ := J
  unfold qu_x at H
  apply bo_iff
  rw [H, ex_iff]
  constructor
  · rintro ⟨j, a, z1, z2, z3, z4⟩
    obtain ⟨s, y1, y2⟩ := h5 j (by omega)
    rw [z3, nI_eq (by omega) (by have := (h3 s y1).2; omega)] at y2
    subst y2
    exact ⟨a, z2, by rw [y1, z4]; rfl⟩
  · rintro ⟨s, z1, z2⟩
    rw [Bool.and_eq_true] at z2
    obtain ⟨j, y1, y2⟩ := h4 s z2.1
    exact ⟨j, s, by omega, z1, y2, z2.2⟩
theorem nt_Ux (T : Nat) (pe po : Nat → Nat) (R : Nat → Bool) : nt_U T pe po R = ex_n (fun s => R s && ex_n (fun t => nt_en pe t (s / 16) && nt_un pe po t (s / 16)) T) 1024 := by
  apply bo_iff
  unfold nt_U
  rw [ex_iff, ex_iff]
  constructor
  · rintro ⟨s, hs, h⟩
    obtain ⟨t, ht, h⟩ := ex_iff.mp h
    rw [Bool.and_eq_true] at h
    exact ⟨s, hs, by rw [h.1, ex_iff.mpr ⟨t, ht, h.2⟩]; rfl⟩
  · rintro ⟨s, hs, h⟩
    rw [Bool.and_eq_true] at h
    obtain ⟨t, ht, h2⟩ := ex_iff.mp h.2
    exact ⟨s, hs, ex_iff.mpr ⟨t, ht, by rw [h.1, h2]; rfl⟩⟩
theorem nt_Ix (T : Nat) (sg dr pe : Nat → Nat) (R : Nat → Bool) : nt_I T sg dr pe R = ex_n (fun s => R s && ex_n (fun t => nt_en pe t (s / 16) && nt_ic sg dr t (s % 16)) T) 1024 := by
  apply bo_iff
  unfold nt_I
  rw [ex_iff, ex_iff]
  constructor
  · rintro ⟨s, hs, h⟩
    obtain ⟨t, ht, h⟩ := ex_iff.mp h
    rw [Bool.and_eq_true] at h
    exact ⟨s, hs, by rw [h.1, ex_iff.mpr ⟨t, ht, h.2⟩]; rfl⟩
  · rintro ⟨s, hs, h⟩
    rw [Bool.and_eq_true] at h
    obtain ⟨t, ht, h2⟩ := ex_iff.mp h.2
    exact ⟨s, hs, ex_iff.mpr ⟨t, ht, by rw [h.1, h2]; rfl⟩⟩
