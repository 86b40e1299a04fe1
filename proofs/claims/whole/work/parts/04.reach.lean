/-! what is reached from s0 by st; a walk with a queue; sweeps -/
def rc_R (st : Nat → Nat → Prop) (s0 s : Nat) : Prop := ∀ C : Nat → Prop, C s0 → (∀ a b, C a → st a b → C b) → C s
theorem rc_0 (st : Nat → Nat → Prop) (s0 : Nat) : rc_R st s0 s0 := fun _ h _ => h
theorem rc_s {st : Nat → Nat → Prop} {s0 a b : Nat} (h : rc_R st s0 a) (k : st a b) : rc_R st s0 b := fun C h0 hs => hs a b (h C h0 hs) k
/-- n members of R below 1024 in the queue q -/
def bf_J (st : Nat → Nat → Prop) (s0 : Nat) (R : Nat → Bool) (q : Nat → Int32) (n : Nat) : Prop :=
  n = ct_n R 1024 ∧ R s0 = true ∧ (∀ s, R s = true → rc_R st s0 s ∧ s < 1024) ∧ (∀ s, R s = true → ∃ j, j < n ∧ q j = nI s) ∧ (∀ j, j < n → ∃ s, R s = true ∧ q j = nI s)
/-- the first h of the queue are left -/
def bf_C (st : Nat → Nat → Prop) (R : Nat → Bool) (q : Nat → Int32) (h : Nat) : Prop := ∀ j, j < h → ∀ a b, q j = nI a → a < 1024 → st a b → R b = true
theorem bf_le {st : Nat → Nat → Prop} {s0 n : Nat} {R : Nat → Bool} {q : Nat → Int32} (J : bf_J st s0 R q n) : n ≤ 1024 := by
  rw [J.1]; exact ct_le R 1024
theorem bf_new {st : Nat → Nat → Prop} {s0 n b : Nat} {R : Nat → Bool} {q : Nat → Int32} (J : bf_J st s0 R q n) (hb : b < 1024) (h0 : R b = false) : n < 1024 := by
  rw [J.1]; exact ct_full hb h0
theorem bf_add {st : Nat → Nat → Prop} {s0 n a b : Nat} {R : Nat → Bool} {q : Nat → Int32} (J : bf_J st s0 R q n) (ha : R a = true) (hs : st a b) (hb : b < 1024) (h0 : R b = false) :
    bf_J st s0 (ct_u R b) (upd q n (nI b)) (n + 1) := by
  obtain ⟨h1, h2, h3, h4, h5⟩ := J
  refine ⟨?_, ct_uo R b s0 h2, ?_, ?_, ?_⟩
  · rw [ct_add hb h0, h1]
  · intro s hs'
    by_cases e : s = b
    · subst e; exact ⟨rc_s (h3 a ha).1 hs, hb⟩
    · rw [ct_un R e] at hs'; exact h3 s hs'
  · intro s hs'
    by_cases e : s = b
    · subst e; exact ⟨n, by omega, pk_us⟩
    · rw [ct_un R e] at hs'
      obtain ⟨j, hj, ej⟩ := h4 s hs'
      exact ⟨j, by omega, by rw [pk_un (by omega), ej]⟩
  · intro j hj
    by_cases e : j = n
    · subst e; exact ⟨b, ct_us R b, pk_us⟩
    · obtain ⟨s, hs', es⟩ := h5 j (by omega)
      exact ⟨s, ct_uo R b s hs', by rw [pk_un e, es]⟩
theorem bf_Cadd {st : Nat → Nat → Prop} {n b h : Nat} {R : Nat → Bool} {q : Nat → Int32} (C : bf_C st R q h) (hh : h ≤ n) : bf_C st (ct_u R b) (upd q n (nI b)) h := by
  intro j hj a c ea ha hs
  rw [pk_un (by omega)] at ea
  exact ct_uo R b c (C j hj a c ea ha hs)
theorem bf_0 (st : Nat → Nat → Prop) {s0 : Nat} (h : s0 < 1024) {q : Nat → Int32} : bf_J st s0 (ct_u (fun _ => false) s0) (upd q 0 (nI s0)) 1 := by
  have hz : ct_n (fun _ => false) 1024 = 0 := by
    have : ∀ n, ct_n (fun _ => false) n = 0 := by
      intro n
      induction n with
      | zero => rfl
      | succ n ih => show ct_n (fun _ => false) n + 0 = 0; rw [ih]
    exact this 1024
  refine ⟨?_, ct_us _ _, ?_, ?_, ?_⟩
  · rw [ct_add h rfl, hz]
  · intro s hs
    by_cases e : s = s0
    · subst e; exact ⟨rc_0 st s, h⟩
    · rw [ct_un _ e] at hs; exact absurd hs (by simp)
  · intro s hs
    by_cases e : s = s0
    · subst e; exact ⟨0, by omega, pk_us⟩
    · rw [ct_un _ e] at hs; exact absurd hs (by simp)
  · intro j hj
    have : j = 0 := by omega
    subst this
    exact ⟨s0, ct_us _ _, pk_us⟩
/-- R is just what is reached -/
def rc_is (st : Nat → Nat → Prop) (s0 : Nat) (R : Nat → Bool) : Prop := ∀ s, s < 1024 → (R s = true ↔ rc_R st s0 s)
theorem rc_cl {st : Nat → Nat → Prop} {s0 : Nat} {R : Nat → Bool} (h0 : R s0 = true) (hr : ∀ s, s < 1024 → R s = true → rc_R st s0 s) (hb : ∀ a b, a < 1024 → st a b → b < 1024) (h1 : s0 < 1024)
    (hc : ∀ a b, a < 1024 → R a = true → st a b → R b = true) : rc_is st s0 R := by
  intro s hs
  refine ⟨hr s hs, fun h => ?_⟩
  exact (h (fun x => x < 1024 ∧ R x = true) ⟨h1, h0⟩ (fun a b ⟨ha, hR⟩ k => ⟨hb a b ha k, hc a b ha hR k⟩)).2
theorem bf_end {st : Nat → Nat → Prop} {s0 n h : Nat} {R : Nat → Bool} {q : Nat → Int32} (J : bf_J st s0 R q n) (C : bf_C st R q h) (hh : n ≤ h) (hb : ∀ a b, a < 1024 → st a b → b < 1024) : rc_is st s0 R := by
  obtain ⟨h1, h2, h3, h4, h5⟩ := J
  refine rc_cl h2 (fun s _ hs => (h3 s hs).1) hb (h3 s0 h2).2 ?_
  intro a b ha hR hs
  obtain ⟨j, hj, ej⟩ := h4 a hR
  exact C j (by omega) a b ej ha hs
theorem rc_uniq {st : Nat → Nat → Prop} {s0 : Nat} {R Q : Nat → Bool} (h : rc_is st s0 R) (k : rc_is st s0 Q) : ∀ s, s < 1024 → R s = Q s := by
  intro s hs
  exact bo_iff ((h s hs).trans (k s hs).symm)
/-- a sweep that began with R0 stands at R; g: it has grown; D: the pairs that are done -/
def sw_I (st : Nat → Nat → Prop) (s0 : Nat) (R0 R : Nat → Bool) (g : Bool) (D : Nat → Nat → Prop) : Prop :=
  R s0 = true ∧ (∀ s, s < 1024 → R s = true → rc_R st s0 s) ∧ (∀ s, s < 1024 → R0 s = true → R s = true) ∧
  (g = true → ct_n R0 1024 < ct_n R 1024) ∧ (g = false → (∀ s, s < 1024 → R s = R0 s) ∧ ∀ a b, a < 1024 → R a = true → D a b → R b = true)
theorem sw_step {st : Nat → Nat → Prop} {s0 a b : Nat} {R0 R : Nat → Bool} {g : Bool} {D D' : Nat → Nat → Prop} (I : sw_I st s0 R0 R g D) (ha : a < 1024) (hR : R a = true) (hs : st a b) (hb : b < 1024)
    (hD : ∀ x y, D' x y → D x y ∨ (x = a ∧ y = b)) : sw_I st s0 R0 (ct_u R b) (g || !(R b)) D' := by
  obtain ⟨h1, h2, h3, h4, h5⟩ := I
  refine ⟨ct_uo R b s0 h1, ?_, fun s hs' h => ct_uo R b s (h3 s hs' h), ?_, ?_⟩
  · intro s hs' h
    by_cases e : s = b
    · subst e; exact rc_s (h2 a ha hR) hs
    · rw [ct_un R e] at h; exact h2 s hs' h
  · intro hg
    cases hRb : R b
    · rw [ct_add hb hRb]
      have := ct_sub (f := R0) (g := R) (n := 1024) (fun i hi h => h3 i hi h)
      omega
    · rw [hRb] at hg
      have hg' : g = true := by cases g <;> first | rfl | exact absurd hg (by simp)
      have e : ct_n (ct_u R b) 1024 = ct_n R 1024 := ct_congr (fun i _ => by
        by_cases e : i = b
        · subst e; rw [ct_us, hRb]
        · exact ct_un R e)
      rw [e]; exact h4 hg'
  · intro hg
    cases hRb : R b
    · rw [hRb] at hg; cases g <;> exact absurd hg (by simp)
    · have hg' : g = false := by cases g <;> first | rfl | exact absurd hg (by simp)
      have e : ∀ i, ct_u R b i = R i := fun i => by
        by_cases e : i = b
        · subst e; rw [ct_us, hRb]
        · exact ct_un R e
      obtain ⟨h6, h7⟩ := h5 hg'
      refine ⟨fun s hs' => by rw [e s]; exact h6 s hs', fun x y hx hRx hDx => ?_⟩
      rw [e] at hRx ⊢
      rcases hD x y hDx with h | ⟨_, h⟩
      · exact h7 x y hx hRx h
      · rw [h]; exact hRb
theorem sw_skip {st : Nat → Nat → Prop} {s0 : Nat} {R0 R : Nat → Bool} {g : Bool} {D D' : Nat → Nat → Prop} (I : sw_I st s0 R0 R g D) (hD : ∀ x y, x < 1024 → R x = true → D' x y → D x y) : sw_I st s0 R0 R g D' := by
  obtain ⟨h1, h2, h3, h4, h5⟩ := I
  exact ⟨h1, h2, h3, h4, fun hg => ⟨(h5 hg).1, fun a b ha hR hd => (h5 hg).2 a b ha hR (hD a b ha hR hd)⟩⟩
theorem sw_0 {st : Nat → Nat → Prop} {s0 : Nat} {R : Nat → Bool} (h1 : R s0 = true) (h2 : ∀ s, s < 1024 → R s = true → rc_R st s0 s) : sw_I st s0 R R false (fun _ _ => False) :=
  ⟨h1, h2, fun _ _ h => h, fun h => absurd h (by simp), fun _ => ⟨fun _ _ => rfl, fun _ _ _ _ h => h.elim⟩⟩
/-- between the sweeps: k sweeps done -/
def sv_I (st : Nat → Nat → Prop) (s0 : Nat) (R : Nat → Bool) (g : Bool) (k : Nat) : Prop :=
  R s0 = true ∧ (∀ s, s < 1024 → R s = true → rc_R st s0 s) ∧ (g = true → k < ct_n R 1024) ∧ (g = false → ∀ a b, a < 1024 → R a = true → st a b → R b = true)
theorem sv_step {st : Nat → Nat → Prop} {s0 k : Nat} {R0 R : Nat → Bool} {g : Bool} (V : sv_I st s0 R0 true k) (I : sw_I st s0 R0 R g st) : sv_I st s0 R g (k + 1) := by
  obtain ⟨h1, h2, h3, h4, h5⟩ := I
  refine ⟨h1, h2, fun hg => ?_, fun hg => (h5 hg).2⟩
  have := h4 hg
  have := V.2.2.1 rfl
  omega
theorem sv_end {st : Nat → Nat → Prop} {s0 k : Nat} {R : Nat → Bool} {g : Bool} (V : sv_I st s0 R g k) (h : g = false ∨ 1024 ≤ k) (hb : ∀ a b, a < 1024 → st a b → b < 1024) (h1 : s0 < 1024) : rc_is st s0 R := by
  obtain ⟨a1, a2, a3, a4⟩ := V
  have hg : g = false := by
    rcases h with h | h
    · exact h
    · cases hg : g
      · rfl
      · have := a3 hg
        have := ct_le R 1024
        omega
  exact rc_cl a1 a2 hb h1 (a4 hg)
theorem sv_0 (st : Nat → Nat → Prop) {s0 : Nat} (h : s0 < 1024) : sv_I st s0 (ct_u (fun _ => false) s0) true 0 := by
  refine ⟨ct_us _ _, ?_, fun _ => ?_, fun h => absurd h (by simp)⟩
  · intro s _ hs
    by_cases e : s = s0
    · subst e; exact rc_0 st s
    · rw [ct_un _ e] at hs; exact absurd hs (by simp)
  · have := ct_pos (n := 1024) h (ct_us (fun _ => false) s0)
    omega
