/-! the primes in their order; the cover; the gates; the circuit against the net -/
theorem cu_lo_is {f : Nat → Bool} : ∀ {n q : Nat}, q < n → f q = true → f (cu_lo f n) = true ∧ cu_lo f n < n := by
  intro n
  induction n with
  | zero => intro q h; omega
  | succ n ih =>
    intro q h hf
    show f (if f n = true then n else cu_lo f n) = true ∧ (if f n = true then n else cu_lo f n) < n + 1
    by_cases e : f n = true
    · rw [if_pos e]; exact ⟨e, by omega⟩
    · rw [if_neg e]
      have : q ≠ n := by intro z; subst z; exact e hf
      have := ih (q := q) (by omega) hf
      exact ⟨this.1, by omega⟩
/-- how many primes, the k-th prime, the k-th prime's codes -/
def pq_n (S : Nat) (v : Nat → Nat) : Nat := ct_n (pr_p S v) (3 ^ S)
def pq_q (S : Nat) (v : Nat → Nat) (k : Nat) : Nat := cu_lo (fun q => pr_p S v q && (ct_n (pr_p S v) q == k)) (3 ^ S)
def pq_m (S : Nat) (v : Nat → Nat) (k : Nat) : Nat := cu_m S (pq_q S v k) (2 ^ S)
theorem pq_is {S : Nat} {v : Nat → Nat} {k : Nat} (h : k < pq_n S v) : pr_p S v (pq_q S v k) = true ∧ ct_n (pr_p S v) (pq_q S v k) = k ∧ pq_q S v k < 3 ^ S := by
  obtain ⟨q, hq, hp, hc⟩ := ct_enum h
  have := cu_lo_is (f := fun q => pr_p S v q && (ct_n (pr_p S v) q == k)) hq (by show (_ && _) = true; rw [hp, hc, beq_self_eq_true]; rfl)
  have h1 : (pr_p S v (pq_q S v k) && (ct_n (pr_p S v) (pq_q S v k) == k)) = true := this.1
  rw [Bool.and_eq_true, beq_iff_eq] at h1
  exact ⟨h1.1, h1.2, this.2⟩
theorem pq_of {S : Nat} {v : Nat → Nat} {q : Nat} (hq : q < 3 ^ S) (hp : pr_p S v q = true) : ct_n (pr_p S v) q < pq_n S v ∧ pq_q S v (ct_n (pr_p S v) q) = q := by
  have h := ct_pos hq hp
  obtain ⟨a, b, c⟩ := pq_is (S := S) (v := v) h
  exact ⟨h, ct_inj a hp b⟩
theorem pq_le {S : Nat} (a : 1 ≤ S) (b : S ≤ 4) (v : Nat → Nat) : pq_n S v ≤ 27 := pr_le a b v
theorem pq_cong {S : Nat} {v w : Nat → Nat} (h : ∀ c, c < 2 ^ S → v c = w c) : pq_n S v = pq_n S w ∧ pq_q S v = pq_q S w := by
  have e : pr_p S v = pr_p S w := funext (pr_cong h)
  unfold pq_n
  refine ⟨by rw [e], funext (fun k => ?_)⟩
  unfold pq_q
  rw [e]
/-- the codes with value a -/
def pq_x (v : Nat → Nat) (a : Nat) : Nat → Nat
  | 0 => 0
  | c + 1 => pq_x v a c ||| (if v c = a then 2 ^ c else 0)
theorem pq_xb (v : Nat → Nat) (a n c : Nat) : (pq_x v a n).testBit c = (decide (c < n) && decide (v c = a)) := by
  induction n with
  | zero => show (0 : Nat).testBit c = _; rw [Nat.zero_testBit]; simp
  | succ n ih =>
    show (pq_x v a n ||| (if v n = a then 2 ^ n else 0)).testBit c = _
    rw [Nat.testBit_or, ih]
    by_cases e : c = n
    · subst e
      by_cases h : v c = a
      · rw [if_pos h, Nat.testBit_two_pow, decide_eq_true h]; simp
      · rw [if_neg h, decide_eq_false h]; simp
    · have h2 : (if v n = a then 2 ^ n else 0).testBit c = false := by
        by_cases h : v n = a
        · rw [if_pos h, Nat.testBit_two_pow]
          exact decide_eq_false (fun z => e z.symm)
        · rw [if_neg h, Nat.zero_testBit]
      have h3 : decide (c < n + 1) = decide (c < n) := by
        by_cases h : c < n
        · rw [decide_eq_true h, decide_eq_true (by omega)]
        · rw [decide_eq_false h, decide_eq_false (by omega)]
      rw [h2, h3, Bool.or_false]
theorem pq_xlt {v : Nat → Nat} {a n : Nat} (hn : n ≤ 16) : pq_x v a n < 65536 := by
  apply sg_16.mpr
  intro i hi
  rw [pq_xb, decide_eq_false (by omega)]
  rfl
def pq_w (v : Nat → Nat) (n : Nat) : Nat := pq_x v 1 n
theorem pq_wb (v : Nat → Nat) (n c : Nat) : (pq_w v n).testBit c = (decide (c < n) && decide (v c = 1)) := pq_xb v 1 n c
/-- what the masks of the component say -/
theorem pq_mh1 {S : Nat} {v : Nat → Nat} {q : Nat} : cu_m S q (2 ^ S) &&& pq_x v 1 (2 ^ S) = 0 ↔ pr_h1 S v q = false := by
  unfold pr_h1
  rw [sg_and0, ex_not]
  refine ⟨fun h c hc => ?_, fun h c hc => ?_⟩
  · have h1 := h c
    rw [cu_mb, pq_xb, decide_eq_true hc, Bool.true_and, Bool.true_and] at h1
    cases hq : cu_cv S q c
    · exact Bool.and_false _
    · have := of_decide_eq_false (h1 hq)
      simp [this]
  · rw [cu_mb, Bool.and_eq_true, decide_eq_true_eq] at hc
    have h1 := h c hc.1
    rw [hc.2, Bool.and_true, beq_eq_false_iff_ne] at h1
    rw [pq_xb, decide_eq_false h1, Bool.and_false]
theorem pq_mim {S : Nat} {v : Nat → Nat} {q : Nat} : cu_m S q (2 ^ S) &&& pq_x v 0 (2 ^ S) = 0 ↔ pr_im S v q = true := by
  rw [sg_and0, pr_im_iff]
  refine ⟨fun h c hc hv => bo_nt (fun hq => ?_), fun h c hc => ?_⟩
  · have h1 := h c
    rw [cu_mb, pq_xb, decide_eq_true hc, Bool.true_and, Bool.true_and] at h1
    exact of_decide_eq_false (h1 hq) hv
  · rw [cu_mb, Bool.and_eq_true, decide_eq_true_eq] at hc
    rw [pq_xb]
    by_cases hv : v c = 0
    · rw [h c hc.1 hv] at hc
      exact absurd hc.2 (by simp)
    · rw [decide_eq_false hv, Bool.and_false]
theorem pq_mal {S p q : Nat} : sg_an (cu_m S q (2 ^ S)) (cu_m S p (2 ^ S)) = 0 ↔ pr_al S p q = true := by
  rw [sg_an_0, pr_al_iff]
  refine ⟨fun h c hc hq => ?_, fun h c hc => ?_⟩
  · have := h c (by rw [cu_mb, decide_eq_true hc, hq]; rfl)
    rw [cu_mb, Bool.and_eq_true] at this
    exact this.2
  · rw [cu_mb, Bool.and_eq_true, decide_eq_true_eq] at hc
    rw [cu_mb, decide_eq_true hc.1, h c hc.1 hc.2]
    rfl
/-- the chosen primes meet code c -/
def pq_sc (S : Nat) (v : Nat → Nat) (g : Nat → Bool) (c : Nat) : Bool := ex_n (fun k => g k && cu_cv S (pq_q S v k) c) (pq_n S v)
/-- the chosen primes are a cover -/
def pq_C (S : Nat) (v : Nat → Nat) (g : Nat → Bool) : Prop := ∀ c, c < 2 ^ S → v c = 1 → pq_sc S v g c = true
theorem pq_Ciff {S : Nat} {v : Nat → Nat} (g : Nat → Bool) : pq_C S v g ↔ ∀ c, (pq_w v (2 ^ S)).testBit c = true → ∃ k, k < pq_n S v ∧ g k = true ∧ (pq_m S v k).testBit c = true := by
  refine ⟨fun h c hc => ?_, fun h c hc hv => ?_⟩
  · rw [pq_wb, Bool.and_eq_true, decide_eq_true_eq, decide_eq_true_eq] at hc
    obtain ⟨k, hk, hg⟩ := ex_iff.mp (h c hc.1 hc.2)
    rw [Bool.and_eq_true] at hg
    refine ⟨k, hk, hg.1, ?_⟩
    unfold pq_m
    rw [cu_mb, decide_eq_true hc.1, hg.2]
    rfl
  · obtain ⟨k, hk, hg, hm⟩ := h c (by rw [pq_wb, decide_eq_true hc, decide_eq_true hv]; rfl)
    unfold pq_m at hm
    rw [cu_mb, Bool.and_eq_true] at hm
    exact ex_iff.mpr ⟨k, hk, by rw [hg, hm.2]; rfl⟩
/-- every wanted code lies in one of the primes -/
theorem pq_hit {S : Nat} (a : 1 ≤ S) (b : S ≤ 4) {v : Nat → Nat} {i : Nat} (h : (pq_w v (2 ^ S)).testBit i = true) : i < 16 ∧ ∃ k, k < pq_n S v ∧ (pq_m S v k).testBit i = true := by
  rw [pq_wb, Bool.and_eq_true, decide_eq_true_eq, decide_eq_true_eq] at h
  have h16 := (cu_3 a b).2.2.1
  obtain ⟨q, hq, hp, hc⟩ := pr_ex a b h.1 h.2
  obtain ⟨h1, h2⟩ := pq_of hq hp
  refine ⟨by omega, ct_n (pr_p S v) q, h1, ?_⟩
  unfold pq_m
  rw [h2, cu_mb, decide_eq_true h.1, hc]
  rfl
theorem pq_wlt {S : Nat} (b : S ≤ 4) {v : Nat → Nat} : pq_w v (2 ^ S) < 65536 := pq_xlt (nt_pS b)
/-- the cover: its size n, its number M -/
def pq_B (S : Nat) (v : Nat → Nat) (n M : Nat) : Prop := nu_B (pq_n S v) (pq_C S v) n M
theorem pq_full {S : Nat} (a : 1 ≤ S) (b : S ≤ 4) (v : Nat → Nat) : ∃ M, M < 2 ^ pq_n S v ∧ pq_C S v (nu_in (pq_n S v) M) := by
  refine ⟨nu_v (fun _ => true) (pq_n S v), nu_lt _ _, (pq_Ciff _).mpr (fun c hc => ?_)⟩
  obtain ⟨_, k, hk, hm⟩ := pq_hit a b hc
  exact ⟨k, hk, nu_of _ hk, hm⟩
theorem pq_Ccong {S : Nat} {v w : Nat → Nat} (h : ∀ c, c < 2 ^ S → v c = w c) : pq_C S v = pq_C S w := by
  obtain ⟨h1, h2⟩ := pq_cong h
  funext g
  apply propext
  unfold pq_C pq_sc
  rw [h1, h2]
  exact ⟨fun z c hc hv => z c hc (by rw [h c hc]; exact hv), fun z c hc hv => z c hc (by rw [← h c hc]; exact hv)⟩
theorem pq_Bcong {S : Nat} {v w : Nat → Nat} (h : ∀ c, c < 2 ^ S → v c = w c) {n M : Nat} (k : pq_B S v n M) : pq_B S w n M := by
  unfold pq_B at k ⊢
  rw [← (pq_cong h).1, ← pq_Ccong h]
  exact k
/-- the met states: dv i c: output i is driven at c -/
def me_ok (inp : Nat → Bool) (dv : Nat → Nat → Bool) (sg pe : Nat → Nat) (t s : Nat) : Bool := nt_en pe t (s / 16) && (inp (sg t) || dv (sg t) (s % 16))
def me_st (T : Nat) (inp : Nat → Bool) (dv : Nat → Nat → Bool) (sg dr pe po : Nat → Nat) (a b : Nat) : Prop := ∃ t, t < T ∧ me_ok inp dv sg pe t a = true ∧ b = nt_fr sg dr pe po t a
theorem me_st_lt {S T : Nat} (hS : S ≤ 4) {inp : Nat → Bool} {dv : Nat → Nat → Bool} {sg dr pe po : Nat → Nat} (B : nt_B S sg dr pe po) : ∀ a b, a < 1024 → me_st T inp dv sg dr pe po a b → b < 1024 := by
  rintro a b ha ⟨t, _, _, e⟩
  rw [e]
  exact nt_fr_lt hS B t ha
/-- what a state shows -/
def sh_n (S T : Nat) (dv : Nat → Nat → Bool) (sg pe : Nat → Nat) (s : Nat) : Bool := ex_n (fun i => dv i (s % 16) && !(nt_he T sg pe i (s / 16))) S
def sh_h (S T : Nat) (inp : Nat → Bool) (dv : Nat → Nat → Bool) (sg dr pe po : Nat → Nat) (s : Nat) : Bool :=
  ex_n (fun i => ex_n (fun t => dv i (s % 16) && (!(sg t == i) && (me_ok inp dv sg pe t s && !(dv i (nt_fr sg dr pe po t s % 16))))) T) S
def sh_s (S T : Nat) (inp : Nat → Bool) (dv : Nat → Nat → Bool) (sg pe : Nat → Nat) (s : Nat) : Bool :=
  !(ex_n (fun i => dv i (s % 16) || (nt_he T sg pe i (s / 16) && inp i)) S) && ex_n (fun i => nt_he T sg pe i (s / 16)) S
/-- the same of the component's masks: D driven, E enabled -/
theorem mk_n {S T : Nat} {dv : Nat → Nat → Bool} {sg pe : Nat → Nat} {s D E : Nat} (hD : ∀ i, D.testBit i = (decide (i < S) && dv i (s % 16))) (hE : ∀ i, E.testBit i = nt_he T sg pe i (s / 16)) :
    sg_an D E = 0 ↔ sh_n S T dv sg pe s = false := by
  unfold sh_n
  rw [sg_an_0, ex_not]
  refine ⟨fun h i hi => ?_, fun h i hi => ?_⟩
  · have h1 := h i
    rw [hD, hE, decide_eq_true hi, Bool.true_and] at h1
    cases hd : dv i (s % 16)
    · rfl
    · rw [h1 hd]; rfl
  · rw [hD, Bool.and_eq_true, decide_eq_true_eq] at hi
    have h1 := h i hi.1
    rw [hi.2, Bool.true_and, Bool.not_eq_false'] at h1
    rw [hE]; exact h1
theorem mk_s {S T im : Nat} {dv : Nat → Nat → Bool} {sg pe : Nat → Nat} {s D E : Nat} (hD : ∀ i, D.testBit i = (decide (i < S) && dv i (s % 16))) (hE : ∀ i, E.testBit i = nt_he T sg pe i (s / 16)) (hS : ∀ t, sg t < S) :
    (sg_an E im ≠ 0 ∧ D = 0 ∧ E &&& im = 0) ↔ sh_s S T im.testBit dv sg pe s = true := by
  have hlt : ∀ i, nt_he T sg pe i (s / 16) = true → i < S := by
    intro i hi
    obtain ⟨t, _, h⟩ := ex_iff.mp hi
    rw [Bool.and_eq_true, beq_iff_eq] at h
    rw [← h.1]; exact hS t
  unfold sh_s
  rw [Bool.and_eq_true, Bool.not_eq_true', ex_not, ex_iff]
  constructor
  · rintro ⟨h1, h2, h3⟩
    refine ⟨fun i hi => ?_, ?_⟩
    · have h4 := hD i
      rw [h2, Nat.zero_testBit, decide_eq_true hi, Bool.true_and] at h4
      rw [← h4, Bool.false_or]
      have h5 := sg_and0.mp h3 i
      rw [hE] at h5
      cases hh : nt_he T sg pe i (s / 16)
      · rfl
      · rw [h5 hh]; rfl
    · obtain ⟨i, hi⟩ := sg_n0 h1
      rw [sg_anb, Bool.and_eq_true, hE] at hi
      exact ⟨i, hlt i hi.1, hi.1⟩
  · rintro ⟨h1, i, hi, h2⟩
    have h3 : ∀ j, E.testBit j = true → im.testBit j = false := by
      intro j hj
      rw [hE] at hj
      have := h1 j (hlt j hj)
      rw [hj] at this
      rw [Bool.or_eq_false_iff] at this
      exact this.2
    refine ⟨?_, ?_, sg_and0.mpr h3⟩
    · intro h0
      have h4 := sg_an_0.mp h0 i (by rw [hE]; exact h2)
      rw [h3 i (by rw [hE]; exact h2)] at h4
      exact absurd h4 (by simp)
    · refine sg_0 (fun j => ?_)
      rw [hD]
      by_cases hj : j < S
      · have := h1 j hj
        rw [Bool.or_eq_false_iff] at this
        rw [this.1, Bool.and_false]
      · rw [decide_eq_false hj]; rfl
theorem mk_h {S T : Nat} {inp : Nat → Bool} {dv : Nat → Nat → Bool} {sg dr pe po : Nat → Nat} {s D : Nat} {D' : Nat → Nat} (hD : ∀ i, D.testBit i = (decide (i < S) && dv i (s % 16)))
    (hD' : ∀ t i, (D' t).testBit i = (decide (i < S) && dv i (nt_fr sg dr pe po t s % 16))) :
    ex_n (fun t => me_ok inp dv sg pe t s && !(sg_an (sg_an D (2 ^ sg t)) (D' t) == 0)) T = sh_h S T inp dv sg dr pe po s := by
  apply bo_iff
  unfold sh_h
  rw [ex_iff, ex_iff]
  constructor
  · rintro ⟨t, ht, h⟩
    rw [Bool.and_eq_true, Bool.not_eq_true', beq_eq_false_iff_ne] at h
    obtain ⟨i, hi⟩ := sg_n0 h.2
    rw [sg_anb, sg_anb, Bool.and_eq_true, Bool.and_eq_true, Bool.not_eq_true', Bool.not_eq_true', hD, hD', Bool.and_eq_true, decide_eq_true_eq, Nat.testBit_two_pow, decide_eq_false_iff_not] at hi
    obtain ⟨⟨⟨hS, hd⟩, hne⟩, hd'⟩ := hi
    rw [decide_eq_true hS, Bool.true_and] at hd'
    refine ⟨i, hS, ex_iff.mpr ⟨t, ht, ?_⟩⟩
    rw [hd, h.1, hd', beq_eq_false_iff_ne.mpr hne]
    rfl
  · rintro ⟨i, hS, h⟩
    obtain ⟨t, ht, h⟩ := ex_iff.mp h
    rw [Bool.and_eq_true, Bool.and_eq_true, Bool.and_eq_true, Bool.not_eq_true', Bool.not_eq_true', beq_eq_false_iff_ne] at h
    obtain ⟨hd, hne, hok, hd'⟩ := h
    refine ⟨t, ht, ?_⟩
    rw [hok, Bool.true_and, Bool.not_eq_true', beq_eq_false_iff_ne]
    intro h0
    have h1 := sg_an_0.mp h0 i (by rw [sg_anb, hD, hd, decide_eq_true hS, Nat.testBit_two_pow, decide_eq_false hne]; rfl)
    rw [hD', hd', Bool.and_false] at h1
    exact absurd h1 (by simp)
