/-! the reference's cubes, primes and covers -/
section
variable {P S T : Nat} {sg dr pe po : Nat → Nat} {im s0 : Nat} {tb : Nat → Int32}
variable {vd us ic rc pc mc ln lh ls cm cc : Int32} {ar asn aa ao apt act acu aco aq apc af ad am yr ym yn yi yp yv : Nat → Int32}
theorem yw_cubes (K : nt_K P S T sg dr pe po im s0) {post : Int32 → Prop} (h : post (nI (3 ^ S))) : wpY_cubes post (yt P S T sg dr pe po im s0 tb vd pc cm cc yr ym yn yi yp yv) := by
  have hS := K.2.1
  have : S = 1 ∨ S = 2 ∨ S = 3 ∨ S = 4 := by omega
  rcases this with rfl | rfl | rfl | rfl
  · exact br_t rfl h
  · exact br_f (by decide) (br_t rfl h)
  · exact br_f (by decide) (br_f (by decide) (br_t rfl h))
  · exact br_f (by decide) (br_f (by decide) (br_f (by decide) h))
theorem cu_dg {S q c i : Nat} : (fun i => (q / 3 ^ i % 3 == 2) || (q / 3 ^ i % 3 == (c.testBit i).toNat)) i = ((q / 3 ^ i % 3 == 2) || (q / 3 ^ i % 3 == (c.testBit i).toNat)) := rfl
theorem cu_81 {S : Nat} (hS : S ≤ 4) : 3 ^ S ≤ 81 := (Nat.pow_le_pow_right (by decide) hS : 3 ^ S ≤ 3 ^ 4)
theorem cu_nx (q i : Nat) : q / 3 ^ i / 3 = q / 3 ^ (i + 1) := by rw [Nat.div_div_eq_div_mul, Nat.pow_succ]
theorem yw_covers (K : nt_K P S T sg dr pe po im s0) {q c : Nat} (hq : q < 81) {post : Int32 → Prop} (h : post (nI (cu_cv S q c).toNat)) : wpY_covers post (yt P S T sg dr pe po im s0 tb vd pc cm cc yr ym yn yi yp yv) (nI q) (nI c) := by
  have hS := K.2.1
  let f : Nat → Bool := fun i => (q / 3 ^ i % 3 == 2) || (q / 3 ^ i % 3 == (c.testBit i).toNat)
  have key : ∃ n, wY_covers_5 post (nI c) (nI P) (nI S) (nI (s0 / 16)) (nI (s0 % 16)) (nI T) vd pc cm cc (fun j => nI (sg j)) (fun j => nI (dr j)) (fun j => nI (pe j)) (fun j => nI (po j)) (fun j => nI (im.testBit j).toNat) tb yr ym yn yi yp yv n (nI (q / 3 ^ 0)) (nI 0) := by
    refine loop_0 (σ := Unit) (fun n i _ => wY_covers_5 post (nI c) (nI P) (nI S) (nI (s0 / 16)) (nI (s0 % 16)) (nI T) vd pc cm cc (fun j => nI (sg j)) (fun j => nI (dr j)) (fun j => nI (pe j)) (fun j => nI (po j)) (fun j => nI (im.testBit j).toNat) tb yr ym yn yi yp yv n (nI (q / 3 ^ i)) (nI i)) (fun i _ => ∀ j, j < i → f j = true) S () (fun j hj => absurd hj (Nat.not_lt_zero _)) ?_ ?_
    · intro n _ hI
      have e : cu_cv S q c = true := al_iff.mpr hI
      rw [e] at h
      exact br_t (nI_le (Nat.le_refl _) (by omega)) h
    · intro n i _ hi hI ih
      have hd : q / 3 ^ i ≤ q := Nat.div_le_self _ _
      have hm : q / 3 ^ i % 3 < 3 := Nat.mod_lt _ (by decide)
      have ht := sg_toNat_lt (c.testBit i)
      have e1 : nI (q / 3 ^ i) - nI (q / 3 ^ i) / 3 * 3 = nI (q / 3 ^ i % 3) := pk_rem (d := 3) (by omega) (by decide) (by decide)
      have e2 : nI (q / 3 ^ i) / 3 = nI (q / 3 ^ (i + 1)) := by rw [← cu_nx]; exact pk_div (d := 3) (by omega) (by decide) (by decide)
      refine br_f (nI_ge hi (by omega)) ⟨by decide, nm_r e1 ⟨by decide, nm_r e2 ?_⟩⟩
      rw [sg_bitN c (by omega)]
      by_cases h2 : q / 3 ^ i % 3 = 2
      · refine br_t (by rw [h2]; rfl) (nm_r (nI_1 i) (ih () (lt_s hI ?_)))
        show ((q / 3 ^ i % 3 == 2) || _) = true
        rw [h2]; rfl
      · refine br_f (fun z => h2 ((nI_eq (b := 2) (by omega) (by omega)).mp z)) ?_
        by_cases h3 : q / 3 ^ i % 3 = (c.testBit i).toNat
        · refine br_t (by rw [h3]) (nm_r (nI_1 i) (ih () (lt_s hI ?_)))
          show ((q / 3 ^ i % 3 == 2) || (q / 3 ^ i % 3 == (c.testBit i).toNat)) = true
          rw [beq_iff_eq.mpr h3, Bool.or_true]
        · have e : cu_cv S q c = false := al_not.mpr ⟨i, hi, by
            show ((q / 3 ^ i % 3 == 2) || (q / 3 ^ i % 3 == (c.testBit i).toNat)) = false
            rw [beq_eq_false_iff_ne.mpr h2, beq_eq_false_iff_ne.mpr h3]; rfl⟩
          rw [e] at h
          exact br_f (fun z => h3 ((nI_eq (by omega) (by omega)).mp z)) h
  rw [Nat.pow_zero, Nat.div_one] at key
  exact key
theorem yw_coversValue (K : nt_K P S T sg dr pe po im s0) {v : Nat → Nat} (hv : ∀ c, c < 2 ^ S → yn c = nI (v c) ∧ v c < 4) {q a : Nat} (hq : q < 81) (ha : a < 4) {post : Int32 → Prop} (h : post (nI (ex_n (fun c => (v c == a) && cu_cv S q c) (2 ^ S)).toNat)) : wpY_coversValue post (yt P S T sg dr pe po im s0 tb vd pc cm cc yr ym yn yi yp yv) (nI q) (nI a) := by
  have hp := nt_pS K.2.1.2
  have hS := K.2.1
  refine loop_0 (σ := Unit) (fun n c _ => wY_coversValue_2 post (nI q) (nI a) (nI P) (nI S) (nI (s0 / 16)) (nI (s0 % 16)) (nI T) vd pc cm cc (fun j => nI (sg j)) (fun j => nI (dr j)) (fun j => nI (pe j)) (fun j => nI (po j)) (fun j => nI (im.testBit j).toNat) tb yr ym yn yi yp yv n (nI c)) (fun c _ => ∀ j, j < c → ((v j == a) && cu_cv S q j) = false) (2 ^ S) () (fun j hj => absurd hj (Nat.not_lt_zero _)) ?_ ?_
  · intro n _ hI
    rw [ex_not.mpr hI] at h
    exact br_t (by rw [sg_s1 (by omega)]; exact nI_le (Nat.le_refl _) (by omega)) h
  · intro n c _ hc hI ih
    refine br_f (by rw [sg_s1 (by omega)]; exact nI_ge hc (by omega)) ⟨vp_in_nI (by omega) (by decide), ?_⟩
    try dsimp only
    rw [nI_clamp (by omega), (hv c hc).1]
    have hvc := (hv c hc).2
    by_cases h1 : v c = a
    · refine br_t (by rw [h1]) (yw_covers K hq (bo_br (fun z => nm_r (nI_1 c) (ih () (lt_s hI (by rw [z, Bool.and_false])))) (fun z => ?_)))
      rw [ex_iff.mpr ⟨c, hc, by rw [h1, z, beq_self_eq_true]; rfl⟩] at h
      exact h
    · exact br_f (fun z => h1 ((nI_eq (by omega) (by omega)).mp z)) (nm_r (nI_1 c) (ih () (lt_s hI (by rw [beq_eq_false_iff_ne.mpr h1]; rfl))))
theorem yw_coversAllOf (K : nt_K P S T sg dr pe po im s0) {p q : Nat} (hp : p < 81) (hq : q < 81) {post : Int32 → Prop} (h : post (nI (pr_al S p q).toNat)) : wpY_coversAllOf post (yt P S T sg dr pe po im s0 tb vd pc cm cc yr ym yn yi yp yv) (nI p) (nI q) := by
  have h16 := nt_pS K.2.1.2
  have hS := K.2.1
  refine loop_0 (σ := Unit) (fun n c _ => wY_coversAllOf_2 post (nI p) (nI q) (nI P) (nI S) (nI (s0 / 16)) (nI (s0 % 16)) (nI T) vd pc cm cc (fun j => nI (sg j)) (fun j => nI (dr j)) (fun j => nI (pe j)) (fun j => nI (po j)) (fun j => nI (im.testBit j).toNat) tb yr ym yn yi yp yv n (nI c)) (fun c _ => ∀ j, j < c → (!(cu_cv S q j) || cu_cv S p j) = true) (2 ^ S) () (fun j hj => absurd hj (Nat.not_lt_zero _)) ?_ ?_
  · intro n _ hI
    have e : pr_al S p q = true := al_iff.mpr hI
    rw [e] at h
    exact br_t (by rw [sg_s1 (by omega)]; exact nI_le (Nat.le_refl _) (by omega)) h
  · intro n c _ hc hI ih
    refine br_f (by rw [sg_s1 (by omega)]; exact nI_ge hc (by omega)) (yw_covers K hq (bo_br (fun z => nm_r (nI_1 c) (ih () (lt_s hI (by rw [z]; rfl)))) (fun z => yw_covers K hp (bo_br (fun z2 => ?_) (fun z2 => nm_r (nI_1 c) (ih () (lt_s hI (by rw [z2, Bool.or_true]))))))))
    have e : pr_al S p q = false := al_not.mpr ⟨c, hc, by rw [z, z2]; rfl⟩
    rw [e] at h
    exact h
theorem yw_inLarger (K : nt_K P S T sg dr pe po im s0) {v : Nat → Nat} (hi : ∀ q, q < 3 ^ S → yi q = nI (pr_im S v q).toNat) {q : Nat} (hq : q < 3 ^ S) {post : Int32 → Prop} (h : post (nI (pr_lg S v q).toNat)) : wpY_inLarger post (yt P S T sg dr pe po im s0 tb vd pc cm cc yr ym yn yi yp yv) (nI q) := by
  have h81 := cu_81 K.2.1.2
  refine loop_0 (σ := Unit) (fun n p _ => wY_inLarger_2 post (nI q) (nI P) (nI S) (nI (s0 / 16)) (nI (s0 % 16)) (nI T) vd pc cm cc (fun j => nI (sg j)) (fun j => nI (dr j)) (fun j => nI (pe j)) (fun j => nI (po j)) (fun j => nI (im.testBit j).toNat) tb yr ym yn yi yp yv n (nI p)) (fun p _ => ∀ j, j < p → (!(j == q) && (pr_im S v j && pr_al S j q)) = false) (3 ^ S) () (fun j hj => absurd hj (Nat.not_lt_zero _)) ?_ ?_
  · intro n _ hI
    have e : pr_lg S v q = false := ex_not.mpr hI
    rw [e] at h
    first | rw [wY_inLarger_2] | rw [wY_findPrimes_32] | rw [wY_findPrimes_73]
    try dsimp only
    refine yw_cubes K ?_
    exact br_t (nI_le (Nat.le_refl _) (by omega)) h
  · intro n p _ hp hI ih
    first | rw [wY_inLarger_2] | rw [wY_findPrimes_32] | rw [wY_findPrimes_73]
    try dsimp only
    refine yw_cubes K ?_
    refine br_f (nI_ge hp (by omega)) ?_
    by_cases h1 : p = q
    · exact br_t (by rw [h1]) (nm_r (nI_1 p) (ih () (lt_s hI (by rw [h1, beq_self_eq_true]; rfl))))
    · refine br_f (fun z => h1 ((nI_eq (by omega) (by omega)).mp z)) ⟨vp_in_nI (by omega) (by decide), ?_⟩
      try dsimp only
      rw [nI_clamp (by omega), hi p hp]
      refine bo_br (fun z => nm_r (nI_1 p) (ih () (lt_s hI (by rw [z]; simp)))) (fun z => yw_coversAllOf K (by omega) (by omega) (bo_br (fun z2 => nm_r (nI_1 p) (ih () (lt_s hI (by rw [z2]; simp)))) (fun z2 => ?_)))
      have e : pr_lg S v q = true := ex_iff.mpr ⟨p, hp, by rw [z, z2, beq_eq_false_iff_ne.mpr h1]; rfl⟩
      rw [e] at h
      exact h
/-- the primes in the array: the first q cubes are done -/
def pq_A (S : Nat) (v : Nat → Nat) (a : Nat → Int32) (q : Nat) : Prop := ∀ p, p < q → pr_p S v p = true → a (ct_n (pr_p S v) p) = nI p
theorem pq_A0 {S : Nat} {v : Nat → Nat} {a : Nat → Int32} {q : Nat} (A : pq_A S v a q) (h : pr_p S v q = false) : pq_A S v a (q + 1) ∧ ct_n (pr_p S v) (q + 1) = ct_n (pr_p S v) q := by
  refine ⟨fun p hp hpp => ?_, by show ct_n (pr_p S v) q + (pr_p S v q).toNat = _; rw [h]; rfl⟩
  have : p ≠ q := by intro e; subst e; rw [h] at hpp; exact absurd hpp (by simp)
  exact A p (by omega) hpp
theorem pq_A1 {S : Nat} {v : Nat → Nat} {a : Nat → Int32} {q : Nat} (A : pq_A S v a q) (h : pr_p S v q = true) : pq_A S v (upd a (ct_n (pr_p S v) q) (nI q)) (q + 1) ∧ ct_n (pr_p S v) (q + 1) = ct_n (pr_p S v) q + 1 := by
  refine ⟨fun p hp hpp => ?_, by show ct_n (pr_p S v) q + (pr_p S v q).toNat = _; rw [h]; rfl⟩
  by_cases e : p = q
  · subst e; exact pk_us
  · have := ct_pos (f := pr_p S v) (n := q) (q := p) (by omega) hpp
    rw [pk_un (by omega)]
    exact A p (by omega) hpp
theorem pq_Aq {S : Nat} {v : Nat → Nat} {a : Nat → Int32} (A : pq_A S v a (3 ^ S)) {k : Nat} (hk : k < pq_n S v) : a k = nI (pq_q S v k) := by
  obtain ⟨h1, h2, h3⟩ := pq_is hk
  have := A _ h3 h1
  rw [h2] at this
  exact this
theorem yw_findPrimes (K : nt_K P S T sg dr pe po im s0) {R : Nat → Bool} (hR : rp_A yr R) {i : Nat} (hi : i < 4) {post : SY → Prop}
    (h : ∀ (yn' yi' yp' : Nat → Int32), (∀ c, c < 2 ^ S → yn' c = nI (nt_v T sg dr pe po R i c)) → pq_A S (nt_v T sg dr pe po R i) yp' (3 ^ S) → post (yt P S T sg dr pe po im s0 tb vd (nI (pq_n S (nt_v T sg dr pe po R i))) cm cc yr ym yn' yi' yp' yv)) : wpY_findPrimes post (yt P S T sg dr pe po im s0 tb vd pc cm cc yr ym yn yi yp yv) (nI i) := by
  have hS := K.2.1
  have h16 := nt_pS hS.2
  have h81 := cu_81 hS.2
  refine loop_0 (σ := Nat → Int32) (fun n c a => wY_findPrimes_2 post (nI i) (nI P) (nI S) (nI (s0 / 16)) (nI (s0 % 16)) (nI T) vd pc cm cc n (nI c) (fun j => nI (sg j)) (fun j => nI (dr j)) (fun j => nI (pe j)) (fun j => nI (po j)) (fun j => nI (im.testBit j).toNat) tb yr ym a yi yp yv) (fun c a => ∀ d, d < c → a d = nI (nt_v T sg dr pe po R i d)) (2 ^ S) yn (fun j hj => absurd hj (Nat.not_lt_zero _)) ?_ ?_
  · intro n a ha
    have ha' : ∀ c, c < 2 ^ S → a c = nI (nt_v T sg dr pe po R i c) ∧ nt_v T sg dr pe po R i c < 4 := fun c hc => ⟨ha c hc, nt_v_lt T sg dr pe po R i c⟩
    refine br_t (by rw [sg_s1 (by omega)]; exact nI_le (Nat.le_refl _) (by omega)) ?_
    refine loop_0 (σ := Nat → Int32) (fun n q b => wY_findPrimes_32 post (nI P) (nI S) (nI (s0 / 16)) (nI (s0 % 16)) (nI T) vd pc cm cc n (nI q) (fun j => nI (sg j)) (fun j => nI (dr j)) (fun j => nI (pe j)) (fun j => nI (po j)) (fun j => nI (im.testBit j).toNat) tb yr ym a b yp yv) (fun q b => ∀ p, p < q → b p = nI (pr_im S (nt_v T sg dr pe po R i) p).toNat) (3 ^ S) yi (fun j hj => absurd hj (Nat.not_lt_zero _)) ?_ ?_
    · intro n b hb
      first | rw [wY_inLarger_2] | rw [wY_findPrimes_32] | rw [wY_findPrimes_73]
      try dsimp only
      refine yw_cubes K ?_
      refine br_t (nI_le (Nat.le_refl _) (by omega)) ?_
      refine loop_0 (σ := Nat → Int32) (fun n q d => wY_findPrimes_73 post (nI P) (nI S) (nI (s0 / 16)) (nI (s0 % 16)) (nI T) vd cm cc n (nI q) (nI (ct_n (pr_p S (nt_v T sg dr pe po R i)) q)) (fun j => nI (sg j)) (fun j => nI (dr j)) (fun j => nI (pe j)) (fun j => nI (po j)) (fun j => nI (im.testBit j).toNat) tb yr ym a b d yv) (fun q d => pq_A S (nt_v T sg dr pe po R i) d q) (3 ^ S) yp (fun j hj => absurd hj (Nat.not_lt_zero _)) ?_ ?_
      · intro n d hd
        first | rw [wY_inLarger_2] | rw [wY_findPrimes_32] | rw [wY_findPrimes_73]
        try dsimp only
        refine yw_cubes K ?_
        exact br_t (nI_le (Nat.le_refl _) (by omega)) (h a b d ha hd)
      · intro n q d hq hd ih
        have hct := ct_le (pr_p S (nt_v T sg dr pe po R i)) q
        have hno : pr_p S (nt_v T sg dr pe po R i) q = false → wY_findPrimes_73 post (nI P) (nI S) (nI (s0 / 16)) (nI (s0 % 16)) (nI T) vd cm cc n (nI (q + 1)) (nI (ct_n (pr_p S (nt_v T sg dr pe po R i)) q)) (fun j => nI (sg j)) (fun j => nI (dr j)) (fun j => nI (pe j)) (fun j => nI (po j)) (fun j => nI (im.testBit j).toNat) tb yr ym a b d yv := by
          intro z
          obtain ⟨z1, z2⟩ := pq_A0 hd z
          have := ih d z1
          rw [z2] at this
          exact this
        first | rw [wY_inLarger_2] | rw [wY_findPrimes_32] | rw [wY_findPrimes_73]
        try dsimp only
        refine yw_cubes K ?_
        refine br_f (nI_ge hq (by omega)) ⟨vp_in_nI (by omega) (by decide), ?_⟩
        try dsimp only
        rw [nI_clamp (n := q) (by omega), hb q hq]
        refine bo_br (fun z => nm_r (nI_1 q) (hno (by unfold pr_p; rw [z]; rfl))) (fun z => yw_coversValue K ha' (a := 1) (by omega) (by omega) (bo_br (fun z2 => nm_r (nI_1 q) (hno ?_)) (fun z2 => yw_inLarger K hb hq (bo_br (fun z3 => ⟨vp_in_nI (by omega) (by decide), ?_⟩) (fun z3 => nm_r (nI_1 q) (hno (by unfold pr_p; rw [z3]; simp)))))))
        · have z2' : pr_h1 S (nt_v T sg dr pe po R i) q = false := z2
          unfold pr_p; rw [z2']; simp
        · have z2' : pr_h1 S (nt_v T sg dr pe po R i) q = true := z2
          have hpr : pr_p S (nt_v T sg dr pe po R i) q = true := by unfold pr_p; rw [z, z2', z3]; rfl
          obtain ⟨y1, y2⟩ := pq_A1 hd hpr
          have := ih _ y1
          rw [y2] at this
          rw [nI_clamp (n := ct_n (pr_p S (nt_v T sg dr pe po R i)) q) (by omega)]
          exact nm_e (nm_r (nI_1 _) (nm_r (nI_1 q) this))
    · intro n q b hq hb ih
      first | rw [wY_inLarger_2] | rw [wY_findPrimes_32] | rw [wY_findPrimes_73]
      try dsimp only
      refine yw_cubes K ?_
      refine br_f (nI_ge hq (by omega)) (yw_coversValue K ha' (a := 0) (by omega) (by omega) ?_)
      have e : ∀ x : Bool, ex_n (fun c => (nt_v T sg dr pe po R i c == 0) && cu_cv S q c) (2 ^ S) = x → pr_im S (nt_v T sg dr pe po R i) q = !x := by
        intro x hx
        unfold pr_im al_n
        rw [ex_congr (g := fun c => (nt_v T sg dr pe po R i c == 0) && cu_cv S q c) (fun c _ => Bool.not_not _), hx]
      have hput : ∀ (x : Bool) (y : Int32), pr_im S (nt_v T sg dr pe po R i) q = x → y = nI x.toNat → ∀ p, p < q + 1 → upd b q y p = nI (pr_im S (nt_v T sg dr pe po R i) p).toNat := by
        intro x y hx hy p hp
        by_cases e : p = q
        · subst e; rw [pk_us, hx, hy]
        · rw [pk_un e]; exact hb p (by omega)
      rw [nI_clamp (by omega)]
      exact bo_br (fun z => ⟨vp_in_nI (by omega) (by decide), nm_e (nm_r (nI_1 q) (ih _ (hput true _ (e _ z) (bo_vn true))))⟩) (fun z => ⟨vp_in_nI (by omega) (by decide), nm_e (nm_r (nI_1 q) (ih _ (hput false _ (e _ z) (bo_vn false))))⟩)
  · intro n c a hc ha ih
    refine br_f (by rw [sg_s1 (by omega)]; exact nI_ge hc (by omega)) (yw_valueFor K hR hi (by omega) ⟨vp_in_nI (by omega) (by decide), ?_⟩)
    rw [nI_clamp (by omega)]
    refine nm_e (nm_r (nI_1 c) (ih _ ?_))
    intro d hd
    by_cases e : d = c
    · subst e; exact pk_us
    · rw [pk_un e]; exact ha d (by omega)
theorem yw_inSet {n M k : Nat} (hn : n ≤ 27) (hk : k < n) {post : Int32 → Prop} (h : post (nI (nu_in n M k).toNat)) : wpY_inSet post (yt P S T sg dr pe po im s0 tb vd (nI n) cm cc yr ym yn yi yp yv) (nI M) (nI k) := by
  have e : (nI n - 1) - nI k = nI (n - 1 - k) := by
    rw [show (1 : Int32) = nI 1 from rfl, pk_sub (by omega), pk_sub (by omega)]
  show (((nI M >>> (((nI n - 1) - nI k) &&& 31)) &&& 1) = 1 → post 1) ∧ (¬ ((nI M >>> (((nI n - 1) - nI k) &&& 31)) &&& 1) = 1 → post 0)
  rw [e, sg_bitN M (by omega)]
  exact bo_if sg_t1 h
theorem yw_sizeOf {n M : Nat} (hn : n ≤ 27) {post : Int32 → Prop} (h : post (nI (ct_n (nu_in n M) n))) : wpY_sizeOf post (yt P S T sg dr pe po im s0 tb vd (nI n) cm cc yr ym yn yi yp yv) (nI M) := by
  refine loop_0 (σ := Unit) (fun f k _ => wY_sizeOf_4 post (nI M) (nI P) (nI S) (nI (s0 / 16)) (nI (s0 % 16)) (nI T) vd (nI n) cm cc (fun j => nI (sg j)) (fun j => nI (dr j)) (fun j => nI (pe j)) (fun j => nI (po j)) (fun j => nI (im.testBit j).toNat) tb yr ym yn yi yp yv f (nI (ct_n (nu_in n M) k)) (nI k)) (fun _ _ => True) n () trivial ?_ ?_
  · intro f _ _
    exact br_t (nI_le (Nat.le_refl _) (by omega)) h
  · intro f k _ hk _ ih
    have hx := ih () trivial
    refine br_f (nI_ge hk (by omega)) (yw_inSet hn hk (bo_br (fun z => nm_r (nI_1 k) ?_) (fun z => nm_r (nI_1 _) (nm_r (nI_1 k) ?_))))
    · have e1 : ct_n (nu_in n M) (k + 1) = ct_n (nu_in n M) k := by show ct_n (nu_in n M) k + (nu_in n M k).toNat = _; rw [z]; rfl
      rw [e1] at hx
      exact hx
    · have e1 : ct_n (nu_in n M) (k + 1) = ct_n (nu_in n M) k + 1 := by show ct_n (nu_in n M) k + (nu_in n M k).toNat = _; rw [z]; rfl
      rw [e1] at hx
      exact hx
theorem yw_setCovers (K : nt_K P S T sg dr pe po im s0) {v : Nat → Nat} (hA : pq_A S v yp (3 ^ S)) {M c : Nat} {post : Int32 → Prop} (h : post (nI (pq_sc S v (nu_in (pq_n S v) M) c).toNat)) : wpY_setCovers post (yt P S T sg dr pe po im s0 tb vd (nI (pq_n S v)) cm cc yr ym yn yi yp yv) (nI M) (nI c) := by
  have hn := pq_le K.2.1.1 K.2.1.2 v
  have h81 := cu_81 K.2.1.2
  refine loop_0 (σ := Unit) (fun f k _ => wY_setCovers_2 post (nI M) (nI c) (nI P) (nI S) (nI (s0 / 16)) (nI (s0 % 16)) (nI T) vd (nI (pq_n S v)) cm cc (fun j => nI (sg j)) (fun j => nI (dr j)) (fun j => nI (pe j)) (fun j => nI (po j)) (fun j => nI (im.testBit j).toNat) tb yr ym yn yi yp yv f (nI k)) (fun k _ => ∀ j, j < k → (nu_in (pq_n S v) M j && cu_cv S (pq_q S v j) c) = false) (pq_n S v) () (fun j hj => absurd hj (Nat.not_lt_zero _)) ?_ ?_
  · intro f _ hI
    have e : pq_sc S v (nu_in (pq_n S v) M) c = false := ex_not.mpr hI
    rw [e] at h
    exact br_t (nI_le (Nat.le_refl _) (by omega)) h
  · intro f k _ hk hI ih
    have hq := (pq_is hk).2.2
    refine br_f (nI_ge hk (by omega)) (yw_inSet hn hk (bo_br (fun z => nm_r (nI_1 k) (ih () (lt_s hI (by rw [z]; rfl)))) (fun z => ⟨vp_in_nI (by omega) (by decide), ?_⟩)))
    try dsimp only
    rw [nI_clamp (by omega), pq_Aq hA hk]
    refine yw_covers K (by omega) (bo_br (fun z2 => nm_r (nI_1 k) (ih () (lt_s hI (by rw [z2, Bool.and_false])))) (fun z2 => ?_))
    have e : pq_sc S v (nu_in (pq_n S v) M) c = true := ex_iff.mpr ⟨k, hk, by rw [z, z2]; rfl⟩
    rw [e] at h
    exact h
theorem yw_isCover (K : nt_K P S T sg dr pe po im s0) {v : Nat → Nat} (hv : ∀ c, c < 2 ^ S → yn c = nI (v c) ∧ v c < 4) (hA : pq_A S v yp (3 ^ S)) {M : Nat} {post : Int32 → Prop} (h1 : pq_C S v (nu_in (pq_n S v) M) → post 1) (h0 : ¬ pq_C S v (nu_in (pq_n S v) M) → post 0) : wpY_isCover post (yt P S T sg dr pe po im s0 tb vd (nI (pq_n S v)) cm cc yr ym yn yi yp yv) (nI M) := by
  have hS := K.2.1
  have h16 := nt_pS hS.2
  refine loop_0 (σ := Unit) (fun f c _ => wY_isCover_2 post (nI M) (nI P) (nI S) (nI (s0 / 16)) (nI (s0 % 16)) (nI T) vd (nI (pq_n S v)) cm cc (fun j => nI (sg j)) (fun j => nI (dr j)) (fun j => nI (pe j)) (fun j => nI (po j)) (fun j => nI (im.testBit j).toNat) tb yr ym yn yi yp yv f (nI c)) (fun c _ => ∀ j, j < c → v j = 1 → pq_sc S v (nu_in (pq_n S v) M) j = true) (2 ^ S) () (fun j hj => absurd hj (Nat.not_lt_zero _)) ?_ ?_
  · intro f _ hI
    exact br_t (by rw [sg_s1 (by omega)]; exact nI_le (Nat.le_refl _) (by omega)) (h1 hI)
  · intro f c _ hc hI ih
    refine br_f (by rw [sg_s1 (by omega)]; exact nI_ge hc (by omega)) ⟨vp_in_nI (by omega) (by decide), ?_⟩
    try dsimp only
    rw [nI_clamp (by omega), (hv c hc).1]
    have hvc := (hv c hc).2
    by_cases z : v c = 1
    · refine br_t (by rw [z]; rfl) (yw_setCovers K hA (bo_br (fun z2 => h0 (fun hC => ?_)) (fun z2 => nm_r (nI_1 c) (ih () (lt_s hI (fun _ => z2))))))
      have := hC c hc z
      rw [z2] at this
      exact absurd this (by simp)
    · exact br_f (fun y => z ((nI_eq (b := 1) (by omega) (by omega)).mp y)) (nm_r (nI_1 c) (ih () (lt_s hI (fun y => absurd y z))))
theorem yw_findCover (K : nt_K P S T sg dr pe po im s0) {R : Nat → Bool} (hR : rp_A yr R) {i : Nat} (hi : i < 4) {post : SY → Prop}
    (h : ∀ (n M : Nat) (yn' yi' yp' : Nat → Int32), pq_B S (nt_v T sg dr pe po R i) n M → pq_A S (nt_v T sg dr pe po R i) yp' (3 ^ S) → post (yt P S T sg dr pe po im s0 tb vd (nI (pq_n S (nt_v T sg dr pe po R i))) (nI M) (nI n) yr ym yn' yi' yp' yv)) : wpY_findCover post (yt P S T sg dr pe po im s0 tb vd pc cm cc yr ym yn yi yp yv) (nI i) := by
  have hS := K.2.1
  refine yw_findPrimes K hR hi (fun yn' yi' yp' hn hA => ?_)
  have hnv : ∀ c, c < 2 ^ S → yn' c = nI (nt_v T sg dr pe po R i c) ∧ nt_v T sg dr pe po R i c < 4 := fun c hc => ⟨hn c hc, nt_v_lt T sg dr pe po R i c⟩
  have hle := pq_le hS.1 hS.2 (nt_v T sg dr pe po R i)
  have hpow : 2 ^ pq_n S (nt_v T sg dr pe po R i) ≤ 2 ^ 27 := Nat.pow_le_pow_right (by decide) hle
  have hpos : 0 < 2 ^ pq_n S (nt_v T sg dr pe po R i) := Nat.two_pow_pos _
  have e : ((1 : Int32) <<< (nI (pq_n S (nt_v T sg dr pe po R i)) &&& 31)) - 1 = nI (2 ^ pq_n S (nt_v T sg dr pe po R i) - 1) := by
    rw [sg_s1 (by omega)]
    exact pk_sub (b := 1) (by omega)
  refine nm_r e ?_
  have key : ∀ k n M, k ≤ 2 ^ pq_n S (nt_v T sg dr pe po R i) → n ≤ 100 → nu_I (pq_n S (nt_v T sg dr pe po R i)) (pq_C S (nt_v T sg dr pe po R i)) k n M →
      wY_findCover_25 post (nI P) (nI S) (nI (s0 / 16)) (nI (s0 % 16)) (nI T) vd (nI (pq_n S (nt_v T sg dr pe po R i))) (fun j => nI (sg j)) (fun j => nI (dr j)) (fun j => nI (pe j)) (fun j => nI (po j)) (fun j => nI (im.testBit j).toNat) tb yr ym yn' yi' yp' yv (k + 1) (nI k - 1) (nI M) (nI n) := by
    intro k
    induction k with
    | zero =>
      intro n M _ _ hI
      obtain ⟨M0, h0, hc⟩ := pq_full hS.1 hS.2 (nt_v T sg dr pe po R i)
      exact br_t (by decide) (h n M yn' yi' yp' (nu_end (by omega) hI h0 hc) hA)
    | succ k ih =>
      intro n M hk hn hI
      have hct := ct_le (nu_in (pq_n S (nt_v T sg dr pe po R i)) k) (pq_n S (nt_v T sg dr pe po R i))
      have ek : nI (k + 1) - 1 = nI k := nI_pred k
      have em : nI k + (-1) = nI k - 1 := by grind
      rw [ek]
      refine br_f (nI_pos (by omega)) (yw_sizeOf hle ?_)
      by_cases z : n ≤ ct_n (nu_in (pq_n S (nt_v T sg dr pe po R i)) k) (pq_n S (nt_v T sg dr pe po R i))
      · exact br_t (nI_le z (by omega)) (nm_r em (ih n M (by omega) hn (nu_pass (by omega) hI (Or.inl z))))
      · refine br_f (nI_ge (by omega) (by omega)) (yw_isCover K hnv hA (fun hC => ?_) (fun hC => ?_))
        · exact br_f (by decide) (nm_r em (ih _ k (by omega) (by omega) (nu_take hI (by omega) hC (by omega))))
        · exact br_t rfl (nm_r em (ih n M (by omega) hn (nu_pass (by omega) hI (Or.inr hC))))
  have := key (2 ^ pq_n S (nt_v T sg dr pe po R i)) 100 0 (Nat.le_refl _) (by omega) (nu_start _ _)
  rw [show nI (2 ^ pq_n S (nt_v T sg dr pe po R i)) - 1 = nI (2 ^ pq_n S (nt_v T sg dr pe po R i) - 1) from pk_sub (b := 1) (by omega)] at this
  exact ⟨_, this⟩
end
