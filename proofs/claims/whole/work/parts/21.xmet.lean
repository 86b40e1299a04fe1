/-! the component's circuit against the net -/
section
variable {P S T : Nat} {sg dr pe po : Nat → Nat} {im s0 : Nat} {tb : Nat → Int32}
variable {vd us ic rc pc mc ln lh ls cm cc : Int32} {ar asn aa ao apt act acu aco aq apc af ad am yr ym yn yi yp yv : Nat → Int32}
theorem xw_gateOf {i c : Nat} (hi : i < 4) (hc : c < 16) {post : Int32 → Prop} (h : post (nI (gt_G tb aco i c).toNat)) : wpX_gateOf post (xt P S T sg dr pe po im s0 tb vd us ic rc pc mc ln lh ls ar asn aa ao apt act acu aco aq apc af ad am) (nI i) (nI c) := by
  have hv : vp_in (nI i) 4 := vp_in_nI hi (by decide)
  unfold wpX_gateOf xt
  dsimp only
  rw [nI_clamp (by omega)]
  unfold gt_G at h
  refine ⟨hv, nm_e ?_⟩
  by_cases e : tb i = -1
  · rw [if_pos e] at h
    refine br_t e ⟨hv, ?_⟩
    show post ((aco i >>> (nI c &&& 31)) &&& 1)
    rw [sg_bit (aco i) (by omega)]
    exact h
  · rw [if_neg e] at h
    refine br_f e ?_
    show post ((tb i >>> (nI c &&& 31)) &&& 1)
    rw [sg_bit (tb i) (by omega)]
    exact h
/-- the driven outputs of a code, as a set -/
def dr_B (S im : Nat) (tb aco ad : Nat → Int32) (c k : Nat) : Prop := ∃ D, D < 16 ∧ ad c = nI D ∧ ∀ i, D.testBit i = (decide (i < k) && gt_D im tb aco i c)
def dr_A (S im : Nat) (tb aco ad : Nat → Int32) : Prop := ∀ c, c < 2 ^ S → dr_B S im tb aco ad c S
def dr_m (ad : Nat → Int32) (c : Nat) : Nat := (ad c).toNatClampNeg
theorem dr_F {S im : Nat} {tb aco ad : Nat → Int32} (A : dr_A S im tb aco ad) {c : Nat} (hc : c < 2 ^ S) : dr_m ad c < 16 ∧ ad c = nI (dr_m ad c) ∧ ∀ i, (dr_m ad c).testBit i = (decide (i < S) && gt_D im tb aco i c) := by
  obtain ⟨D, h1, h2, h3⟩ := A c hc
  have e : dr_m ad c = D := by unfold dr_m; rw [h2]; exact nI_clamp (by omega)
  rw [e]
  exact ⟨h1, h2, h3⟩
theorem xw_noteDriven (K : nt_K P S T sg dr pe po im s0) {post : SX → Prop} (h : ∀ ad', dr_A S im tb aco ad' → post (xt P S T sg dr pe po im s0 tb vd us ic rc pc mc ln lh ls ar asn aa ao apt act acu aco aq apc af ad' am)) : wpX_noteDriven post (xt P S T sg dr pe po im s0 tb vd us ic rc pc mc ln lh ls ar asn aa ao apt act acu aco aq apc af ad am) := by
  have hS := K.2.1
  have h16 := nt_pS hS.2
  refine loop_0 (σ := Nat → Int32) (fun n c a => wX_noteDriven_2 post (nI S) (nI (2 ^ P)) (nI (2 ^ S)) (nI (3 ^ S)) (nI T) (nI im) (nI s0) vd us ic rc pc mc ln lh ls 65536 n (nI c) (cu_ar S) (fun j => nI (sg j)) (fun j => nI (dr j)) (fun j => nI (pe j)) (fun j => nI (po j)) tb ar asn aa ao apt act acu aco aq apc af a am) (fun c a => ∀ d, d < c → dr_B S im tb aco a d S) (2 ^ S) ad (fun j hj => absurd hj (Nat.not_lt_zero _)) ?_ ?_
  · intro n a hI
    exact br_t (nI_le (Nat.le_refl _) (by omega)) (h a hI)
  · intro n c a hc hI ih
    have hv : vp_in (nI c) 16 := vp_in_nI (by omega) (by decide)
    refine br_f (nI_ge hc (by omega)) ⟨hv, ?_⟩
    rw [nI_clamp (by omega)]
    refine nm_e ?_
    refine loop_0 (σ := Nat → Int32) (fun n' i b => wX_noteDriven_19 post (wX_noteDriven_2 post (nI S) (nI (2 ^ P)) (nI (2 ^ S)) (nI (3 ^ S)) (nI T) (nI im) (nI s0) vd us ic rc pc mc ln lh ls 65536 n) (nI c) (nI S) (nI (2 ^ P)) (nI (2 ^ S)) (nI (3 ^ S)) (nI T) (nI im) (nI s0) vd us ic rc pc mc ln lh ls 65536 n' (nI i) (cu_ar S) (fun j => nI (sg j)) (fun j => nI (dr j)) (fun j => nI (pe j)) (fun j => nI (po j)) tb ar asn aa ao apt act acu aco aq apc af b am) (fun i b => (∀ d, d < c → dr_B S im tb aco b d S) ∧ dr_B S im tb aco b c i) S (upd a c 0) ⟨fun d hd => ?_, 0, by decide, pk_us, fun i => ?_⟩ ?_ ?_
    · obtain ⟨D, h1, h2, h3⟩ := hI d hd
      exact ⟨D, h1, by rw [pk_un (by omega)]; exact h2, h3⟩
    · rw [Nat.zero_testBit, decide_eq_false (Nat.not_lt_zero _)]
      rfl
    · rintro n' b ⟨i1, i2⟩
      exact br_t (nI_le (Nat.le_refl _) (by omega)) (nm_r (nI_1 c) (ih b (lt_s i1 i2)))
    · rintro n' i b hi ⟨i1, D, d1, d2, d3⟩ ih'
      have hno : gt_D im tb aco i c = false → wX_noteDriven_19 post (wX_noteDriven_2 post (nI S) (nI (2 ^ P)) (nI (2 ^ S)) (nI (3 ^ S)) (nI T) (nI im) (nI s0) vd us ic rc pc mc ln lh ls 65536 n) (nI c) (nI S) (nI (2 ^ P)) (nI (2 ^ S)) (nI (3 ^ S)) (nI T) (nI im) (nI s0) vd us ic rc pc mc ln lh ls 65536 n' (nI (i + 1)) (cu_ar S) (fun j => nI (sg j)) (fun j => nI (dr j)) (fun j => nI (pe j)) (fun j => nI (po j)) tb ar asn aa ao apt act acu aco aq apc af b am := by
        intro z
        refine ih' b ⟨i1, D, d1, d2, fun j => ?_⟩
        rw [d3 j]
        by_cases e : j = i
        · subst e
          rw [z, Bool.and_false, Bool.and_false]
        · have : decide (j < i + 1) = decide (j < i) := by
            by_cases y : j < i
            · rw [decide_eq_true y, decide_eq_true (by omega)]
            · rw [decide_eq_false y, decide_eq_false (by omega)]
          rw [this]
      refine br_f (nI_ge hi (by omega)) (xw_isOutput hS.2 hi (bo_br (fun z => nm_r (nI_1 i) (hno ?_)) (fun z => xw_gateOf (by omega) (by omega) ?_)))
      · unfold gt_D
        rw [z]; rfl
      · show (nI (gt_G tb aco i c).toNat = ((nI c >>> (nI i &&& 31)) &&& 1) → _) ∧ (¬ nI (gt_G tb aco i c).toNat = ((nI c >>> (nI i &&& 31)) &&& 1) → _)
        rw [sg_bitN c (by omega)]
        by_cases e : gt_G tb aco i c = c.testBit i
        · refine br_t (by rw [e]) (nm_r (nI_1 i) (hno ?_))
          unfold gt_D
          rw [e, beq_self_eq_true]
          simp
        · refine br_f (fun y => e (sg_te.mp y)) ⟨hv, hv, ?_⟩
          rw [nI_clamp (by omega), sg_s1 (by omega), d2, sg_or]
          refine nm_e (nm_r (nI_1 i) (ih' _ ⟨fun d hd => ?_, D ||| 2 ^ i, ?_, pk_us, fun j => ?_⟩))
          · obtain ⟨E, h1, h2, h3⟩ := i1 d hd
            exact ⟨E, h1, by rw [pk_un (by omega)]; exact h2, h3⟩
          · exact Nat.or_lt_two_pow (n := 4) d1 (Nat.pow_lt_pow_right (by decide) (by omega))
          · rw [Nat.testBit_or, d3 j, Nat.testBit_two_pow]
            by_cases ej : j = i
            · subst ej
              have : gt_D im tb aco j c = true := by
                unfold gt_D
                rw [z, beq_eq_false_iff_ne.mpr e]; rfl
              rw [this, decide_eq_true (show j < j + 1 from by omega)]
              simp
            · have : decide (j < i + 1) = decide (j < i) := by
                by_cases y : j < i
                · rw [decide_eq_true y, decide_eq_true (by omega)]
                · rw [decide_eq_false y, decide_eq_false (by omega)]
              rw [this, decide_eq_false (show ¬ i = j from fun y => ej y.symm), Bool.or_false]
theorem xw_meet {R : Nat → Bool} (hA : rp_A am R) {b n : Nat} (hb : b < 1024) {post : SX → Prop} (h1 : R b = true → post (xt P S T sg dr pe po im s0 tb vd us ic rc pc (nI n) ln lh ls ar asn aa ao apt act acu aco aq apc af ad am)) (hn : R b = false → n < 1024)
    (h0 : R b = false → post (xt P S T sg dr pe po im s0 tb vd us ic rc pc (nI (n + 1)) ln lh ls ar asn aa ao apt act acu aco (upd aq n (nI b)) apc af ad (upd am b (vp_nar .boolean 1)))) : wpX_meet post (xt P S T sg dr pe po im s0 tb vd us ic rc pc (nI n) ln lh ls ar asn aa ao apt act acu aco aq apc af ad am) (nI b) := by
  have hv : vp_in (nI b) 1024 := vp_in_nI hb (by decide)
  unfold wpX_meet xt
  dsimp only
  rw [nI_clamp (n := b) (by omega), hA b hb]
  refine ⟨hv, bo_br (fun z => ⟨hv, nm_e ⟨vp_in_nI (hn z) (by decide), ?_⟩⟩) (fun z => h1 z)⟩
  rw [nI_clamp (n := n) (by have := hn z; omega)]
  exact nm_e (nm_r (nI_1 n) (h0 z))
theorem xw_movingSignals (K : nt_K P S T sg dr pe po im s0) (A : dr_A S im tb aco ad) {s : Nat} (hs : s < 1024) (hc : s % 16 < 2 ^ S) {post : Int32 → Prop} (h : post (nI (im ||| dr_m ad (s % 16)))) : wpX_movingSignals post (xt P S T sg dr pe po im s0 tb vd us ic rc pc mc ln lh ls ar asn aa ao apt act acu aco aq apc af ad am) (nI s) := by
  obtain ⟨d1, d2, d3⟩ := dr_F A hc
  unfold wpX_movingSignals xt wpX_codeOf
  dsimp only
  rw [iv_rem hs, nI_clamp (by omega), d2, sg_or]
  exact ⟨by decide, vp_in_nI (by omega) (by decide), h⟩
/-- a transition's signal moves -/
theorem xm_mv (K : nt_K P S T sg dr pe po im s0) (A : dr_A S im tb aco ad) {s : Nat} (hc : s % 16 < 2 ^ S) (t : Nat) : (nI (im ||| dr_m ad (s % 16)) >>> (nI (sg t) &&& 31)) &&& 1 = nI (im.testBit (sg t) || gt_D im tb aco (sg t) (s % 16)).toNat := by
  obtain ⟨d1, d2, d3⟩ := dr_F A hc
  have hS := K.2.1
  have hB := (K.2.2.2.1 t).1
  rw [sg_bitN _ (by omega), Nat.testBit_or, d3, decide_eq_true hB, Bool.true_and]
theorem xw_leaveMet (K : nt_K P S T sg dr pe po im s0) (A : dr_A S im tb aco ad) {R : Nat → Bool} {n h a : Nat} (hA : rp_A am R) (J : bf_J (me_st T im.testBit (gt_D im tb aco) sg dr pe po) s0 R aq n) (C : bf_C (me_st T im.testBit (gt_D im tb aco) sg dr pe po) R aq h) (hh : h < n) (hRa : R a = true) (ha : a < 1024) (hq : aq h = nI a) {post : SX → Prop}
    (hp : ∀ (n' : Nat) (R' : Nat → Bool) (am' aq' : Nat → Int32), rp_A am' R' → bf_J (me_st T im.testBit (gt_D im tb aco) sg dr pe po) s0 R' aq' n' → bf_C (me_st T im.testBit (gt_D im tb aco) sg dr pe po) R' aq' (h + 1) → n ≤ n' → post (xt P S T sg dr pe po im s0 tb vd us ic rc pc (nI n') ln lh ls ar asn aa ao apt act acu aco aq' apc af ad am')) : wpX_leaveMet post (xt P S T sg dr pe po im s0 tb vd us ic rc pc (nI n) ln lh ls ar asn aa ao apt act acu aco aq apc af ad am) (nI a) := by
  have hT := K.2.2.1
  have hac : a % 16 < 2 ^ S := me_c K (J.2.2.1 a hRa).1
  unfold wpX_leaveMet xt
  dsimp only
  refine xw_movingSignals K A ha hac ?_
  refine loop_0 (σ := Nat × (Nat → Bool) × (Nat → Int32) × (Nat → Int32)) (fun k t s => wX_leaveMet_8 post (nI a) (nI (im ||| dr_m ad (a % 16))) k (nI t) (nI S) (nI (2 ^ P)) (nI (2 ^ S)) (nI (3 ^ S)) (nI T) (nI im) (nI s0) vd us ic rc pc (nI s.1) ln lh ls (cu_ar S) (fun j => nI (sg j)) (fun j => nI (dr j)) (fun j => nI (pe j)) (fun j => nI (po j)) tb ar asn aa ao apt act acu aco s.2.2.2 apc af ad s.2.2.1 65536)
    (fun t s => rp_A s.2.2.1 s.2.1 ∧ bf_J (me_st T im.testBit (gt_D im tb aco) sg dr pe po) s0 s.2.1 s.2.2.2 s.1 ∧ bf_C (me_st T im.testBit (gt_D im tb aco) sg dr pe po) s.2.1 s.2.2.2 h ∧ s.2.1 a = true ∧ n ≤ s.1 ∧ (∀ j, j < n → s.2.2.2 j = aq j) ∧ ∀ k, k < t → me_ok im.testBit (gt_D im tb aco) sg pe k a = true → s.2.1 (nt_fr sg dr pe po k a) = true) T (n, R, am, aq)
    ⟨hA, J, C, hRa, Nat.le_refl _, fun _ _ => rfl, fun k hk => absurd hk (Nat.not_lt_zero _)⟩ ?_ ?_
  · rintro k ⟨n', R', am', aq'⟩ ⟨i1, i2, i3, i4, i5, i6, i7⟩
    refine br_t (nI_le (Nat.le_refl _) (by omega)) (hp n' R' am' aq' i1 i2 ?_ i5)
    intro j hj x y ex hx hst
    by_cases e : j = h
    · subst e
      have e2 : nI a = nI x := by rw [← hq, ← ex]; exact (i6 j hh).symm
      rw [nI_eq (by omega) (by omega)] at e2
      subst e2
      obtain ⟨t, ht, hok, ey⟩ := hst
      rw [ey]
      exact i7 t ht hok
    · exact i3 j (by omega) x y ex hx hst
  · rintro k t ⟨n', R', am', aq'⟩ ht ⟨i1, i2, i3, i4, i5, i6, i7⟩ ih
    have i1' : rp_A am' R' := i1
    have i5' : n ≤ n' := i5
    have hB := iv_bS K.2.1.2 K.2.2.2.1 t
    have hno : me_ok im.testBit (gt_D im tb aco) sg pe t a = false → wX_leaveMet_8 post (nI a) (nI (im ||| dr_m ad (a % 16))) k (nI (t + 1)) (nI S) (nI (2 ^ P)) (nI (2 ^ S)) (nI (3 ^ S)) (nI T) (nI im) (nI s0) vd us ic rc pc (nI n') ln lh ls (cu_ar S) (fun j => nI (sg j)) (fun j => nI (dr j)) (fun j => nI (pe j)) (fun j => nI (po j)) tb ar asn aa ao apt act acu aco aq' apc af ad am' 65536 := by
      intro z
      refine ih (n', R', am', aq') ⟨i1, i2, i3, i4, i5, i6, lt_s i7 ?_⟩
      intro y
      rw [z] at y
      exact absurd y (by simp)
    refine br_f (nI_ge ht (by omega)) (xw_isEnabled K ht ha (bo_br (fun z => nm_r (nI_1 t) (hno (by unfold me_ok; rw [z]; rfl))) (fun z => ⟨vp_in_nI (by omega) (by decide), ?_⟩)))
    unfold wpX_bit
    try dsimp only
    rw [nI_clamp (by omega), xm_mv K A hac t]
    refine bo_br1 (fun z2 => xw_fire K ht ha ?_) (fun z2 => nm_r (nI_1 t) (hno (by unfold me_ok; rw [z, z2]; rfl)))
    have hb : nt_fr sg dr pe po t a < 1024 := nt_fr_lt K.2.1.2 K.2.2.2.1 t ha
    have hok : me_ok im.testBit (gt_D im tb aco) sg pe t a = true := by unfold me_ok; rw [z, z2]; rfl
    have hst : me_st T im.testBit (gt_D im tb aco) sg dr pe po a (nt_fr sg dr pe po t a) := ⟨t, ht, hok, rfl⟩
    refine xw_meet i1' hb (fun z4 => nm_r (nI_1 t) ?_) (fun z4 => bf_new i2 hb z4) (fun z4 => nm_r (nI_1 t) ?_)
    · exact ih (n', R', am', aq') ⟨i1, i2, i3, i4, i5, i6, lt_s i7 (fun _ => z4)⟩
    · refine ih (n' + 1, ct_u R' (nt_fr sg dr pe po t a), upd am' (nt_fr sg dr pe po t a) (vp_nar .boolean 1), upd aq' n' (nI (nt_fr sg dr pe po t a))) ⟨rp_u i1' _, bf_add i2 i4 hst hb z4, bf_Cadd i3 (by omega), ct_uo _ _ _ i4, by dsimp only; omega, fun j hj => ?_, lt_s (fun k hk y => ct_uo _ _ _ (i7 k hk y)) (fun _ => ct_us _ _)⟩
      show upd aq' n' (nI (nt_fr sg dr pe po t a)) j = aq j
      rw [pk_un (by omega)]
      exact i6 j hj
theorem xw_meetStates (K : nt_K P S T sg dr pe po im s0) {post : SX → Prop}
    (hp : ∀ (R2 : Nat → Bool) (ad' am' aq' : Nat → Int32), dr_A S im tb aco ad' → rp_A am' R2 → rc_is (me_st T im.testBit (gt_D im tb aco) sg dr pe po) s0 R2 → post (xt P S T sg dr pe po im s0 tb vd us ic rc pc (nI (ct_n R2 1024)) ln lh ls ar asn aa ao apt act acu aco aq' apc af ad' am')) : wpX_meetStates post (xt P S T sg dr pe po im s0 tb vd us ic rc pc mc ln lh ls ar asn aa ao apt act acu aco aq apc af ad am) := by
  have hs0 := K.2.2.2.2.2.1
  have hb := me_st_lt (T := T) (inp := im.testBit) (dv := gt_D im tb aco) K.2.1.2 K.2.2.2.1
  unfold wpX_meetStates xt
  dsimp only
  refine xw_noteDriven K (fun ad' A => ?_)
  refine loop_0 (σ := Nat → Int32) (fun n i q => wX_meetStates_6 post (nI S) (nI (2 ^ P)) (nI (2 ^ S)) (nI (3 ^ S)) (nI T) (nI im) (nI s0) vd us ic rc pc mc ln lh ls 65536 n (nI i) (cu_ar S) (fun j => nI (sg j)) (fun j => nI (dr j)) (fun j => nI (pe j)) (fun j => nI (po j)) tb ar asn aa ao apt act acu aco aq apc af ad' q) (fun i q => ∀ k, k < i → q k = 0) 1024 am (fun k hk => absurd hk (Nat.not_lt_zero _)) ?_ ?_
  · intro n q hq
    refine br_t (nI_le (Nat.le_refl 1024) (by decide)) ?_
    refine xw_meet (R := fun _ => false) (n := 0) (fun s hs => hq s hs) hs0 (fun z => absurd z (by simp)) (fun _ => by decide) (fun _ => ?_)
    refine loop_0 (σ := Nat × (Nat → Bool) × (Nat → Int32) × (Nat → Int32)) (fun n h s => wX_meetStates_41 post n (nI h) (nI S) (nI (2 ^ P)) (nI (2 ^ S)) (nI (3 ^ S)) (nI T) (nI im) (nI s0) vd us ic rc pc (nI s.1) ln lh ls (cu_ar S) (fun j => nI (sg j)) (fun j => nI (dr j)) (fun j => nI (pe j)) (fun j => nI (po j)) tb ar asn aa ao apt act acu aco s.2.2.2 apc af ad' s.2.2.1 65536)
      (fun h s => rp_A s.2.2.1 s.2.1 ∧ bf_J (me_st T im.testBit (gt_D im tb aco) sg dr pe po) s0 s.2.1 s.2.2.2 s.1 ∧ bf_C (me_st T im.testBit (gt_D im tb aco) sg dr pe po) s.2.1 s.2.2.2 h ∧ h ≤ s.1) 1024 (1, ct_u (fun _ => false) s0, _, _)
      ⟨rp_u (fun s hs => hq s hs) s0, bf_0 _ hs0, fun j hj => absurd hj (Nat.not_lt_zero _), Nat.zero_le _⟩ ?_ ?_
    · rintro n ⟨c, R, am', aq'⟩ ⟨i1, i2, i3, i4⟩
      have hc1 : c ≤ 1024 := bf_le i2
      have := hp R ad' am' aq' A i1 (bf_end i2 i3 hc1 hb)
      rw [← i2.1] at this
      exact br_t (nI_le (Nat.le_refl 1024) (by decide)) this
    · rintro n h ⟨c, R, am', aq'⟩ hh ⟨i1, i2, i3, i4⟩ ih
      have hc1 : c ≤ 1024 := bf_le i2
      refine br_f (nI_ge hh (by decide)) ?_
      by_cases hc : c ≤ h
      · have := hp R ad' am' aq' A i1 (bf_end i2 i3 hc hb)
        rw [← i2.1] at this
        exact br_t (nI_le hc (by omega)) this
      · obtain ⟨a, hRa, hqa⟩ := i2.2.2.2.2 h (by dsimp only; omega)
        have ha := (i2.2.2.1 a hRa).2
        refine br_f (nI_ge (a := h) (b := c) (by omega) (by omega)) ⟨vp_in_nI hh (by decide), ?_⟩
        try dsimp only
        rw [nI_clamp (by omega), show aq' h = nI a from hqa]
        refine xw_leaveMet K A i1 i2 i3 (by dsimp only; omega) hRa ha hqa (fun n' R' am2 aq2 j1 j2 j3 j4 => ?_)
        exact nm_r (nI_1 h) (ih (n', R', am2, aq2) ⟨j1, j2, j3, by dsimp only at j4 ⊢; omega⟩)
  · intro n i q hi hq ih
    refine br_f (nI_ge hi (by decide)) ⟨vp_in_nI hi (by decide), ?_⟩
    rw [nI_clamp (by omega)]
    exact nm_e (nm_r (nI_1 i) (ih _ (yw_clear q i hq)))
theorem xw_showsHazard (K : nt_K P S T sg dr pe po im s0) (A : dr_A S im tb aco ad) {s : Nat} (hs : s < 1024) (hc : s % 16 < 2 ^ S) {post : Int32 → Prop} (h : post (nI (sh_h S T im.testBit (gt_D im tb aco) sg dr pe po s).toNat)) : wpX_showsHazard post (xt P S T sg dr pe po im s0 tb vd us ic rc pc mc ln lh ls ar asn aa ao apt act acu aco aq apc af ad am) (nI s) := by
  have hT := K.2.2.1
  have hS := K.2.1
  have h16 := nt_pS hS.2
  obtain ⟨d1, d2, d3⟩ := dr_F A hc
  have hfc : ∀ t, nt_fr sg dr pe po t s % 16 < 2 ^ S := fun t => nt_fr_c K.2.1.2 K.2.2.2.1 t hc
  rw [← mk_h (D := dr_m ad (s % 16)) (D' := fun t => dr_m ad (nt_fr sg dr pe po t s % 16)) d3 (fun t => (dr_F A (hfc t)).2.2)] at h
  unfold wpX_showsHazard xt
  dsimp only
  refine xw_movingSignals K A hs hc ?_
  refine loop_0 (σ := Unit) (fun n t _ => wX_showsHazard_8 post (nI s) (nI (im ||| dr_m ad (s % 16))) (nI S) (nI (2 ^ P)) (nI (2 ^ S)) (nI (3 ^ S)) (nI T) (nI im) (nI s0) vd us ic rc pc mc ln lh ls (cu_ar S) (fun j => nI (sg j)) (fun j => nI (dr j)) (fun j => nI (pe j)) (fun j => nI (po j)) tb ar asn aa ao apt act acu aco aq apc af ad am 65536 n (nI t)) (fun t _ => ∀ k, k < t → (me_ok im.testBit (gt_D im tb aco) sg pe k s && !(sg_an (sg_an (dr_m ad (s % 16)) (2 ^ sg k)) (dr_m ad (nt_fr sg dr pe po k s % 16)) == 0)) = false) T () (fun j hj => absurd hj (Nat.not_lt_zero _)) ?_ ?_
  · intro n _ hI
    rw [ex_not.mpr hI] at h
    exact br_t (nI_le (Nat.le_refl _) (by omega)) h
  · intro n t _ ht hI ih
    have hB := iv_bS K.2.1.2 K.2.2.2.1 t
    have hfr : nt_fr sg dr pe po t s < 1024 := nt_fr_lt K.2.1.2 K.2.2.2.1 t hs
    obtain ⟨g1, g2, g3⟩ := dr_F A (hfc t)
    refine br_f (nI_ge ht (by omega)) (xw_isEnabled K ht hs (bo_br (fun z => nm_r (nI_1 t) (ih () (lt_s hI (by unfold me_ok; rw [z]; rfl)))) (fun z => ⟨vp_in_nI (by omega) (by decide), ?_⟩)))
    unfold wpX_bit
    try dsimp only
    rw [nI_clamp (n := t) (by omega), xm_mv K A hc t]
    refine bo_br1 (fun z2 => xw_fire K ht hs ?_) (fun z2 => nm_r (nI_1 t) (ih () (lt_s hI (by unfold me_ok; rw [z, z2]; rfl))))
    have hok : me_ok im.testBit (gt_D im tb aco) sg pe t s = true := by unfold me_ok; rw [z, z2]; rfl
    have hle : sg_an (sg_an (dr_m ad (s % 16)) (2 ^ sg t)) (dr_m ad (nt_fr sg dr pe po t s % 16)) ≤ dr_m ad (s % 16) := Nat.le_trans (sg_an_le _ _) (sg_an_le _ _)
    unfold wpX_codeOf
    try dsimp only
    rw [iv_rem hs, iv_rem hfr, nI_clamp (n := s % 16) (by omega), nI_clamp (n := nt_fr sg dr pe po t s % 16) (by omega), d2, g2, sg_s1 (by omega)]
    refine ⟨by decide, vp_in_nI (by omega) (by decide), vp_in_nI (by omega) (by decide), nm_r (sg_andn _ _) ⟨by decide, vp_in_nI (by omega) (by decide), ?_⟩⟩
    rw [sg_andn]
    by_cases y : sg_an (sg_an (dr_m ad (s % 16)) (2 ^ sg t)) (dr_m ad (nt_fr sg dr pe po t s % 16)) = 0
    · exact br_t (by rw [y]; rfl) (nm_r (nI_1 t) (ih () (lt_s hI (by rw [y, beq_self_eq_true]; simp))))
    · refine br_f (fun x => y ((iv_n0 (by omega)).mp x)) ?_
      rw [ex_iff.mpr ⟨t, ht, by rw [hok, beq_eq_false_iff_ne.mpr y]; rfl⟩] at h
      exact h
theorem xw_showsStall (K : nt_K P S T sg dr pe po im s0) (A : dr_A S im tb aco ad) {s E : Nat} (hc : s % 16 < 2 ^ S) (hE : ∀ i, E.testBit i = nt_he T sg pe i (s / 16)) {post : Int32 → Prop} (h : post (nI (sh_s S T im.testBit (gt_D im tb aco) sg pe s).toNat)) : wpX_showsStall post (xt P S T sg dr pe po im s0 tb vd us ic rc pc mc ln lh ls ar asn aa ao apt act acu aco aq apc af ad am) (nI E) (nI (dr_m ad (s % 16))) := by
  have hS := K.2.1
  have hB := K.2.2.2.1
  have him := K.2.2.2.2.1
  obtain ⟨d1, d2, d3⟩ := dr_F A hc
  have hk := mk_s (T := T) (im := im) d3 hE (fun t => (hB t).1)
  have hE16 : E < 2 ^ 4 := Nat.lt_pow_two_of_testBit _ (fun i hi => by
    rw [hE]
    apply bo_nt
    intro z
    obtain ⟨t, _, h⟩ := ex_iff.mp z
    rw [Bool.and_eq_true, beq_iff_eq] at h
    have := (hB t).1
    omega)
  have hl1 : sg_an E im ≤ E := sg_an_le _ _
  have hl2 : E &&& im ≤ E := Nat.and_le_left
  unfold wpX_showsStall xt
  dsimp only
  rw [sg_andn, nx_and]
  by_cases y1 : sg_an E im = 0
  · have e : sh_s S T im.testBit (gt_D im tb aco) sg pe s = false := bo_nt (fun z => (hk.mpr z).1 y1)
    rw [e] at h
    exact br_t (by rw [y1]; rfl) h
  · refine br_f (fun x => y1 ((iv_n0 (by omega)).mp x)) ?_
    by_cases y2 : dr_m ad (s % 16) = 0
    · refine br_t (by rw [y2]; rfl) ?_
      by_cases y3 : E &&& im = 0
      · have e : sh_s S T im.testBit (gt_D im tb aco) sg pe s = true := hk.mp ⟨y1, y2, y3⟩
        rw [e] at h
        exact br_t (by rw [y3]; rfl) h
      · have e : sh_s S T im.testBit (gt_D im tb aco) sg pe s = false := bo_nt (fun z => y3 (hk.mpr z).2.2)
        rw [e] at h
        exact br_f (fun x => y3 ((iv_n0 (by omega)).mp x)) h
    · have e : sh_s S T im.testBit (gt_D im tb aco) sg pe s = false := bo_nt (fun z => y2 (hk.mpr z).2.1)
      rw [e] at h
      exact br_f (fun x => y2 ((iv_n0 (by omega)).mp x)) h
/-- the least one from k on -/
def ls_d (f : Nat → Bool) (k : Nat) (r : Int32) : Prop := (r = -1 ∧ ∀ i, k ≤ i → i < 1024 → f i = false) ∨ ∃ j, k ≤ j ∧ j < 1024 ∧ r = nI j ∧ f j = true ∧ ∀ i, k ≤ i → i < j → f i = false
theorem ls_dskip {f : Nat → Bool} {k : Nat} {r : Int32} (h : ls_d f (k + 1) r) (hf : f k = false) : ls_d f k r := by
  rcases h with ⟨e, z⟩ | ⟨j, h1, h2, h3, h4, h5⟩
  · refine Or.inl ⟨e, fun i hi hi2 => ?_⟩
    by_cases ei : i = k
    · subst ei; exact hf
    · exact z i (by omega) hi2
  · refine Or.inr ⟨j, by omega, h2, h3, h4, fun i hi hi2 => ?_⟩
    by_cases ei : i = k
    · subst ei; exact hf
    · exact h5 i (by omega) hi2
theorem ls_dtake {f : Nat → Bool} {k : Nat} (hk : k < 1024) (hf : f k = true) : ls_d f k (nI k) :=
  Or.inr ⟨k, Nat.le_refl _, hk, rfl, hf, fun i hi hi2 => absurd hi2 (by omega)⟩
theorem ls_d0 {f : Nat → Bool} {r : Int32} (h : ls_d f 0 r) : ls_n f 1024 r := by
  rcases h with ⟨e, z⟩ | ⟨j, h1, h2, h3, h4, h5⟩
  · exact Or.inl ⟨e, fun i hi => z i (Nat.zero_le _) hi⟩
  · exact Or.inr ⟨j, h2, h3, h4, fun i hi => h5 i (Nat.zero_le _) hi⟩
theorem xw_noteFailures (K : nt_K P S T sg dr pe po im s0) (A : dr_A S im tb aco ad) {R2 : Nat → Bool} (hA : rp_A am R2) (hR : rc_is (me_st T im.testBit (gt_D im tb aco) sg dr pe po) s0 R2) {post : SX → Prop}
    (hp : ∀ ln' lh' ls' : Int32, ls_n (fun s => R2 s && sh_n S T (gt_D im tb aco) sg pe s) 1024 ln' → ls_n (fun s => R2 s && sh_h S T im.testBit (gt_D im tb aco) sg dr pe po s) 1024 lh' → ls_n (fun s => R2 s && sh_s S T im.testBit (gt_D im tb aco) sg pe s) 1024 ls' → post (xt P S T sg dr pe po im s0 tb vd us ic rc pc mc ln' lh' ls' ar asn aa ao apt act acu aco aq apc af ad am)) : wpX_noteFailures post (xt P S T sg dr pe po im s0 tb vd us ic rc pc mc ln lh ls ar asn aa ao apt act acu aco aq apc af ad am) := by
  have key : ∀ k (ln lh ls : Int32), k ≤ 1024 → ls_d (fun s => R2 s && sh_n S T (gt_D im tb aco) sg pe s) k ln → ls_d (fun s => R2 s && sh_h S T im.testBit (gt_D im tb aco) sg dr pe po s) k lh → ls_d (fun s => R2 s && sh_s S T im.testBit (gt_D im tb aco) sg pe s) k ls →
      wX_noteFailures_19 post (nI S) (nI (2 ^ P)) (nI (2 ^ S)) (nI (3 ^ S)) (nI T) (nI im) (nI s0) vd us ic rc pc mc (cu_ar S) (fun j => nI (sg j)) (fun j => nI (dr j)) (fun j => nI (pe j)) (fun j => nI (po j)) tb ar asn aa ao apt act acu aco aq apc af ad am 65536 (k + 1) (nI k - 1) ln lh ls := by
    intro k
    induction k with
    | zero =>
      intro ln lh ls _ h1 h2 h3
      exact br_t (by decide) (hp ln lh ls (ls_d0 h1) (ls_d0 h2) (ls_d0 h3))
    | succ k ih =>
      intro ln lh ls hk h1 h2 h3
      have ek : nI (k + 1) - 1 = nI k := nI_pred k
      have em : nI k + (-1) = nI k - 1 := by grind
      rw [ek]
      refine br_f (nI_pos (by omega)) ⟨vp_in_nI (by omega) (by decide), ?_⟩
      rw [nI_clamp (by omega), hA k (by omega)]
      refine bo_br (fun z => nm_r em (ih ln lh ls (by omega) (ls_dskip h1 (by rw [z]; rfl)) (ls_dskip h2 (by rw [z]; rfl)) (ls_dskip h3 (by rw [z]; rfl)))) (fun z => ?_)
      have hc : k % 16 < 2 ^ S := me_c K ((hR k (by omega)).mp z)
      obtain ⟨d1, d2, d3⟩ := dr_F A hc
      refine xw_enabledSignals K (by omega) (fun E hE => ?_)
      unfold wpX_codeOf
      try dsimp only
      rw [iv_rem (by omega), nI_clamp (n := k % 16) (by omega), d2]
      refine ⟨by decide, vp_in_nI (by omega) (by decide), nm_e ?_⟩
      have h85 : ∀ ln' lh' : Int32, ls_d (fun s => R2 s && sh_n S T (gt_D im tb aco) sg pe s) k ln' → ls_d (fun s => R2 s && sh_h S T im.testBit (gt_D im tb aco) sg dr pe po s) k lh' →
          wX_noteFailures_85 post (wX_noteFailures_19 post (nI S) (nI (2 ^ P)) (nI (2 ^ S)) (nI (3 ^ S)) (nI T) (nI im) (nI s0) vd us ic rc pc mc (cu_ar S) (fun j => nI (sg j)) (fun j => nI (dr j)) (fun j => nI (pe j)) (fun j => nI (po j)) tb ar asn aa ao apt act acu aco aq apc af ad am 65536 (k + 1)) (nI k) (nI E) (nI (dr_m ad (k % 16))) lh' (nI S) (nI (2 ^ P)) (nI (2 ^ S)) (nI (3 ^ S)) (nI T) (nI im) (nI s0) vd us ic rc pc mc ln' lh ls (cu_ar S) (fun j => nI (sg j)) (fun j => nI (dr j)) (fun j => nI (pe j)) (fun j => nI (po j)) tb ar asn aa ao apt act acu aco aq apc af ad am 65536 := by
        intro ln' lh' y1 y2
        unfold wX_noteFailures_85
        refine xw_showsStall K A hc hE (bo_br (fun w => nm_r em (ih ln' lh' ls (by omega) y1 y2 (ls_dskip h3 (by rw [w, Bool.and_false])))) (fun w => nm_r em (ih ln' lh' (nI k) (by omega) y1 y2 (ls_dtake (by omega) (by rw [z, w]; rfl)))))
      have h65 : ∀ ln' : Int32, ls_d (fun s => R2 s && sh_n S T (gt_D im tb aco) sg pe s) k ln' →
          wX_noteFailures_65 post (wX_noteFailures_19 post (nI S) (nI (2 ^ P)) (nI (2 ^ S)) (nI (3 ^ S)) (nI T) (nI im) (nI s0) vd us ic rc pc mc (cu_ar S) (fun j => nI (sg j)) (fun j => nI (dr j)) (fun j => nI (pe j)) (fun j => nI (po j)) tb ar asn aa ao apt act acu aco aq apc af ad am 65536 (k + 1)) (nI k) (nI E) (nI (dr_m ad (k % 16))) ln' (nI S) (nI (2 ^ P)) (nI (2 ^ S)) (nI (3 ^ S)) (nI T) (nI im) (nI s0) vd us ic rc pc mc ln lh ls (cu_ar S) (fun j => nI (sg j)) (fun j => nI (dr j)) (fun j => nI (pe j)) (fun j => nI (po j)) tb ar asn aa ao apt act acu aco aq apc af ad am 65536 := by
        intro ln' y1
        unfold wX_noteFailures_65
        refine xw_showsHazard K A (by omega) hc (bo_br (fun w => h85 ln' lh y1 (ls_dskip h2 (by rw [w, Bool.and_false]))) (fun w => h85 ln' (nI k) y1 (ls_dtake (by omega) (by rw [z, w]; rfl))))
      have hm := mk_n (S := S) (T := T) (sg := sg) (pe := pe) d3 hE
      have hle := sg_an_le (dr_m ad (k % 16)) E
      rw [sg_andn]
      by_cases w : sh_n S T (gt_D im tb aco) sg pe k = false
      · exact br_t (by rw [hm.mpr w]; rfl) (h65 ln (ls_dskip h1 (by rw [w, Bool.and_false])))
      · exact br_f (fun x => w (hm.mp ((iv_n0 (by omega)).mp x))) (h65 (nI k) (ls_dtake (by omega) (by rw [z, bo_nf w]; rfl)))
  have h0 : ∀ f, ls_d f 1024 (-1) := fun f => Or.inl ⟨rfl, fun i h1 h2 => absurd h2 (by omega)⟩
  exact ⟨1025, key 1024 (-1) (-1) (-1) (Nat.le_refl _) (h0 _) (h0 _) (h0 _)⟩
end
