/-! the reference's circuit against the net -/
section
variable {P S T : Nat} {sg dr pe po : Nat → Nat} {im s0 : Nat} {tb : Nat → Int32}
variable {vd us ic rc pc mc ln lh ls cm cc : Int32} {ar asn aa ao apt act acu aco aq apc af ad am yr ym yn yi yp yv : Nat → Int32}
/-- a gate's value; is output i driven at code c -/
def gt_G (tb aco : Nat → Int32) (i c : Nat) : Bool := bt (if tb i = -1 then aco i else tb i) c
def gt_D (im : Nat) (tb aco : Nat → Int32) (i c : Nat) : Bool := !(im.testBit i) && !(gt_G tb aco i c == c.testBit i)
def gt_T (tb : Nat → Int32) : Prop := ∀ i, i < 4 → tb i = -1 ∨ ∃ n, n < 65536 ∧ tb i = nI n
/-- the reference's values of the gates -/
def gt_V (S im : Nat) (tb aco yv : Nat → Int32) (k : Nat) : Prop := ∀ i, i < k → im.testBit i = false → ∀ c, c < 2 ^ S → yv (16 * i + c) = nI (gt_G tb aco i c).toNat
theorem yw_fillGate (K : nt_K P S T sg dr pe po im s0) {R : Nat → Bool} (hR : rp_A yr R) (hT : gt_T tb) {i : Nat} (hi : i < S) (hx : xc_A S (nt_v T sg dr pe po R i) i apt act acu aco) {post : SY → Prop}
    (h : ∀ (pc' cm' cc' : Int32) (yn' yi' yp' yv' : Nat → Int32), (∀ c, c < 2 ^ S → yv' (16 * i + c) = nI (gt_G tb aco i c).toNat) → (∀ x, (x < 16 * i ∨ 16 * i + 16 ≤ x) → yv' x = yv x) → post (yt P S T sg dr pe po im s0 tb vd pc' cm' cc' yr ym yn' yi' yp' yv')) : wpY_fillGate post (yt P S T sg dr pe po im s0 tb vd pc cm cc yr ym yn yi yp yv) (nI i) := by
  have hS := K.2.1
  have h16 := nt_pS hS.2
  obtain ⟨x1, n0, M0, Cc, x2, x3, x4, x5, x6, x7, x8⟩ := hx
  refine yw_findCover K hR (by omega) (fun n M yn' yi' yp' hB hA => ?_)
  obtain ⟨_, eM⟩ := nu_Bu x2 hB
  subst eM
  refine loop_0 (σ := Nat → Int32) (fun f c a => wY_fillGate_7 post (nI i) (nI P) (nI S) (nI (s0 / 16)) (nI (s0 % 16)) (nI T) vd (nI (pq_n S (nt_v T sg dr pe po R i))) (nI M0) (nI n) f (nI c) (fun j => nI (sg j)) (fun j => nI (dr j)) (fun j => nI (pe j)) (fun j => nI (po j)) (fun j => nI (im.testBit j).toNat) tb yr ym yn' yi' yp' a) (fun c a => (∀ d, d < c → a (16 * i + d) = nI (gt_G tb aco i d).toNat) ∧ ∀ x, (x < 16 * i ∨ 16 * i + 16 ≤ x) → a x = yv x) (2 ^ S) yv ⟨fun j hj => absurd hj (Nat.not_lt_zero _), fun _ _ => rfl⟩ ?_ ?_
  · rintro f a ⟨i1, i2⟩
    exact br_t (by rw [sg_s1 (by omega)]; exact nI_le (Nat.le_refl _) (by omega)) (h _ _ _ _ _ _ a i1 i2)
  · rintro f c a hc ⟨i1, i2⟩ ih
    have hput : ∀ y : Int32, y = nI (gt_G tb aco i c).toNat → wY_fillGate_7 post (nI i) (nI P) (nI S) (nI (s0 / 16)) (nI (s0 % 16)) (nI T) vd (nI (pq_n S (nt_v T sg dr pe po R i))) (nI M0) (nI n) f (nI (c + 1)) (fun j => nI (sg j)) (fun j => nI (dr j)) (fun j => nI (pe j)) (fun j => nI (po j)) (fun j => nI (im.testBit j).toNat) tb yr ym yn' yi' yp' (upd a (16 * i + c) y) := by
      intro y hy
      refine ih _ ⟨fun d hd => ?_, fun x hx => ?_⟩
      · by_cases e : d = c
        · subst e; rw [pk_us]; exact hy
        · rw [pk_un (by omega)]; exact i1 d (by omega)
      · rw [pk_un (by omega)]; exact i2 x hx
    have hv : vp_in (nI i) 4 := vp_in_nI (by omega) (by decide)
    have hv2 : vp_in (nI (16 * i + c)) 64 := vp_in_nI (by omega) (by decide)
    refine br_f (by rw [sg_s1 (by omega)]; exact nI_ge hc (by omega)) ⟨hv, ?_⟩
    rw [nI_clamp (n := i) (by omega), iv_16', nI_clamp (n := 16 * i + c) (by omega)]
    rcases hT i (by omega) with e | ⟨m, hm, e⟩
    · have eG : gt_G tb aco i c = pq_sc S (nt_v T sg dr pe po R i) (nu_in (pq_n S (nt_v T sg dr pe po R i)) M0) c := by
        unfold gt_G
        rw [if_pos e, x7, sg_bt _ (by omega), x8 c, decide_eq_true hc, Bool.true_and]
      refine br_t (by rw [e]; decide) (yw_setCovers K hA (bo_br (fun z => ⟨hv2, nm_e (nm_r (nI_1 c) (hput _ ?_))⟩) (fun z => ⟨hv2, nm_e (nm_r (nI_1 c) (hput _ ?_))⟩)))
      · rw [eG, z]; rfl
      · rw [eG, z]; rfl
    · have hne : ¬ tb i = -1 := by
        intro z
        rw [e] at z
        have h3 := congrArg Int32.toInt z
        rw [nI_toInt (by omega)] at h3
        have h4 : (-1 : Int32).toInt = -1 := by decide
        omega
      refine br_f (by rw [e]; exact nI_pos (by omega)) ⟨hv, hv2, nm_e (nm_r (nI_1 c) (hput _ ?_))⟩
      unfold gt_G
      rw [if_neg hne, sg_bit (tb i) (by omega)]
theorem yw_driven (K : nt_K P S T sg dr pe po im s0) (hV : gt_V S im tb aco yv S) {i c : Nat} (hi : i < S) (hc : c < 2 ^ S) {post : Int32 → Prop} (h : post (nI (gt_D im tb aco i c).toNat)) : wpY_driven post (yt P S T sg dr pe po im s0 tb vd pc cm cc yr ym yn yi yp yv) (nI i) (nI c) := by
  have hS := K.2.1
  have h16 := nt_pS hS.2
  unfold wpY_driven yt
  try dsimp only
  rw [nI_clamp (n := i) (by omega), iv_16', nI_clamp (n := 16 * i + c) (by omega), sg_bitN c (by omega)]
  unfold gt_D at h
  refine ⟨vp_in_nI (by omega) (by decide), bo_br (fun z => ⟨vp_in_nI (by omega) (by decide), ?_⟩) (fun z => ?_)⟩
  · rw [hV i hi z c hc]
    refine bo_if0 (b := !(gt_G tb aco i c == c.testBit i)) ?_ ?_
    · rw [sg_te, Bool.not_eq_false', beq_iff_eq]
    · rw [z, Bool.not_false, Bool.true_and] at h
      exact h
  · rw [z] at h
    exact h
theorem yw_isStep (K : nt_K P S T sg dr pe po im s0) (hV : gt_V S im tb aco yv S) {t s : Nat} (ht : t < T) (hs : s < 1024) (hc : s % 16 < 2 ^ S) {post : Int32 → Prop} (h : post (nI (me_ok im.testBit (gt_D im tb aco) sg pe t s).toNat)) : wpY_isStep post (yt P S T sg dr pe po im s0 tb vd pc cm cc yr ym yn yi yp yv) (nI t) (nI (s / 16)) (nI (s % 16)) := by
  have hS := K.2.1
  have hT := K.2.2.1
  have hB := K.2.2.2.1 t
  unfold me_ok at h
  have hv : vp_in (nI t) 12 := vp_in_nI (by omega) (by decide)
  unfold wpY_isStep yt
  dsimp only
  refine yw_enabled K ht (by omega) (bo_br (fun z => ?_) (fun z => ⟨hv, ?_⟩))
  · rw [z] at h
    exact h
  · rw [z, Bool.true_and] at h
    try dsimp only
    rw [nI_clamp (n := t) (by omega), nI_clamp (n := sg t) (by omega)]
    refine ⟨vp_in_nI (by omega) (by decide), bo_br (fun z2 => ⟨hv, yw_driven K hV hB.1 hc ?_⟩) (fun z2 => ?_)⟩
    · rw [z2, Bool.false_or] at h
      refine bo_br (fun z3 => ?_) (fun z3 => ?_)
      · rw [z3] at h; exact h
      · rw [z3] at h; exact h
    · rw [z2] at h
      exact h
theorem me_c {inp : Nat → Bool} {dv : Nat → Nat → Bool} (K : nt_K P S T sg dr pe po im s0) {s : Nat} (h : rc_R (me_st T inp dv sg dr pe po) s0 s) : s % 16 < 2 ^ S := by
  refine h (fun x => x % 16 < 2 ^ S) K.2.2.2.2.2.2 ?_
  rintro a b ha ⟨t, _, _, e⟩
  rw [e]
  exact nt_fr_c K.2.1.2 K.2.2.2.1 t ha
theorem yw_sweepMet (K : nt_K P S T sg dr pe po im s0) (hV : gt_V S im tb aco yv S) {R0 : Nat → Bool} (hR : rp_A ym R0) (h1 : R0 s0 = true) (h2 : ∀ s, s < 1024 → R0 s = true → rc_R (me_st T im.testBit (gt_D im tb aco) sg dr pe po) s0 s) {post : Int32 → SY → Prop}
    (h : ∀ (g : Bool) (R : Nat → Bool) (ym' : Nat → Int32), rp_A ym' R → sw_I (me_st T im.testBit (gt_D im tb aco) sg dr pe po) s0 R0 R g (me_st T im.testBit (gt_D im tb aco) sg dr pe po) → post (nI g.toNat) (yt P S T sg dr pe po im s0 tb vd pc cm cc yr ym' yn yi yp yv)) : wpY_sweepMet post (yt P S T sg dr pe po im s0 tb vd pc cm cc yr ym yn yi yp yv) := by
  have hT := K.2.2.1
  refine loop_0 (σ := Bool × (Nat → Bool) × (Nat → Int32)) (fun n i s => wY_sweepMet_4 post (nI P) (nI S) (nI (s0 / 16)) (nI (s0 % 16)) (nI T) vd pc cm cc n (nI s.1.toNat) (nI i) (fun j => nI (sg j)) (fun j => nI (dr j)) (fun j => nI (pe j)) (fun j => nI (po j)) (fun j => nI (im.testBit j).toNat) tb yr s.2.2 yn yi yp yv)
    (fun i s => rp_A s.2.2 s.2.1 ∧ sw_I (me_st T im.testBit (gt_D im tb aco) sg dr pe po) s0 R0 s.2.1 s.1 (sw_D (me_st T im.testBit (gt_D im tb aco) sg dr pe po) (me_ok im.testBit (gt_D im tb aco) sg pe) (nt_fr sg dr pe po) i 0)) 1024 (false, R0, ym) ⟨hR, sw_skip (sw_0 h1 h2) ?_⟩ ?_ ?_
  · rintro x y _ _ (⟨z, _⟩ | ⟨_, k, hk, _⟩)
    · exact absurd z (Nat.not_lt_zero _)
    · exact absurd hk (Nat.not_lt_zero _)
  · rintro n ⟨g, R, ym'⟩ ⟨hA, hI⟩
    exact br_t (nI_le (Nat.le_refl 1024) (by decide)) ⟨bo_nar g, h g R ym' hA (sw_skip hI (fun x y hx _ z => Or.inl ⟨hx, z⟩))⟩
  · rintro n i ⟨g, R, ym'⟩ hi ⟨hA, hI⟩ ih
    refine br_f (nI_ge hi (by decide)) ?_
    refine loop_0 (σ := Bool × (Nat → Bool) × (Nat → Int32)) (fun n' t s => wY_sweepMet_13 post (wY_sweepMet_4 post (nI P) (nI S) (nI (s0 / 16)) (nI (s0 % 16)) (nI T) vd pc cm cc n) (nI i) (nI P) (nI S) (nI (s0 / 16)) (nI (s0 % 16)) (nI T) vd pc cm cc n' (nI s.1.toNat) (nI t) (fun j => nI (sg j)) (fun j => nI (dr j)) (fun j => nI (pe j)) (fun j => nI (po j)) (fun j => nI (im.testBit j).toNat) tb yr s.2.2 yn yi yp yv)
      (fun t s => rp_A s.2.2 s.2.1 ∧ sw_I (me_st T im.testBit (gt_D im tb aco) sg dr pe po) s0 R0 s.2.1 s.1 (sw_D (me_st T im.testBit (gt_D im tb aco) sg dr pe po) (me_ok im.testBit (gt_D im tb aco) sg pe) (nt_fr sg dr pe po) i t)) T (g, R, ym') ⟨hA, hI⟩ ?_ ?_
    · rintro n' ⟨g, R, ym'⟩ ⟨hA, hI⟩
      refine br_t (nI_le (Nat.le_refl _) (by omega)) (nm_r (nI_1 i) (ih (g, R, ym') ⟨hA, sw_skip hI ?_⟩))
      rintro x y _ _ (⟨z, y1⟩ | ⟨_, k, hk, _⟩)
      · by_cases e : x = i
        · subst e
          obtain ⟨k, a, b, c⟩ := y1
          exact Or.inr ⟨rfl, k, a, b, c⟩
        · exact Or.inl ⟨by omega, y1⟩
      · exact absurd hk (Nat.not_lt_zero _)
    · rintro n' t ⟨g, R, ym'⟩ ht ⟨hA, hI⟩ ih'
      have hA' : rp_A ym' R := hA
      have hno : (R i = false ∨ me_ok im.testBit (gt_D im tb aco) sg pe t i = false) → wY_sweepMet_13 post (wY_sweepMet_4 post (nI P) (nI S) (nI (s0 / 16)) (nI (s0 % 16)) (nI T) vd pc cm cc n) (nI i) (nI P) (nI S) (nI (s0 / 16)) (nI (s0 % 16)) (nI T) vd pc cm cc n' (nI g.toNat) (nI (t + 1)) (fun j => nI (sg j)) (fun j => nI (dr j)) (fun j => nI (pe j)) (fun j => nI (po j)) (fun j => nI (im.testBit j).toNat) tb yr ym' yn yi yp yv := fun z => ih' (g, R, ym') ⟨hA, sw_skip hI (sw_Dno z)⟩
      refine br_f (nI_ge ht (by omega)) ⟨vp_in_nI hi (by decide), ?_⟩
      try dsimp only
      rw [nI_clamp (by omega), hA' i hi, iv_rem hi, iv_div hi]
      refine bo_br (fun z1 => nm_r (nI_1 t) (hno (Or.inl z1))) (fun z1 => ⟨by decide, by decide, yw_isStep K hV ht hi (me_c K (hI.2.1 i hi z1)) (bo_br (fun z2 => nm_r (nI_1 t) (hno (Or.inr z2))) (fun z2 => ⟨by decide, by decide, yw_cellAfterS K ht ?_⟩))⟩)
      have hb : nt_fr sg dr pe po t i < 1024 := nt_fr_lt K.2.1.2 K.2.2.2.1 t hi
      have hst : me_st T im.testBit (gt_D im tb aco) sg dr pe po i (nt_fr sg dr pe po t i) := ⟨t, ht, z2, rfl⟩
      have hstep : sw_I (me_st T im.testBit (gt_D im tb aco) sg dr pe po) s0 R0 (ct_u R (nt_fr sg dr pe po t i)) (g || !(R (nt_fr sg dr pe po t i))) (sw_D (me_st T im.testBit (gt_D im tb aco) sg dr pe po) (me_ok im.testBit (gt_D im tb aco) sg pe) (nt_fr sg dr pe po) i (t + 1)) := sw_step hI hi z1 hst hb sw_Dyes
      have hrep := rp_u hA' (nt_fr sg dr pe po t i)
      refine ⟨vp_in_nI hb (by decide), ?_⟩
      rw [nI_clamp (n := nt_fr sg dr pe po t i) (by omega), hA' _ hb]
      refine bo_br (fun z5 => ⟨vp_in_nI hb (by decide), nm_e (nm_r (nI_1 t) ?_)⟩) (fun z5 => ⟨vp_in_nI hb (by decide), nm_e (nm_r (nI_1 t) ?_)⟩)
      · rw [z5, Bool.not_false, Bool.or_true] at hstep
        exact ih' (true, _, _) ⟨hrep, hstep⟩
      · rw [z5, Bool.not_true, Bool.or_false] at hstep
        exact ih' (g, _, _) ⟨hrep, hstep⟩
theorem yw_findMet (K : nt_K P S T sg dr pe po im s0) {R : Nat → Bool} (hR : rp_A yr R) (hT : gt_T tb) (hx : ∀ i, i < S → im.testBit i = false → xc_A S (nt_v T sg dr pe po R i) i apt act acu aco) {post : SY → Prop}
    (h : ∀ (pc' cm' cc' : Int32) (yn' yi' yp' yv' ym' : Nat → Int32) (R2 : Nat → Bool), gt_V S im tb aco yv' S → rp_A ym' R2 → rc_is (me_st T im.testBit (gt_D im tb aco) sg dr pe po) s0 R2 → post (yt P S T sg dr pe po im s0 tb vd pc' cm' cc' yr ym' yn' yi' yp' yv')) : wpY_findMet post (yt P S T sg dr pe po im s0 tb vd pc cm cc yr ym yn yi yp yv) := by
  have hS := K.2.1
  have h16 := nt_pS hS.2
  have hs0 := K.2.2.2.2.2.1
  have hb := me_st_lt (T := T) (inp := im.testBit) (dv := gt_D im tb aco) K.2.1.2 K.2.2.2.1
  refine loop_0 (σ := Int32 × Int32 × Int32 × (Nat → Int32) × (Nat → Int32) × (Nat → Int32) × (Nat → Int32)) (fun n i s => wY_findMet_2 post n (nI i) (nI P) (nI S) (nI (s0 / 16)) (nI (s0 % 16)) (nI T) vd s.1 s.2.1 s.2.2.1 (fun j => nI (sg j)) (fun j => nI (dr j)) (fun j => nI (pe j)) (fun j => nI (po j)) (fun j => nI (im.testBit j).toNat) tb yr ym s.2.2.2.1 s.2.2.2.2.1 s.2.2.2.2.2.1 s.2.2.2.2.2.2)
    (fun i s => gt_V S im tb aco s.2.2.2.2.2.2 i) S (pc, cm, cc, yn, yi, yp, yv) (fun j hj => absurd hj (Nat.not_lt_zero _)) ?_ ?_
  · rintro n ⟨pc', cm', cc', yn', yi', yp', yv'⟩ hI
    have hV : gt_V S im tb aco yv' S := hI
    refine br_t (nI_le (Nat.le_refl _) (by omega)) ?_
    refine loop_0 (σ := Nat → Int32) (fun n i q => wY_findMet_32 post (nI P) (nI S) (nI (s0 / 16)) (nI (s0 % 16)) (nI T) vd pc' cm' cc' n (nI i) (fun j => nI (sg j)) (fun j => nI (dr j)) (fun j => nI (pe j)) (fun j => nI (po j)) (fun j => nI (im.testBit j).toNat) tb yr q yn' yi' yp' yv') (fun i q => ∀ k, k < i → q k = 0) 1024 ym (fun k hk => absurd hk (Nat.not_lt_zero _)) ?_ ?_
    · intro n q hq
      refine br_t (nI_le (Nat.le_refl 1024) (by decide)) ?_
      rw [yw_s0, nI_clamp (by omega)]
      refine ⟨vp_in_nI hs0 (by decide), nm_e ?_⟩
      have hrep : rp_A (upd q s0 (vp_nar .boolean 1)) (ct_u (fun _ => false) s0) := rp_u (fun s hs => hq s hs) s0
      refine loop_0 (σ := Bool × (Nat → Bool) × (Nat → Int32)) (fun n k s => wY_findMet_74 post n (nI s.1.toNat) (nI k) (nI P) (nI S) (nI (s0 / 16)) (nI (s0 % 16)) (nI T) vd pc' cm' cc' (fun j => nI (sg j)) (fun j => nI (dr j)) (fun j => nI (pe j)) (fun j => nI (po j)) (fun j => nI (im.testBit j).toNat) tb yr s.2.2 yn' yi' yp' yv') (fun k s => rp_A s.2.2 s.2.1 ∧ sv_I (me_st T im.testBit (gt_D im tb aco) sg dr pe po) s0 s.2.1 s.1 k) 1024 (true, ct_u (fun _ => false) s0, _) ⟨hrep, sv_0 _ hs0⟩ ?_ ?_
      · rintro n ⟨g, R2, ym'⟩ ⟨hA, hv⟩
        exact br_t (nI_le (Nat.le_refl 1024) (by decide)) (h _ _ _ _ _ _ _ ym' R2 hV hA (sv_end hv (Or.inr (Nat.le_refl _)) hb hs0))
      · rintro n k ⟨g, R2, ym'⟩ hk ⟨hA, hv⟩ ih
        refine br_f (nI_ge hk (by decide)) ?_
        cases g
        · exact br_t rfl (h _ _ _ _ _ _ _ ym' R2 hV hA (sv_end hv (Or.inl rfl) hb hs0))
        · refine br_f (show ¬ nI true.toNat = 0 from by decide) (yw_sweepMet K hV hA hv.1 hv.2.1 (fun g3 R3 ym3 hA3 hI3 => ?_))
          exact nm_r (nI_1 k) (ih (g3, R3, ym3) ⟨hA3, sv_step hv hI3⟩)
    · intro n i q hi hq ih
      refine br_f (nI_ge hi (by decide)) ⟨vp_in_nI hi (by decide), ?_⟩
      rw [nI_clamp (by omega)]
      exact nm_e (nm_r (nI_1 i) (ih _ (yw_clear q i hq)))
  · rintro n i ⟨pc', cm', cc', yn', yi', yp', yv'⟩ hi hI ih
    refine br_f (nI_ge hi (by omega)) ⟨vp_in_nI (by omega) (by decide), ?_⟩
    try dsimp only
    rw [nI_clamp (by omega)]
    refine bo_br (fun z => yw_fillGate K hR hT hi (hx i hi z) (fun pc2 cm2 cc2 yn2 yi2 yp2 yv2 f1 f2 => nm_r (nI_1 i) (ih (pc2, cm2, cc2, yn2, yi2, yp2, yv2) (lt_s (fun j hj y c hc => ?_) (fun _ => f1))))) (fun z => nm_r (nI_1 i) (ih (pc', cm', cc', yn', yi', yp', yv') (lt_s hI (fun y => ?_))))
    · show yv2 (16 * j + c) = _
      rw [f2 _ (by omega)]
      exact hI j hj y c hc
    · rw [z] at y
      exact absurd y (by simp)
theorem yw_hasEnabled (K : nt_K P S T sg dr pe po im s0) {i m : Nat} (hi : i < 4) (hm : m < 64) {post : Int32 → Prop} (h : post (nI (nt_he T sg pe i m).toNat)) : wpY_hasEnabled post (yt P S T sg dr pe po im s0 tb vd pc cm cc yr ym yn yi yp yv) (nI i) (nI m) := by
  have hT := K.2.2.1
  refine loop_0 (σ := Unit) (fun n t _ => wY_hasEnabled_2 post (nI i) (nI m) (nI P) (nI S) (nI (s0 / 16)) (nI (s0 % 16)) (nI T) vd pc cm cc (fun j => nI (sg j)) (fun j => nI (dr j)) (fun j => nI (pe j)) (fun j => nI (po j)) (fun j => nI (im.testBit j).toNat) tb yr ym yn yi yp yv n (nI t)) (fun t _ => ∀ j, j < t → ((sg j == i) && nt_en pe j m) = false) T () (fun j hj => absurd hj (Nat.not_lt_zero _)) ?_ ?_
  · intro n _ hI
    have e : nt_he T sg pe i m = false := ex_not.mpr hI
    rw [e] at h
    exact br_t (nI_le (Nat.le_refl _) (by omega)) h
  · intro n t _ ht hI ih
    have hB := iv_bS K.2.1.2 K.2.2.2.1 t
    refine br_f (nI_ge ht (by omega)) ⟨vp_in_nI (by omega) (by decide), ?_⟩
    try dsimp only
    rw [nI_clamp (by omega)]
    by_cases hs : sg t = i
    · refine br_t (by rw [hs]) (yw_enabled K ht hm (bo_br (fun z => nm_r (nI_1 t) (ih () (lt_s hI (by rw [z, Bool.and_false])))) (fun z => ?_)))
      have e : nt_he T sg pe i m = true := ex_iff.mpr ⟨t, ht, by rw [z, hs, beq_self_eq_true]; rfl⟩
      rw [e] at h
      exact h
    · exact br_f (fun z => hs ((nI_eq (by omega) (by omega)).mp z)) (nm_r (nI_1 t) (ih () (lt_s hI (by rw [beq_eq_false_iff_ne.mpr hs]; rfl))))
theorem yw_nonconforming (K : nt_K P S T sg dr pe po im s0) (hV : gt_V S im tb aco yv S) {s : Nat} (hs : s < 1024) (hc : s % 16 < 2 ^ S) {post : Int32 → Prop} (h : post (nI (sh_n S T (gt_D im tb aco) sg pe s).toNat)) : wpY_nonconforming post (yt P S T sg dr pe po im s0 tb vd pc cm cc yr ym yn yi yp yv) (nI (s / 16)) (nI (s % 16)) := by
  have hS := K.2.1
  refine loop_0 (σ := Unit) (fun n i _ => wY_nonconforming_2 post (nI (s / 16)) (nI (s % 16)) (nI P) (nI S) (nI (s0 / 16)) (nI (s0 % 16)) (nI T) vd pc cm cc (fun j => nI (sg j)) (fun j => nI (dr j)) (fun j => nI (pe j)) (fun j => nI (po j)) (fun j => nI (im.testBit j).toNat) tb yr ym yn yi yp yv n (nI i)) (fun i _ => ∀ j, j < i → (gt_D im tb aco j (s % 16) && !(nt_he T sg pe j (s / 16))) = false) S () (fun j hj => absurd hj (Nat.not_lt_zero _)) ?_ ?_
  · intro n _ hI
    have e : sh_n S T (gt_D im tb aco) sg pe s = false := ex_not.mpr hI
    rw [e] at h
    exact br_t (nI_le (Nat.le_refl _) (by omega)) h
  · intro n i _ hi hI ih
    refine br_f (nI_ge hi (by omega)) (yw_driven K hV hi hc (bo_br (fun z => nm_r (nI_1 i) (ih () (lt_s hI (by rw [z]; rfl)))) (fun z => yw_hasEnabled K (by omega) (by omega) (bo_br (fun z2 => ?_) (fun z2 => nm_r (nI_1 i) (ih () (lt_s hI (by rw [z2]; simp))))))))
    have e : sh_n S T (gt_D im tb aco) sg pe s = true := ex_iff.mpr ⟨i, hi, by rw [z, z2]; rfl⟩
    rw [e] at h
    exact h
theorem yw_hazard (K : nt_K P S T sg dr pe po im s0) (hV : gt_V S im tb aco yv S) {s : Nat} (hs : s < 1024) (hc : s % 16 < 2 ^ S) {post : Int32 → Prop} (h : post (nI (sh_h S T im.testBit (gt_D im tb aco) sg dr pe po s).toNat)) : wpY_hazard post (yt P S T sg dr pe po im s0 tb vd pc cm cc yr ym yn yi yp yv) (nI (s / 16)) (nI (s % 16)) := by
  have hS := K.2.1
  have hT := K.2.2.1
  refine loop_0 (σ := Unit) (fun n i _ => wY_hazard_2 post (nI (s / 16)) (nI (s % 16)) (nI P) (nI S) (nI (s0 / 16)) (nI (s0 % 16)) (nI T) vd pc cm cc (fun j => nI (sg j)) (fun j => nI (dr j)) (fun j => nI (pe j)) (fun j => nI (po j)) (fun j => nI (im.testBit j).toNat) tb yr ym yn yi yp yv n (nI i)) (fun i _ => ∀ j, j < i → ex_n (fun t => gt_D im tb aco j (s % 16) && (!(sg t == j) && (me_ok im.testBit (gt_D im tb aco) sg pe t s && !(gt_D im tb aco j (nt_fr sg dr pe po t s % 16))))) T = false) S () (fun j hj => absurd hj (Nat.not_lt_zero _)) ?_ ?_
  · intro n _ hI
    have e : sh_h S T im.testBit (gt_D im tb aco) sg dr pe po s = false := ex_not.mpr hI
    rw [e] at h
    exact br_t (nI_le (Nat.le_refl _) (by omega)) h
  · intro n i _ hi hI ih
    refine br_f (nI_ge hi (by omega)) ?_
    refine loop_0 (σ := Unit) (fun n' t _ => wY_hazard_13 post (wY_hazard_2 post (nI (s / 16)) (nI (s % 16)) (nI P) (nI S) (nI (s0 / 16)) (nI (s0 % 16)) (nI T) vd pc cm cc (fun j => nI (sg j)) (fun j => nI (dr j)) (fun j => nI (pe j)) (fun j => nI (po j)) (fun j => nI (im.testBit j).toNat) tb yr ym yn yi yp yv n) (nI (s / 16)) (nI (s % 16)) (nI i) (nI P) (nI S) (nI (s0 / 16)) (nI (s0 % 16)) (nI T) vd pc cm cc (fun j => nI (sg j)) (fun j => nI (dr j)) (fun j => nI (pe j)) (fun j => nI (po j)) (fun j => nI (im.testBit j).toNat) tb yr ym yn yi yp yv n' (nI t)) (fun t _ => ∀ k, k < t → (gt_D im tb aco i (s % 16) && (!(sg k == i) && (me_ok im.testBit (gt_D im tb aco) sg pe k s && !(gt_D im tb aco i (nt_fr sg dr pe po k s % 16))))) = false) T () (fun j hj => absurd hj (Nat.not_lt_zero _)) ?_ ?_
    · intro n' _ hI'
      exact br_t (nI_le (Nat.le_refl _) (by omega)) (nm_r (nI_1 i) (ih () (lt_s hI (ex_not.mpr hI'))))
    · intro n' t _ ht hI' ih'
      have hB := iv_bS K.2.1.2 K.2.2.2.1 t
      have hfr : nt_fr sg dr pe po t s < 1024 := nt_fr_lt K.2.1.2 K.2.2.2.1 t hs
      have hfc : nt_fr sg dr pe po t s % 16 < 2 ^ S := nt_fr_c K.2.1.2 K.2.2.2.1 t hc
      refine br_f (nI_ge ht (by omega)) (yw_driven K hV hi hc (bo_br (fun z => nm_r (nI_1 t) (ih' () (lt_s hI' (by rw [z]; rfl)))) (fun z => ⟨vp_in_nI (by omega) (by decide), ?_⟩)))
      try dsimp only
      rw [nI_clamp (by omega)]
      by_cases hsi : sg t = i
      · exact br_t (by rw [hsi]) (nm_r (nI_1 t) (ih' () (lt_s hI' (by rw [hsi, beq_self_eq_true]; simp))))
      · refine br_f (fun y => hsi ((nI_eq (by omega) (by omega)).mp y)) (yw_isStep K hV ht hs hc (bo_br (fun z2 => nm_r (nI_1 t) (ih' () (lt_s hI' (by rw [z2]; simp)))) (fun z2 => yw_cellAfterS K ht ⟨by decide, nm_r (iv_rem hfr) (yw_driven K hV hi hfc (bo_br (fun z3 => ?_) (fun z3 => nm_r (nI_1 t) (ih' () (lt_s hI' (by rw [z3]; simp))))))⟩)))
        have e : sh_h S T im.testBit (gt_D im tb aco) sg dr pe po s = true := ex_iff.mpr ⟨i, hi, ex_iff.mpr ⟨t, ht, by rw [z, z2, z3, beq_eq_false_iff_ne.mpr hsi]; rfl⟩⟩
        rw [e] at h
        exact h
theorem yw_stall (K : nt_K P S T sg dr pe po im s0) (hV : gt_V S im tb aco yv S) {s : Nat} (hs : s < 1024) (hc : s % 16 < 2 ^ S) {post : Int32 → Prop} (h : post (nI (sh_s S T im.testBit (gt_D im tb aco) sg pe s).toNat)) : wpY_stall post (yt P S T sg dr pe po im s0 tb vd pc cm cc yr ym yn yi yp yv) (nI (s / 16)) (nI (s % 16)) := by
  have hS := K.2.1
  refine loop_0 (σ := Unit) (fun n i _ => wY_stall_5 post (nI (s / 16)) (nI (s % 16)) (nI P) (nI S) (nI (s0 / 16)) (nI (s0 % 16)) (nI T) vd pc cm cc (fun j => nI (sg j)) (fun j => nI (dr j)) (fun j => nI (pe j)) (fun j => nI (po j)) (fun j => nI (im.testBit j).toNat) tb yr ym yn yi yp yv n (nI (ex_n (fun i => nt_he T sg pe i (s / 16)) i).toNat) (nI i)) (fun i _ => ∀ j, j < i → (gt_D im tb aco j (s % 16) || (nt_he T sg pe j (s / 16) && im.testBit j)) = false) S () (fun j hj => absurd hj (Nat.not_lt_zero _)) ?_ ?_
  · intro n _ hI
    unfold sh_s at h
    rw [ex_not.mpr hI, Bool.not_false, Bool.true_and] at h
    exact br_t (nI_le (Nat.le_refl _) (by omega)) ⟨bo_nar _, h⟩
  · intro n i _ hi hI ih
    have hbad : (gt_D im tb aco i (s % 16) || (nt_he T sg pe i (s / 16) && im.testBit i)) = true → post 0 := by
      intro z
      unfold sh_s at h
      have e : ex_n (fun i => gt_D im tb aco i (s % 16) || (nt_he T sg pe i (s / 16) && im.testBit i)) S = true := ex_iff.mpr ⟨i, hi, z⟩
      rw [e] at h
      exact h
    refine br_f (nI_ge hi (by omega)) (yw_driven K hV hi hc (bo_br (fun z => yw_hasEnabled K (by omega) (by omega) (bo_br (fun z2 => ?_) (fun z2 => ⟨vp_in_nI (by omega) (by decide), ?_⟩))) (fun z => hbad (by rw [z]; rfl))))
    · have hx := ih () (lt_s hI (by rw [z, z2]; rfl))
      have e : ex_n (fun i => nt_he T sg pe i (s / 16)) (i + 1) = ex_n (fun i => nt_he T sg pe i (s / 16)) i := by show (_ || nt_he T sg pe i (s / 16)) = _; rw [z2, Bool.or_false]
      try dsimp only at hx
      rw [e] at hx
      exact br_t (by rw [z2]; rfl) (nm_r (nI_1 i) hx)
    · rw [nI_clamp (by omega)]
      refine bo_br (fun z3 => ?_) (fun z3 => hbad (by rw [z2, z3]; simp))
      have hx := ih () (lt_s hI (by rw [z, z2, z3]; rfl))
      have e : ex_n (fun i => nt_he T sg pe i (s / 16)) (i + 1) = true := by show (_ || nt_he T sg pe i (s / 16)) = _; rw [z2, Bool.or_true]
      try dsimp only at hx
      rw [e] at hx
      exact br_f (by rw [z2]; decide) (nm_r (nI_1 i) hx)
/-- what a state shows, by the kind -/
def sh_k (S T : Nat) (inp : Nat → Bool) (dv : Nat → Nat → Bool) (sg dr pe po : Nat → Nat) (x : Int32) (s : Nat) : Bool :=
  if x = 5 then sh_n S T dv sg pe s else if x = 6 then sh_h S T inp dv sg dr pe po s else if x = 7 then sh_s S T inp dv sg pe s else false
theorem yw_shows (K : nt_K P S T sg dr pe po im s0) (hV : gt_V S im tb aco yv S) {s : Nat} (hs : s < 1024) (hc : s % 16 < 2 ^ S) {x : Int32} {post : Int32 → Prop} (h : post (nI (sh_k S T im.testBit (gt_D im tb aco) sg dr pe po x s).toNat)) : wpY_shows post (yt P S T sg dr pe po im s0 tb vd pc cm cc yr ym yn yi yp yv) x (nI (s / 16)) (nI (s % 16)) := by
  unfold sh_k at h
  by_cases h5 : x = 5
  · rw [if_pos h5] at h
    exact br_t h5 (yw_nonconforming K hV hs hc ⟨bo_nar _, h⟩)
  · rw [if_neg h5] at h
    refine br_f h5 ?_
    by_cases h6 : x = 6
    · rw [if_pos h6] at h
      exact br_t h6 (yw_hazard K hV hs hc ⟨bo_nar _, h⟩)
    · rw [if_neg h6] at h
      refine br_f h6 ?_
      by_cases h7 : x = 7
      · rw [if_pos h7] at h
        refine br_t h7 (yw_stall K hV hs hc (bo_br (fun z => ?_) (fun z => ?_)))
        · rw [z] at h; exact h
        · rw [z] at h; exact h
      · rw [if_neg h7] at h
        exact br_f h7 h
theorem yw_firstThatShows (K : nt_K P S T sg dr pe po im s0) (hV : gt_V S im tb aco yv S) {R2 : Nat → Bool} (hA : rp_A ym R2) (hR : rc_is (me_st T im.testBit (gt_D im tb aco) sg dr pe po) s0 R2) {x : Int32} {post : Int32 → Prop}
    (h : ∀ r, ls_n (fun s => R2 s && sh_k S T im.testBit (gt_D im tb aco) sg dr pe po x s) 1024 r → post r) : wpY_firstThatShows post (yt P S T sg dr pe po im s0 tb vd pc cm cc yr ym yn yi yp yv) x := by
  refine loop_0 (σ := Unit) (fun n s _ => wY_firstThatShows_2 post x (nI P) (nI S) (nI (s0 / 16)) (nI (s0 % 16)) (nI T) vd pc cm cc (fun j => nI (sg j)) (fun j => nI (dr j)) (fun j => nI (pe j)) (fun j => nI (po j)) (fun j => nI (im.testBit j).toNat) tb yr ym yn yi yp yv n (nI s)) (fun s _ => ∀ j, j < s → (R2 j && sh_k S T im.testBit (gt_D im tb aco) sg dr pe po x j) = false) 1024 () (fun j hj => absurd hj (Nat.not_lt_zero _)) ?_ ?_
  · intro n _ hI
    exact br_t (nI_le (Nat.le_refl 1024) (by decide)) (h _ (Or.inl ⟨rfl, hI⟩))
  · intro n s _ hs hI ih
    refine br_f (nI_ge hs (by decide)) ⟨vp_in_nI hs (by decide), ?_⟩
    rw [nI_clamp (by omega), hA s hs, iv_rem hs, iv_div hs]
    refine bo_br (fun z => nm_r (nI_1 s) (ih () (lt_s hI (by rw [z]; rfl)))) (fun z => ⟨by decide, by decide, yw_shows K hV hs (me_c K ((hR s hs).mp z)) (bo_br (fun z2 => nm_r (nI_1 s) (ih () (lt_s hI (by rw [z2, Bool.and_false])))) (fun z2 => h _ (Or.inr ⟨s, hs, rfl, by show (R2 s && _) = true; rw [z, z2]; rfl, hI⟩)))⟩)
end
