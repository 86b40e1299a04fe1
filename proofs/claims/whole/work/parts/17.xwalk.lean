/-! the component's walk over the net -/
section
variable {P S T : Nat} {sg dr pe po : Nat → Nat} {im s0 : Nat} {tb : Nat → Int32}
variable {vd us ic rc pc mc ln lh ls cm cc : Int32} {ar asn aa ao apt act acu aco aq apc af ad am yr ym yn yi yp yv : Nat → Int32}
theorem xw_reach {R : Nat → Bool} (hA : rp_A ar R) {b n : Nat} (hb : b < 1024) {post : SX → Prop} (h1 : R b = true → post (xt P S T sg dr pe po im s0 tb vd us ic (nI n) pc mc ln lh ls ar asn aa ao apt act acu aco aq apc af ad am)) (hn : R b = false → n < 1024)
    (h0 : R b = false → post (xt P S T sg dr pe po im s0 tb vd us ic (nI (n + 1)) pc mc ln lh ls (upd ar b (vp_nar .boolean 1)) asn aa ao apt act acu aco (upd aq n (nI b)) apc af ad am)) : wpX_reach post (xt P S T sg dr pe po im s0 tb vd us ic (nI n) pc mc ln lh ls ar asn aa ao apt act acu aco aq apc af ad am) (nI b) := by
  have hv : vp_in (nI b) 1024 := vp_in_nI hb (by decide)
  unfold wpX_reach xt
  try dsimp only
  rw [nI_clamp (n := b) (by omega), hA b hb]
  refine ⟨hv, bo_br (fun z => ⟨hv, nm_e ⟨vp_in_nI (hn z) (by decide), ?_⟩⟩) (fun z => h1 z)⟩
  rw [nI_clamp (n := n) (by have := hn z; omega)]
  exact nm_e (nm_r (nI_1 n) (h0 z))
/-- the flags of one state -/
def fl_U (T : Nat) (pe po : Nat → Nat) (a : Nat) : Bool := ex_n (fun t => nt_en pe t (a / 16) && nt_un pe po t (a / 16)) T
def fl_I (T : Nat) (sg dr pe : Nat → Nat) (a : Nat) : Bool := ex_n (fun t => nt_en pe t (a / 16) && nt_ic sg dr t (a % 16)) T
theorem bo_fit (b : Bool) : fits .boolean (.int (nI b.toNat)) = true := by cases b <;> decide +kernel
theorem xw_leaveReached (K : nt_K P S T sg dr pe po im s0) {R : Nat → Bool} {n h a : Nat} {u i : Bool} (hA : rp_A ar R) (J : bf_J (nt_st T sg dr pe po) s0 R aq n) (C : bf_C (nt_st T sg dr pe po) R aq h) (hh : h < n) (hRa : R a = true) (ha : a < 1024) (hq : aq h = nI a) {post : SX → Prop}
    (hp : ∀ (n' : Nat) (R' : Nat → Bool) (ar' aq' : Nat → Int32), rp_A ar' R' → bf_J (nt_st T sg dr pe po) s0 R' aq' n' → bf_C (nt_st T sg dr pe po) R' aq' (h + 1) → n ≤ n' → (∀ j, j < n → aq' j = aq j) →
      post (xt P S T sg dr pe po im s0 tb vd (nI (u || fl_U T pe po a).toNat) (nI (i || fl_I T sg dr pe a).toNat) (nI n') pc mc ln lh ls ar' asn aa ao apt act acu aco aq' apc af ad am)) : wpX_leaveReached post (xt P S T sg dr pe po im s0 tb vd (nI u.toNat) (nI i.toNat) (nI n) pc mc ln lh ls ar asn aa ao apt act acu aco aq apc af ad am) (nI a) := by
  have hT := K.2.2.1
  have e1 : nI u.toNat = nI (u || ex_n (fun t => nt_en pe t (a / 16) && nt_un pe po t (a / 16)) 0).toNat := by
    show _ = nI (u || false).toNat
    rw [Bool.or_false]
  have e2 : nI i.toNat = nI (i || ex_n (fun t => nt_en pe t (a / 16) && nt_ic sg dr t (a % 16)) 0).toNat := by
    show _ = nI (i || false).toNat
    rw [Bool.or_false]
  rw [e1, e2]
  refine loop_0 (σ := Nat × (Nat → Bool) × (Nat → Int32) × (Nat → Int32)) (fun k t s => wX_leaveReached_2 post (nI a) k (nI t) (nI S) (nI (2 ^ P)) (nI (2 ^ S)) (nI (3 ^ S)) (nI T) (nI im) (nI s0) vd (nI (u || ex_n (fun t => nt_en pe t (a / 16) && nt_un pe po t (a / 16)) t).toNat) (nI (i || ex_n (fun t => nt_en pe t (a / 16) && nt_ic sg dr t (a % 16)) t).toNat) (nI s.1) pc mc ln lh ls (cu_ar S) (fun j => nI (sg j)) (fun j => nI (dr j)) (fun j => nI (pe j)) (fun j => nI (po j)) tb s.2.2.1 asn aa ao apt act acu aco s.2.2.2 apc af ad am 65536)
    (fun t s => rp_A s.2.2.1 s.2.1 ∧ bf_J (nt_st T sg dr pe po) s0 s.2.1 s.2.2.2 s.1 ∧ bf_C (nt_st T sg dr pe po) s.2.1 s.2.2.2 h ∧ s.2.1 a = true ∧ n ≤ s.1 ∧ (∀ j, j < n → s.2.2.2 j = aq j) ∧ ∀ k, k < t → nt_ok sg dr pe po k a = true → s.2.1 (nt_fr sg dr pe po k a) = true) T (n, R, ar, aq)
    ⟨hA, J, C, hRa, Nat.le_refl _, fun _ _ => rfl, fun k hk => absurd hk (Nat.not_lt_zero _)⟩ ?_ ?_
  · rintro k ⟨n', R', ar', aq'⟩ ⟨i1, i2, i3, i4, i5, i6, i7⟩
    refine br_t (nI_le (Nat.le_refl _) (by omega)) (hp n' R' ar' aq' i1 i2 ?_ i5 i6)
    intro j hj x y ex hx hst
    by_cases e : j = h
    · subst e
      have e2 : nI a = nI x := by rw [← hq, ← ex]; exact (i6 j hh).symm
      rw [nI_eq (by omega) (by omega)] at e2
      subst e2
      obtain ⟨t, ht, hok, ey⟩ := hst
      rw [ey]
      exact i7 t ht hok
    · exact i3 j (by omega) x y ex hx hst
  · rintro k t ⟨n', R', ar', aq'⟩ ht ⟨i1, i2, i3, i4, i5, i6, i7⟩ ih
    have i1' : rp_A ar' R' := i1
    have hno : nt_ok sg dr pe po t a = false → rp_A ar' R' ∧ bf_J (nt_st T sg dr pe po) s0 R' aq' n' ∧ bf_C (nt_st T sg dr pe po) R' aq' h ∧ R' a = true ∧ n ≤ n' ∧ (∀ j, j < n → aq' j = aq j) ∧ ∀ k, k < t + 1 → nt_ok sg dr pe po k a = true → R' (nt_fr sg dr pe po k a) = true := by
      intro z
      refine ⟨i1, i2, i3, i4, i5, i6, lt_s i7 ?_⟩
      intro y
      rw [z] at y
      exact absurd y (by simp)
    have eU : ex_n (fun t => nt_en pe t (a / 16) && nt_un pe po t (a / 16)) (t + 1) = (ex_n (fun t => nt_en pe t (a / 16) && nt_un pe po t (a / 16)) t || (nt_en pe t (a / 16) && nt_un pe po t (a / 16))) := rfl
    have eI : ex_n (fun t => nt_en pe t (a / 16) && nt_ic sg dr t (a % 16)) (t + 1) = (ex_n (fun t => nt_en pe t (a / 16) && nt_ic sg dr t (a % 16)) t || (nt_en pe t (a / 16) && nt_ic sg dr t (a % 16))) := rfl
    refine br_f (nI_ge ht (by omega)) (xw_isEnabled K ht ha (bo_br (fun z => nm_r (nI_1 t) ?_) (fun z => xw_isUnsafe K ht ha (xw_isInconsistent K ht ha (nm_r (bo_or _ _) ⟨bo_nar _, bo_fit _, nm_r (bo_or _ _) ⟨bo_nar _, bo_fit _, ?_⟩⟩)))))
    · have hx := ih (n', R', ar', aq') (hno (by unfold nt_ok; rw [z]; rfl))
      try dsimp only at hx
      rw [eU, eI, z, Bool.false_and, Bool.false_and, Bool.or_false, Bool.or_false] at hx
      exact hx
    · have hx : ∀ s, _ → _ := ih
      try dsimp only at hx
      rw [eU, eI, z, Bool.true_and, Bool.true_and, ← Bool.or_assoc, ← Bool.or_assoc] at hx
      refine bo_br (fun z2 => bo_br (fun z3 => xw_fire K ht ha ?_) (fun z3 => nm_r (nI_1 t) ?_)) (fun z2 => nm_r (nI_1 t) ?_)
      · have hb : nt_fr sg dr pe po t a < 1024 := nt_fr_lt K.2.1.2 K.2.2.2.1 t ha
        have hok : nt_ok sg dr pe po t a = true := by unfold nt_ok; rw [z, z2, z3]; rfl
        have hst : nt_st T sg dr pe po a (nt_fr sg dr pe po t a) := ⟨t, ht, hok, rfl⟩
        refine xw_reach i1' hb (fun z4 => nm_r (nI_1 t) ?_) (fun z4 => bf_new i2 hb z4) (fun z4 => nm_r (nI_1 t) ?_)
        · exact hx (n', R', ar', aq') ⟨i1, i2, i3, i4, i5, i6, lt_s i7 (fun _ => z4)⟩
        · have i5' : n ≤ n' := i5
          refine hx (n' + 1, ct_u R' (nt_fr sg dr pe po t a), upd ar' (nt_fr sg dr pe po t a) (vp_nar .boolean 1), upd aq' n' (nI (nt_fr sg dr pe po t a))) ⟨rp_u i1' _, bf_add i2 i4 hst hb z4, bf_Cadd i3 (by dsimp only at i5; omega), ct_uo _ _ _ i4, by dsimp only at i5 ⊢; omega, fun j hj => ?_, lt_s (fun k hk y => ct_uo _ _ _ (i7 k hk y)) (fun _ => ct_us _ _)⟩
          show upd aq' n' (nI (nt_fr sg dr pe po t a)) j = aq j
          rw [pk_un (by omega)]
          exact i6 j hj
      · exact hx (n', R', ar', aq') (hno (by unfold nt_ok; rw [z3]; simp))
      · exact hx (n', R', ar', aq') (hno (by unfold nt_ok; rw [z2]; simp))
theorem xw_walkNet (K : nt_K P S T sg dr pe po im s0) {post : SX → Prop}
    (hp : ∀ (R : Nat → Bool) (ar' aq' : Nat → Int32), rp_A ar' R → rc_is (nt_st T sg dr pe po) s0 R → post (xt P S T sg dr pe po im s0 tb vd (nI (nt_U T pe po R).toNat) (nI (nt_I T sg dr pe R).toNat) (nI (ct_n R 1024)) pc mc ln lh ls ar' asn aa ao apt act acu aco aq' apc af ad am)) : wpX_walkNet post (xt P S T sg dr pe po im s0 tb vd us ic rc pc mc ln lh ls ar asn aa ao apt act acu aco aq apc af ad am) := by
  have hs0 := K.2.2.2.2.2.1
  have hb := nt_st_lt (T := T) K.2.1.2 K.2.2.2.1
  refine loop_0 (σ := Nat → Int32) (fun n i q => wX_walkNet_2 post (nI S) (nI (2 ^ P)) (nI (2 ^ S)) (nI (3 ^ S)) (nI T) (nI im) (nI s0) vd us ic rc pc mc ln lh ls 65536 n (nI i) (cu_ar S) (fun j => nI (sg j)) (fun j => nI (dr j)) (fun j => nI (pe j)) (fun j => nI (po j)) tb q asn aa ao apt act acu aco aq apc af ad am) (fun i q => ∀ k, k < i → q k = 0) 1024 ar (fun k hk => absurd hk (Nat.not_lt_zero _)) ?_ ?_
  · intro n q hq
    refine br_t (nI_le (Nat.le_refl 1024) (by decide)) ?_
    refine xw_reach (R := fun _ => false) (n := 0) (fun s hs => hq s hs) hs0 (fun z => absurd z (by simp)) (fun _ => by decide) (fun _ => ?_)
    refine loop_0 (σ := Bool × Bool × Nat × (Nat → Bool) × (Nat → Int32) × (Nat → Int32)) (fun n h s => wX_walkNet_47 post n (nI h) (nI S) (nI (2 ^ P)) (nI (2 ^ S)) (nI (3 ^ S)) (nI T) (nI im) (nI s0) vd (nI s.1.toNat) (nI s.2.1.toNat) (nI s.2.2.1) pc mc ln lh ls (cu_ar S) (fun j => nI (sg j)) (fun j => nI (dr j)) (fun j => nI (pe j)) (fun j => nI (po j)) tb s.2.2.2.2.1 asn aa ao apt act acu aco s.2.2.2.2.2 apc af ad am 65536)
      (fun h s => rp_A s.2.2.2.2.1 s.2.2.2.1 ∧ bf_J (nt_st T sg dr pe po) s0 s.2.2.2.1 s.2.2.2.2.2 s.2.2.1 ∧ bf_C (nt_st T sg dr pe po) s.2.2.2.1 s.2.2.2.2.2 h ∧ h ≤ s.2.2.1 ∧ qu_x (fl_U T pe po) s.2.2.2.2.2 h s.1 ∧ qu_x (fl_I T sg dr pe) s.2.2.2.2.2 h s.2.1) 1024 (false, false, 1, ct_u (fun _ => false) s0, _, _)
      ⟨rp_u (fun s hs => hq s hs) s0, bf_0 _ hs0, fun j hj => absurd hj (Nat.not_lt_zero _), Nat.zero_le _, qu_0 _ _, qu_0 _ _⟩ ?_ ?_
    · rintro n ⟨u, i, c, R, ar', aq'⟩ ⟨i1, i2, i3, i4, i5, i6⟩
      have hc : 1024 = c := by have := bf_le i2; dsimp only at i4 this; omega
      have := hp R ar' aq' i1 (bf_end i2 i3 (by (try dsimp only); omega) hb)
      rw [nt_Ux, nt_Ix, ← i2.1] at this
      have e1 := qu_end i2 i5 hc
      have e2 := qu_end i2 i6 hc
      unfold fl_U at e1
      unfold fl_I at e2
      rw [← e1, ← e2] at this
      exact br_t (nI_le (Nat.le_refl 1024) (by decide)) this
    · rintro n h ⟨u, i, c, R, ar', aq'⟩ hh ⟨i1, i2, i3, i4, i5, i6⟩ ih
      have hc1 : c ≤ 1024 := bf_le i2
      refine br_f (nI_ge hh (by decide)) ?_
      by_cases hc : c ≤ h
      · have hc2 : h = c := by dsimp only at i4; omega
        have := hp R ar' aq' i1 (bf_end i2 i3 hc hb)
        rw [nt_Ux, nt_Ix, ← i2.1] at this
        have e1 := qu_end i2 i5 hc2
        have e2 := qu_end i2 i6 hc2
        unfold fl_U at e1
        unfold fl_I at e2
        rw [← e1, ← e2] at this
        exact br_t (nI_le hc (by omega)) this
      · obtain ⟨a, hRa, hqa⟩ := i2.2.2.2.2 h (by (try dsimp only); omega)
        have ha := (i2.2.2.1 a hRa).2
        refine br_f (nI_ge (a := h) (b := c) (by omega) (by omega)) ⟨vp_in_nI hh (by decide), ?_⟩
        try dsimp only
        rw [nI_clamp (by omega), show aq' h = nI a from hqa]
        refine xw_leaveReached K i1 i2 i3 (by (try dsimp only); omega) hRa ha hqa (fun n' R' ar2 aq2 j1 j2 j3 j4 j5 => ?_)
        exact nm_r (nI_1 h) (ih (_, _, n', R', ar2, aq2) ⟨j1, j2, j3, by dsimp only at j4 ⊢; omega, qu_s i5 (by (try dsimp only); omega) ha hqa j5, qu_s i6 (by (try dsimp only); omega) ha hqa j5⟩)
  · intro n i q hi hq ih
    refine br_f (nI_ge hi (by decide)) ⟨vp_in_nI hi (by decide), ?_⟩
    rw [nI_clamp (by omega)]
    exact nm_e (nm_r (nI_1 i) (ih _ (yw_clear q i hq)))
theorem xw_noteExcitement (K : nt_K P S T sg dr pe po im s0) {R : Nat → Bool} (hA : rp_A ar R) {post : SX → Prop} (hp : ∀ (asn' aa' ao' : Nat → Int32), xe_A T sg dr pe po R 1024 asn' aa' ao' → post (xt P S T sg dr pe po im s0 tb vd us ic rc pc mc ln lh ls ar asn' aa' ao' apt act acu aco aq apc af ad am)) : wpX_noteExcitement post (xt P S T sg dr pe po im s0 tb vd us ic rc pc mc ln lh ls ar asn aa ao apt act acu aco aq apc af ad am) := by
  refine loop_0 (σ := (Nat → Int32) × (Nat → Int32) × (Nat → Int32)) (fun n i s => wX_noteExcitement_2 post (nI S) (nI (2 ^ P)) (nI (2 ^ S)) (nI (3 ^ S)) (nI T) (nI im) (nI s0) vd us ic rc pc mc ln lh ls 65536 n (nI i) (cu_ar S) (fun j => nI (sg j)) (fun j => nI (dr j)) (fun j => nI (pe j)) (fun j => nI (po j)) tb ar s.1 s.2.1 s.2.2 apt act acu aco aq apc af ad am) (fun i s => ∀ k, k < i → s.1 k = 0 ∧ s.2.1 k = -1 ∧ s.2.2 k = 0) 16 (asn, aa, ao) (fun k hk => absurd hk (Nat.not_lt_zero _)) ?_ ?_
  · rintro n ⟨s1, s2, s3⟩ hI
    refine br_t (nI_le (Nat.le_refl 16) (by decide)) ?_
    refine loop_0 (σ := (Nat → Int32) × (Nat → Int32) × (Nat → Int32)) (fun n j s => wX_noteExcitement_37 post (nI S) (nI (2 ^ P)) (nI (2 ^ S)) (nI (3 ^ S)) (nI T) (nI im) (nI s0) vd us ic rc pc mc ln lh ls 65536 n (nI j) (cu_ar S) (fun j => nI (sg j)) (fun j => nI (dr j)) (fun j => nI (pe j)) (fun j => nI (po j)) tb ar s.1 s.2.1 s.2.2 apt act acu aco aq apc af ad am) (fun j s => xe_A T sg dr pe po R j s.1 s.2.1 s.2.2) 1024 (s1, s2, s3) (xe_0 T sg dr pe po R hI) ?_ ?_
    · rintro n ⟨s1, s2, s3⟩ hI
      exact br_t (nI_le (Nat.le_refl 1024) (by decide)) (hp s1 s2 s3 hI)
    · rintro n j ⟨s1, s2, s3⟩ hj hI ih
      have hv : vp_in (nI (j % 16)) 16 := vp_in_nI (by omega) (by decide)
      refine br_f (nI_ge hj (by decide)) ⟨vp_in_nI hj (by decide), ?_⟩
      try dsimp only
      rw [nI_clamp (by omega), hA j hj]
      refine bo_br (fun z => nm_r (nI_1 j) (ih (s1, s2, s3) (xe_skip hI z))) (fun z => ⟨by decide, ?_⟩)
      rw [iv_rem hj]
      refine xw_excitedSignals K hj (fun M hM => ?_)
      have hx := ih (_, _, _) (xe_put hI z hM)
      have e1 : vp_nar .boolean 1 = 1 := bo_vn true
      dsimp only at hx ⊢
      rw [nI_clamp (by omega), e1]
      exact ⟨hv, nm_e ⟨hv, hv, nm_e ⟨hv, hv, nm_e (nm_r (nI_1 j) hx)⟩⟩⟩
  · rintro n i ⟨s1, s2, s3⟩ hi hI ih
    have hv : vp_in (nI i) 16 := vp_in_nI hi (by decide)
    have hI' : ∀ k, k < i → s1 k = 0 ∧ s2 k = -1 ∧ s3 k = 0 := hI
    refine br_f (nI_ge hi (by decide)) ?_
    rw [nI_clamp (by omega)]
    refine ⟨hv, nm_e ⟨hv, nm_e ⟨hv, nm_e (nm_r (nI_1 i) (ih (upd s1 i (vp_nar .boolean 0), upd s2 i (-1), upd s3 i 0) ?_))⟩⟩⟩
    intro k hk
    by_cases e : k = i
    · subst e
      try dsimp only
      rw [pk_us, pk_us, pk_us]
      exact ⟨bo_vn false, rfl, rfl⟩
    · dsimp only
      rw [pk_un e, pk_un e, pk_un e]
      exact hI' k (by omega)
end
