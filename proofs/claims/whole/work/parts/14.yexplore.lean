/-! the reference's explore -/
section
variable {P S T : Nat} {sg dr pe po : Nat → Nat} {im s0 : Nat} {tb : Nat → Int32}
variable {vd us ic rc pc mc ln lh ls cm cc : Int32} {ar asn aa ao apt act acu aco aq apc af ad am yr ym yn yi yp yv : Nat → Int32}
/-- the array holds the set -/
def rp_A (a : Nat → Int32) (R : Nat → Bool) : Prop := ∀ s, s < 1024 → a s = nI (R s).toNat
theorem rp_u {a : Nat → Int32} {R : Nat → Bool} (h : rp_A a R) (b : Nat) : rp_A (upd a b (vp_nar .boolean 1)) (ct_u R b) := by
  intro s hs
  by_cases e : s = b
  · subst e
    rw [pk_us, ct_us]
    exact bo_vn true
  · rw [pk_un e, ct_un R e]
    exact h s hs
/-- the verdict of a reached set -/
def nt_J (S T : Nat) (sg dr pe po : Nat → Nat) (im : Nat) (R : Nat → Bool) : Nat :=
  if nt_U T pe po R = true then 2 else if nt_I T sg dr pe R = true then 3 else if ex_n (cf_f S im.testBit (nt_v T sg dr pe po R)) (16 * S) = true then 4 else 1
theorem yw_leastConflict (K : nt_K P S T sg dr pe po im s0) {R : Nat → Bool} (hR : rp_A yr R) {post : Int32 → Prop} (h : ∀ r, ls_n (cf_f S im.testBit (nt_v T sg dr pe po R)) (16 * S) r → post r) : wpY_leastConflict post (yt P S T sg dr pe po im s0 tb vd pc cm cc yr ym yn yi yp yv) := by
  have hS := K.2.1
  have hp := nt_pS hS.2
  refine loop_0 (σ := Unit) (fun n i _ => wY_leastConflict_2 post (nI P) (nI S) (nI (s0 / 16)) (nI (s0 % 16)) (nI T) vd pc cm cc (fun j => nI (sg j)) (fun j => nI (dr j)) (fun j => nI (pe j)) (fun j => nI (po j)) (fun j => nI (im.testBit j).toNat) tb yr ym yn yi yp yv n (nI i)) (fun i _ => ∀ k, k < 16 * i → cf_f S im.testBit (nt_v T sg dr pe po R) k = false) S () (fun j hj => absurd hj (Nat.not_lt_zero _)) ?_ ?_
  · intro n _ hI
    exact br_t (nI_le (Nat.le_refl _) (by omega)) (h _ (Or.inl ⟨rfl, hI⟩))
  · intro n i _ hi hI ih
    refine br_f (nI_ge hi (by omega)) ?_
    refine loop_0 (σ := Unit) (fun n' c _ => wY_leastConflict_12 post (wY_leastConflict_2 post (nI P) (nI S) (nI (s0 / 16)) (nI (s0 % 16)) (nI T) vd pc cm cc (fun j => nI (sg j)) (fun j => nI (dr j)) (fun j => nI (pe j)) (fun j => nI (po j)) (fun j => nI (im.testBit j).toNat) tb yr ym yn yi yp yv n) (nI i) (nI P) (nI S) (nI (s0 / 16)) (nI (s0 % 16)) (nI T) vd pc cm cc (fun j => nI (sg j)) (fun j => nI (dr j)) (fun j => nI (pe j)) (fun j => nI (po j)) (fun j => nI (im.testBit j).toNat) tb yr ym yn yi yp yv n' (nI c)) (fun c _ => ∀ k, k < 16 * i + c → cf_f S im.testBit (nt_v T sg dr pe po R) k = false) (2 ^ S) () hI ?_ ?_
    · intro n' _ hI'
      refine br_t (by rw [sg_s1 (by omega)]; exact nI_le (Nat.le_refl _) (by omega)) (nm_r (nI_1 i) (ih () (cf_row hI')))
    · intro n' c _ hc hI' ih'
      refine br_f (by rw [sg_s1 (by omega)]; exact nI_ge hc (by omega)) ⟨vp_in_nI (by omega) (by decide), ?_⟩
      try dsimp only
      rw [nI_clamp (by omega)]
      have hat := cf_at hS.2 (inp := im.testBit) (v := nt_v T sg dr pe po R) (i := i) hc
      refine bo_br (fun h1 => yw_valueFor K hR (by omega) (by omega) ?_) (fun h1 => nm_r (nI_1 c) (ih' () ?_))
      · have hv := nt_v_lt T sg dr pe po R i c
        by_cases h3 : nt_v T sg dr pe po R i c = 3
        · refine br_t (by rw [h3]; rfl) ?_
          rw [iv_16']
          refine h _ (Or.inr ⟨16 * i + c, by omega, rfl, ?_, hI'⟩)
          rw [hat, h1, h3]; rfl
        · refine br_f (fun z => h3 ((nI_eq (b := 3) (by omega) (by omega)).mp z)) (nm_r (nI_1 c) (ih' () ?_))
          refine lt_s (i := 16 * i + c) hI' ?_
          rw [hat, beq_eq_false_iff_ne.mpr h3, Bool.and_false]
      · refine lt_s (i := 16 * i + c) hI' ?_
        rw [hat, h1]; rfl
theorem yw_someUnsafe (K : nt_K P S T sg dr pe po im s0) {R : Nat → Bool} (hR : rp_A yr R) {post : Int32 → Prop} (h : post (nI (nt_U T pe po R).toNat)) : wpY_someUnsafe post (yt P S T sg dr pe po im s0 tb vd pc cm cc yr ym yn yi yp yv) := by
  have hT := K.2.2.1
  refine loop_0 (σ := Unit) (fun n s _ => wY_someUnsafe_2 post (nI P) (nI S) (nI (s0 / 16)) (nI (s0 % 16)) (nI T) vd pc cm cc (fun j => nI (sg j)) (fun j => nI (dr j)) (fun j => nI (pe j)) (fun j => nI (po j)) (fun j => nI (im.testBit j).toNat) tb yr ym yn yi yp yv n (nI s)) (fun s _ => ∀ k, k < s → ex_n (fun t => R k && (nt_en pe t (k / 16) && nt_un pe po t (k / 16))) T = false) 1024 () (fun j hj => absurd hj (Nat.not_lt_zero _)) ?_ ?_
  · intro n _ hI
    have e : nt_U T pe po R = false := ex_not.mpr hI
    rw [e] at h
    exact br_t (nI_le (Nat.le_refl 1024) (by decide)) h
  · intro n s _ hs hI ih
    refine br_f (nI_ge hs (by decide)) ?_
    refine loop_0 (σ := Unit) (fun n' t _ => wY_someUnsafe_11 post (wY_someUnsafe_2 post (nI P) (nI S) (nI (s0 / 16)) (nI (s0 % 16)) (nI T) vd pc cm cc (fun j => nI (sg j)) (fun j => nI (dr j)) (fun j => nI (pe j)) (fun j => nI (po j)) (fun j => nI (im.testBit j).toNat) tb yr ym yn yi yp yv n) (nI s) (nI P) (nI S) (nI (s0 / 16)) (nI (s0 % 16)) (nI T) vd pc cm cc (fun j => nI (sg j)) (fun j => nI (dr j)) (fun j => nI (pe j)) (fun j => nI (po j)) (fun j => nI (im.testBit j).toNat) tb yr ym yn yi yp yv n' (nI t)) (fun t _ => ∀ k, k < t → (R s && (nt_en pe k (s / 16) && nt_un pe po k (s / 16))) = false) T () (fun j hj => absurd hj (Nat.not_lt_zero _)) ?_ ?_
    · intro n' _ hI'
      exact br_t (nI_le (Nat.le_refl _) (by omega)) (nm_r (nI_1 s) (ih () (lt_s hI (ex_not.mpr hI'))))
    · intro n' t _ ht hI' ih'
      refine br_f (nI_ge ht (by omega)) ⟨vp_in_nI hs (by decide), ?_⟩
      try dsimp only
      rw [nI_clamp (by omega), hR s hs, iv_div hs]
      refine bo_br (fun h1 => nm_r (nI_1 t) (ih' () (lt_s hI' (by rw [h1]; rfl)))) (fun h1 => ⟨by decide, yw_enabled K ht (by omega) (bo_br (fun h2 => nm_r (nI_1 t) (ih' () (lt_s hI' (by rw [h2]; simp)))) (fun h2 => ⟨by decide, yw_unsafe K ht (by omega) (bo_br (fun h3 => nm_r (nI_1 t) (ih' () (lt_s hI' (by rw [h3]; simp)))) (fun h3 => ?_))⟩))⟩)
      have e : nt_U T pe po R = true := ex_iff.mpr ⟨s, hs, ex_iff.mpr ⟨t, ht, by rw [h1, h2, h3]; rfl⟩⟩
      rw [e] at h
      exact h
theorem yw_someInconsistent (K : nt_K P S T sg dr pe po im s0) {R : Nat → Bool} (hR : rp_A yr R) {post : Int32 → Prop} (h : post (nI (nt_I T sg dr pe R).toNat)) : wpY_someInconsistent post (yt P S T sg dr pe po im s0 tb vd pc cm cc yr ym yn yi yp yv) := by
  have hT := K.2.2.1
  refine loop_0 (σ := Unit) (fun n s _ => wY_someInconsistent_2 post (nI P) (nI S) (nI (s0 / 16)) (nI (s0 % 16)) (nI T) vd pc cm cc (fun j => nI (sg j)) (fun j => nI (dr j)) (fun j => nI (pe j)) (fun j => nI (po j)) (fun j => nI (im.testBit j).toNat) tb yr ym yn yi yp yv n (nI s)) (fun s _ => ∀ k, k < s → ex_n (fun t => R k && (nt_en pe t (k / 16) && nt_ic sg dr t (k % 16))) T = false) 1024 () (fun j hj => absurd hj (Nat.not_lt_zero _)) ?_ ?_
  · intro n _ hI
    have e : nt_I T sg dr pe R = false := ex_not.mpr hI
    rw [e] at h
    exact br_t (nI_le (Nat.le_refl 1024) (by decide)) h
  · intro n s _ hs hI ih
    refine br_f (nI_ge hs (by decide)) ?_
    refine loop_0 (σ := Unit) (fun n' t _ => wY_someInconsistent_11 post (wY_someInconsistent_2 post (nI P) (nI S) (nI (s0 / 16)) (nI (s0 % 16)) (nI T) vd pc cm cc (fun j => nI (sg j)) (fun j => nI (dr j)) (fun j => nI (pe j)) (fun j => nI (po j)) (fun j => nI (im.testBit j).toNat) tb yr ym yn yi yp yv n) (nI s) (nI P) (nI S) (nI (s0 / 16)) (nI (s0 % 16)) (nI T) vd pc cm cc (fun j => nI (sg j)) (fun j => nI (dr j)) (fun j => nI (pe j)) (fun j => nI (po j)) (fun j => nI (im.testBit j).toNat) tb yr ym yn yi yp yv n' (nI t)) (fun t _ => ∀ k, k < t → (R s && (nt_en pe k (s / 16) && nt_ic sg dr k (s % 16))) = false) T () (fun j hj => absurd hj (Nat.not_lt_zero _)) ?_ ?_
    · intro n' _ hI'
      exact br_t (nI_le (Nat.le_refl _) (by omega)) (nm_r (nI_1 s) (ih () (lt_s hI (ex_not.mpr hI'))))
    · intro n' t _ ht hI' ih'
      refine br_f (nI_ge ht (by omega)) ⟨vp_in_nI hs (by decide), ?_⟩
      try dsimp only
      rw [nI_clamp (by omega), hR s hs, iv_rem hs, iv_div hs]
      refine bo_br (fun h1 => nm_r (nI_1 t) (ih' () (lt_s hI' (by rw [h1]; rfl)))) (fun h1 => ⟨by decide, yw_enabled K ht (by omega) (bo_br (fun h2 => nm_r (nI_1 t) (ih' () (lt_s hI' (by rw [h2]; simp)))) (fun h2 => ⟨by decide, yw_inconsistent K ht (bo_br (fun h3 => nm_r (nI_1 t) (ih' () (lt_s hI' (by rw [h3]; simp)))) (fun h3 => ?_))⟩))⟩)
      have e : nt_I T sg dr pe R = true := ex_iff.mpr ⟨s, hs, ex_iff.mpr ⟨t, ht, by rw [h1, h2, h3]; rfl⟩⟩
      rw [e] at h
      exact h
/-- the pairs that a sweep has done -/
def sw_D (st : Nat → Nat → Prop) (ok : Nat → Nat → Bool) (fr : Nat → Nat → Nat) (i t : Nat) : Nat → Nat → Prop := fun x y => (x < i ∧ st x y) ∨ (x = i ∧ ∃ k, k < t ∧ ok k x = true ∧ y = fr k x)
theorem sw_Dno {st : Nat → Nat → Prop} {ok : Nat → Nat → Bool} {fr : Nat → Nat → Nat} {i t : Nat} {R : Nat → Bool} (h : R i = false ∨ ok t i = false) : ∀ x y, x < 1024 → R x = true → sw_D st ok fr i (t + 1) x y → sw_D st ok fr i t x y := by
  rintro x y _ hR (z | ⟨rfl, k, hk, ho, e⟩)
  · exact Or.inl z
  · refine Or.inr ⟨rfl, k, ?_, ho, e⟩
    by_cases ek : k = t
    · subst ek
      rcases h with h | h
      · rw [h] at hR; exact absurd hR (by simp)
      · rw [h] at ho; exact absurd ho (by simp)
    · omega
theorem sw_Dyes {st : Nat → Nat → Prop} {ok : Nat → Nat → Bool} {fr : Nat → Nat → Nat} {i t : Nat} : ∀ x y, sw_D st ok fr i (t + 1) x y → sw_D st ok fr i t x y ∨ (x = i ∧ y = fr t i) := by
  rintro x y (z | ⟨rfl, k, hk, ho, e⟩)
  · exact Or.inl (Or.inl z)
  · by_cases ek : k = t
    · subst ek; exact Or.inr ⟨rfl, e⟩
    · exact Or.inl (Or.inr ⟨rfl, k, by omega, ho, e⟩)
theorem yw_sweepReach (K : nt_K P S T sg dr pe po im s0) {R0 : Nat → Bool} (hR : rp_A yr R0) (h1 : R0 s0 = true) (h2 : ∀ s, s < 1024 → R0 s = true → rc_R (nt_st T sg dr pe po) s0 s) {post : Int32 → SY → Prop}
    (h : ∀ (g : Bool) (R : Nat → Bool) (yr' : Nat → Int32), rp_A yr' R → sw_I (nt_st T sg dr pe po) s0 R0 R g (nt_st T sg dr pe po) → post (nI g.toNat) (yt P S T sg dr pe po im s0 tb vd pc cm cc yr' ym yn yi yp yv)) : wpY_sweepReach post (yt P S T sg dr pe po im s0 tb vd pc cm cc yr ym yn yi yp yv) := by
  have hT := K.2.2.1
  refine loop_0 (σ := Bool × (Nat → Bool) × (Nat → Int32)) (fun n i s => wY_sweepReach_4 post (nI P) (nI S) (nI (s0 / 16)) (nI (s0 % 16)) (nI T) vd pc cm cc n (nI s.1.toNat) (nI i) (fun j => nI (sg j)) (fun j => nI (dr j)) (fun j => nI (pe j)) (fun j => nI (po j)) (fun j => nI (im.testBit j).toNat) tb s.2.2 ym yn yi yp yv)
    (fun i s => rp_A s.2.2 s.2.1 ∧ sw_I (nt_st T sg dr pe po) s0 R0 s.2.1 s.1 (sw_D (nt_st T sg dr pe po) (nt_ok sg dr pe po) (nt_fr sg dr pe po) i 0)) 1024 (false, R0, yr) ⟨hR, sw_skip (sw_0 h1 h2) ?_⟩ ?_ ?_
  · rintro x y _ _ (⟨z, _⟩ | ⟨_, k, hk, _⟩)
    · exact absurd z (Nat.not_lt_zero _)
    · exact absurd hk (Nat.not_lt_zero _)
  · rintro n ⟨g, R, yr'⟩ ⟨hA, hI⟩
    exact br_t (nI_le (Nat.le_refl 1024) (by decide)) ⟨bo_nar g, h g R yr' hA (sw_skip hI (fun x y hx _ z => Or.inl ⟨hx, z⟩))⟩
  · rintro n i ⟨g, R, yr'⟩ hi ⟨hA, hI⟩ ih
    refine br_f (nI_ge hi (by decide)) ?_
    refine loop_0 (σ := Bool × (Nat → Bool) × (Nat → Int32)) (fun n' t s => wY_sweepReach_13 post (wY_sweepReach_4 post (nI P) (nI S) (nI (s0 / 16)) (nI (s0 % 16)) (nI T) vd pc cm cc n) (nI i) (nI P) (nI S) (nI (s0 / 16)) (nI (s0 % 16)) (nI T) vd pc cm cc n' (nI s.1.toNat) (nI t) (fun j => nI (sg j)) (fun j => nI (dr j)) (fun j => nI (pe j)) (fun j => nI (po j)) (fun j => nI (im.testBit j).toNat) tb s.2.2 ym yn yi yp yv)
      (fun t s => rp_A s.2.2 s.2.1 ∧ sw_I (nt_st T sg dr pe po) s0 R0 s.2.1 s.1 (sw_D (nt_st T sg dr pe po) (nt_ok sg dr pe po) (nt_fr sg dr pe po) i t)) T (g, R, yr') ⟨hA, hI⟩ ?_ ?_
    · rintro n' ⟨g, R, yr'⟩ ⟨hA, hI⟩
      refine br_t (nI_le (Nat.le_refl _) (by omega)) (nm_r (nI_1 i) (ih (g, R, yr') ⟨hA, sw_skip hI ?_⟩))
      rintro x y _ _ (⟨z, y1⟩ | ⟨_, k, hk, _⟩)
      · by_cases e : x = i
        · subst e
          obtain ⟨k, a, b, c⟩ := y1
          exact Or.inr ⟨rfl, k, a, b, c⟩
        · exact Or.inl ⟨by omega, y1⟩
      · exact absurd hk (Nat.not_lt_zero _)
    · rintro n' t ⟨g, R, yr'⟩ ht ⟨hA, hI⟩ ih'
      have hA' : rp_A yr' R := hA
      have hno : (R i = false ∨ nt_ok sg dr pe po t i = false) → wY_sweepReach_13 post (wY_sweepReach_4 post (nI P) (nI S) (nI (s0 / 16)) (nI (s0 % 16)) (nI T) vd pc cm cc n) (nI i) (nI P) (nI S) (nI (s0 / 16)) (nI (s0 % 16)) (nI T) vd pc cm cc n' (nI g.toNat) (nI (t + 1)) (fun j => nI (sg j)) (fun j => nI (dr j)) (fun j => nI (pe j)) (fun j => nI (po j)) (fun j => nI (im.testBit j).toNat) tb yr' ym yn yi yp yv := fun z => ih' (g, R, yr') ⟨hA, sw_skip hI (sw_Dno z)⟩
      refine br_f (nI_ge ht (by omega)) ⟨by decide, nm_r (iv_div hi) ⟨by decide, nm_r (iv_rem hi) ⟨vp_in_nI hi (by decide), ?_⟩⟩⟩
      try dsimp only
      rw [nI_clamp (by omega), hA' i hi]
      refine bo_br (fun z1 => nm_r (nI_1 t) (hno (Or.inl z1))) (fun z1 => yw_enabled K ht (by omega) (bo_br (fun z2 => nm_r (nI_1 t) (hno (Or.inr ?_))) (fun z2 => yw_unsafe K ht (by omega) (bo_br (fun z3 => yw_inconsistent K ht (bo_br (fun z4 => yw_cellAfterS K ht ?_) (fun z4 => nm_r (nI_1 t) (hno (Or.inr ?_))))) (fun z3 => nm_r (nI_1 t) (hno (Or.inr ?_)))))))
      · unfold nt_ok; rw [z2]; rfl
      · have hb : nt_fr sg dr pe po t i < 1024 := nt_fr_lt K.2.1.2 K.2.2.2.1 t hi
        have hst : nt_st T sg dr pe po i (nt_fr sg dr pe po t i) := ⟨t, ht, by unfold nt_ok; rw [z2, z3, z4]; rfl, rfl⟩
        have hstep : sw_I (nt_st T sg dr pe po) s0 R0 (ct_u R (nt_fr sg dr pe po t i)) (g || !(R (nt_fr sg dr pe po t i))) (sw_D (nt_st T sg dr pe po) (nt_ok sg dr pe po) (nt_fr sg dr pe po) i (t + 1)) := sw_step hI hi z1 hst hb sw_Dyes
        have hrep := rp_u hA' (nt_fr sg dr pe po t i)
        refine ⟨vp_in_nI hb (by decide), ?_⟩
        rw [nI_clamp (n := nt_fr sg dr pe po t i) (by omega), hA' _ hb]
        refine bo_br (fun z5 => ⟨vp_in_nI hb (by decide), nm_e (nm_r (nI_1 t) ?_)⟩) (fun z5 => ⟨vp_in_nI hb (by decide), nm_e (nm_r (nI_1 t) ?_)⟩)
        · rw [z5, Bool.not_false, Bool.or_true] at hstep
          exact ih' (true, _, _) ⟨hrep, hstep⟩
        · rw [z5, Bool.not_true, Bool.or_false] at hstep
          exact ih' (g, _, _) ⟨hrep, hstep⟩
      · unfold nt_ok; rw [z4]; simp
      · unfold nt_ok; rw [z3]; simp
end
