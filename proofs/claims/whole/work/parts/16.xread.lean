/-! the component's readers -/
section
variable {P S T : Nat} {sg dr pe po : Nat → Nat} {im s0 : Nat} {tb : Nat → Int32}
variable {vd us ic rc pc mc ln lh ls cm cc : Int32} {ar asn aa ao apt act acu aco aq apc af ad am yr ym yn yi yp yv : Nat → Int32}
theorem xw_isSignal_t (hS : S ≤ 4) {i : Nat} (hi : i < S) {post : Int32 → Prop} (h : post 1) : wpX_isSignal post (xt P S T sg dr pe po im s0 tb vd us ic rc pc mc ln lh ls ar asn aa ao apt act acu aco aq apc af ad am) (nI i) :=
  br_f (nI_pos (by omega)) (br_f (nI_ge hi (by omega)) h)
theorem xw_isSignal_f {x : Int32} (hx : x < 0 ∨ nI S ≤ x) {post : Int32 → Prop} (h : post 0) : wpX_isSignal post (xt P S T sg dr pe po im s0 tb vd us ic rc pc mc ln lh ls ar asn aa ao apt act acu aco aq apc af ad am) x := by
  by_cases h0 : x < 0
  · exact br_t h0 h
  · rcases hx with z | z
    · exact absurd z h0
    · exact br_f h0 (br_t z h)
theorem xw_isMarking_t (hP : P ≤ 6) {i : Nat} (hi : i < 2 ^ P) {post : Int32 → Prop} (h : post 1) : wpX_isMarking post (xt P S T sg dr pe po im s0 tb vd us ic rc pc mc ln lh ls ar asn aa ao apt act acu aco aq apc af ad am) (nI i) := by
  have : 2 ^ P ≤ 2 ^ 6 := Nat.pow_le_pow_right (by decide) hP
  exact br_f (nI_pos (by omega)) (br_f (nI_ge hi (by omega)) h)
theorem xw_isMarking_f {x : Int32} (hx : x < 0 ∨ nI (2 ^ P) ≤ x) {post : Int32 → Prop} (h : post 0) : wpX_isMarking post (xt P S T sg dr pe po im s0 tb vd us ic rc pc mc ln lh ls ar asn aa ao apt act acu aco aq apc af ad am) x := by
  by_cases h0 : x < 0
  · exact br_t h0 h
  · rcases hx with z | z
    · exact absurd z h0
    · exact br_f h0 (br_t z h)
theorem xw_isCode_t (hS : S ≤ 4) {i : Nat} (hi : i < 2 ^ S) {post : Int32 → Prop} (h : post 1) : wpX_isCode post (xt P S T sg dr pe po im s0 tb vd us ic rc pc mc ln lh ls ar asn aa ao apt act acu aco aq apc af ad am) (nI i) := by
  have := nt_pS hS
  exact br_f (nI_pos (by omega)) (br_f (nI_ge hi (by omega)) h)
theorem xw_isCode_f {x : Int32} (hx : x < 0 ∨ nI (2 ^ S) ≤ x) {post : Int32 → Prop} (h : post 0) : wpX_isCode post (xt P S T sg dr pe po im s0 tb vd us ic rc pc mc ln lh ls ar asn aa ao apt act acu aco aq apc af ad am) x := by
  by_cases h0 : x < 0
  · exact br_t h0 h
  · rcases hx with z | z
    · exact absurd z h0
    · exact br_f h0 (br_t z h)
theorem xw_isOutput (hS : S ≤ 4) {i : Nat} (hi : i < S) {post : Int32 → Prop} (h : post (nI (!(im.testBit i)).toNat)) : wpX_isOutput post (xt P S T sg dr pe po im s0 tb vd us ic rc pc mc ln lh ls ar asn aa ao apt act acu aco aq apc af ad am) (nI i) := by
  unfold wpX_isOutput xt
  dsimp only
  refine xw_isSignal_t hS hi (br_f (by decide) ?_)
  show ((nI im >>> (nI i &&& 31)) &&& 1 = 0 → post 1) ∧ (¬ (nI im >>> (nI i &&& 31)) &&& 1 = 0 → post 0)
  rw [sg_bitN im (by omega)]
  refine bo_if ?_ h
  rw [sg_t0, Bool.not_eq_true']
theorem xw_isOutput_f {x : Int32} (hx : x < 0 ∨ nI S ≤ x) {post : Int32 → Prop} (h : post 0) : wpX_isOutput post (xt P S T sg dr pe po im s0 tb vd us ic rc pc mc ln lh ls ar asn aa ao apt act acu aco aq apc af ad am) x := by
  unfold wpX_isOutput xt
  dsimp only
  exact xw_isSignal_f hx (br_t rfl h)
theorem xw_isEnabled (K : nt_K P S T sg dr pe po im s0) {t s : Nat} (ht : t < T) (hs : s < 1024) {post : Int32 → Prop} (h : post (nI (nt_en pe t (s / 16)).toNat)) : wpX_isEnabled post (xt P S T sg dr pe po im s0 tb vd us ic rc pc mc ln lh ls ar asn aa ao apt act acu aco aq apc af ad am) (nI t) (nI s) := by
  have hT := K.2.2.1
  have hB := iv_bS K.2.1.2 K.2.2.2.1 t
  have hv : vp_in (nI t) 12 := vp_in_nI (by omega) (by decide)
  unfold wpX_isEnabled xt wpX_markingOf
  try dsimp only
  rw [nI_clamp (by omega), iv_div hs]
  exact ⟨hv, by decide, bo_if (iv_enX hB.2.2.1) h⟩
theorem xw_isUnsafe (K : nt_K P S T sg dr pe po im s0) {t s : Nat} (ht : t < T) (hs : s < 1024) {post : Int32 → Prop} (h : post (nI (nt_un pe po t (s / 16)).toNat)) : wpX_isUnsafe post (xt P S T sg dr pe po im s0 tb vd us ic rc pc mc ln lh ls ar asn aa ao apt act acu aco aq apc af ad am) (nI t) (nI s) := by
  have hT := K.2.2.1
  have hv : vp_in (nI t) 12 := vp_in_nI (by omega) (by decide)
  unfold wpX_isUnsafe xt wpX_markingOf
  try dsimp only
  rw [nI_clamp (by omega), iv_div hs]
  exact ⟨by decide, hv, nm_e ⟨hv, bo_if0 (iv_un (by omega)) h⟩⟩
theorem xw_isInconsistent (K : nt_K P S T sg dr pe po im s0) {t s : Nat} (ht : t < T) (hs : s < 1024) {post : Int32 → Prop} (h : post (nI (nt_ic sg dr t (s % 16)).toNat)) : wpX_isInconsistent post (xt P S T sg dr pe po im s0 tb vd us ic rc pc mc ln lh ls ar asn aa ao apt act acu aco aq apc af ad am) (nI t) (nI s) := by
  have hT := K.2.2.1
  have hB := iv_bS K.2.1.2 K.2.2.2.1 t
  have hv : vp_in (nI t) 12 := vp_in_nI (by omega) (by decide)
  unfold wpX_isInconsistent xt wpX_codeOf wpX_bit
  try dsimp only
  rw [nI_clamp (by omega), iv_rem hs]
  exact ⟨by decide, hv, hv, bo_if (iv_ic hB.1 hB.2.1) h⟩
theorem xw_fire (K : nt_K P S T sg dr pe po im s0) {t s : Nat} (ht : t < T) (hs : s < 1024) {post : Int32 → Prop} (h : post (nI (nt_fr sg dr pe po t s))) : wpX_fire post (xt P S T sg dr pe po im s0 tb vd us ic rc pc mc ln lh ls ar asn aa ao apt act acu aco aq apc af ad am) (nI t) (nI s) := by
  have hT := K.2.2.1
  have hv : vp_in (nI t) 12 := vp_in_nI (by omega) (by decide)
  unfold wpX_fire xt wpX_markingOf wpX_codeOf wpX_stateOf
  try dsimp only
  rw [nI_clamp (by omega), iv_rem hs, iv_div hs]
  refine ⟨by decide, hv, hv, nm_r iv_fm ⟨hv, nm_e ⟨by decide, hv, nm_r (iv_fcX K.2.1.2 K.2.2.2.1) ?_⟩⟩⟩
  rw [iv_16]
  exact h
/-- the set of the signals with f, as the component gathers it -/
theorem xm_step {T : Nat} {sg : Nat → Nat} {f : Nat → Bool} {M t : Nat} (h : ∀ i, M.testBit i = ex_n (fun k => (sg k == i) && f k) t) :
    (f t = false → ∀ i, M.testBit i = ex_n (fun k => (sg k == i) && f k) (t + 1)) ∧ (f t = true → ∀ i, (M ||| 2 ^ sg t).testBit i = ex_n (fun k => (sg k == i) && f k) (t + 1)) := by
  refine ⟨fun hf i => ?_, fun hf i => ?_⟩
  · show M.testBit i = (ex_n (fun k => (sg k == i) && f k) t || ((sg t == i) && f t))
    rw [hf, Bool.and_false, Bool.or_false]
    exact h i
  · show (M ||| 2 ^ sg t).testBit i = (ex_n (fun k => (sg k == i) && f k) t || ((sg t == i) && f t))
    rw [hf, Bool.and_true, Nat.testBit_or, h i, Nat.testBit_two_pow]
    congr 1
theorem xm_0 {sg : Nat → Nat} {f : Nat → Bool} : ∀ i, (0 : Nat).testBit i = ex_n (fun k => (sg k == i) && f k) 0 := fun i => Nat.zero_testBit i
theorem xw_enabledSignals (K : nt_K P S T sg dr pe po im s0) {s : Nat} (hs : s < 1024) {post : Int32 → Prop} (h : ∀ M, (∀ i, M.testBit i = nt_he T sg pe i (s / 16)) → post (nI M)) : wpX_enabledSignals post (xt P S T sg dr pe po im s0 tb vd us ic rc pc mc ln lh ls ar asn aa ao apt act acu aco aq apc af ad am) (nI s) := by
  have hT := K.2.2.1
  refine loop_0 (σ := Nat) (fun n t M => wX_enabledSignals_4 post (nI s) (nI S) (nI (2 ^ P)) (nI (2 ^ S)) (nI (3 ^ S)) (nI T) (nI im) (nI s0) vd us ic rc pc mc ln lh ls (cu_ar S) (fun j => nI (sg j)) (fun j => nI (dr j)) (fun j => nI (pe j)) (fun j => nI (po j)) tb ar asn aa ao apt act acu aco aq apc af ad am 65536 n (nI M) (nI t)) (fun t M => ∀ i, M.testBit i = ex_n (fun k => (sg k == i) && nt_en pe k (s / 16)) t) T 0 xm_0 ?_ ?_
  · intro n M hI
    exact br_t (nI_le (Nat.le_refl _) (by omega)) (h M hI)
  · intro n t M ht hI ih
    have hB := iv_bS K.2.1.2 K.2.2.2.1 t
    obtain ⟨a, b⟩ := xm_step (T := T) (f := fun k => nt_en pe k (s / 16)) hI
    refine br_f (nI_ge ht (by omega)) (xw_isEnabled K ht hs (bo_br (fun z => nm_r (nI_1 t) (ih M (a z))) (fun z => ⟨vp_in_nI (by omega) (by decide), ?_⟩)))
    try dsimp only
    rw [nI_clamp (by omega), sg_s1 (by omega)]
    exact nm_r (sg_or _ _) (nm_r (nI_1 t) (ih _ (b z)))
theorem xw_excitedSignals (K : nt_K P S T sg dr pe po im s0) {s : Nat} (hs : s < 1024) {post : Int32 → Prop} (h : ∀ M, (∀ i, M.testBit i = nt_ex T sg dr pe po i (s / 16) (s % 16)) → post (nI M)) : wpX_excitedSignals post (xt P S T sg dr pe po im s0 tb vd us ic rc pc mc ln lh ls ar asn aa ao apt act acu aco aq apc af ad am) (nI s) := by
  have hT := K.2.2.1
  refine loop_0 (σ := Nat) (fun n t M => wX_excitedSignals_4 post (nI s) (nI S) (nI (2 ^ P)) (nI (2 ^ S)) (nI (3 ^ S)) (nI T) (nI im) (nI s0) vd us ic rc pc mc ln lh ls (cu_ar S) (fun j => nI (sg j)) (fun j => nI (dr j)) (fun j => nI (pe j)) (fun j => nI (po j)) tb ar asn aa ao apt act acu aco aq apc af ad am 65536 n (nI M) (nI t)) (fun t M => ∀ i, M.testBit i = ex_n (fun k => (sg k == i) && (nt_en pe k (s / 16) && (!(nt_un pe po k (s / 16)) && !(nt_ic sg dr k (s % 16))))) t) T 0 xm_0 ?_ ?_
  · intro n M hI
    exact br_t (nI_le (Nat.le_refl _) (by omega)) (h M hI)
  · intro n t M ht hI ih
    have hB := iv_bS K.2.1.2 K.2.2.2.1 t
    obtain ⟨a, b⟩ := xm_step (T := T) (f := fun k => nt_en pe k (s / 16) && (!(nt_un pe po k (s / 16)) && !(nt_ic sg dr k (s % 16)))) hI
    refine br_f (nI_ge ht (by omega)) (xw_isEnabled K ht hs (bo_br (fun z => nm_r (nI_1 t) (ih M (a (by (try dsimp only); rw [z]; rfl)))) (fun z => xw_isUnsafe K ht hs (bo_br (fun z2 => xw_isInconsistent K ht hs (bo_br (fun z3 => ⟨vp_in_nI (by omega) (by decide), ?_⟩) (fun z3 => nm_r (nI_1 t) (ih M (a (by (try dsimp only); rw [z3]; simp)))))) (fun z2 => nm_r (nI_1 t) (ih M (a (by (try dsimp only); rw [z2]; simp))))))))
    try dsimp only
    rw [nI_clamp (by omega), sg_s1 (by omega)]
    exact nm_r (sg_or _ _) (nm_r (nI_1 t) (ih _ (b (by (try dsimp only); rw [z, z2, z3]; rfl))))
theorem xw_nextOf (K : nt_K P S T sg dr pe po im s0) {R : Nat → Bool} (A : xe_A T sg dr pe po R 1024 asn aa ao) {i c : Nat} (hi : i < 4) (hc : c < 16) {post : Int32 → Prop} (h : post (nI (nt_v T sg dr pe po R i c))) : wpX_nextOf post (xt P S T sg dr pe po im s0 tb vd us ic rc pc mc ln lh ls ar asn aa ao apt act acu aco aq apc af ad am) (nI i) (nI c) := by
  have hv : vp_in (nI c) 16 := vp_in_nI hc (by decide)
  obtain ⟨e1, e2⟩ := xe_all A hc hi
  unfold wpX_nextOf xt wpX_bit
  try dsimp only
  rw [nI_clamp (by omega), sg_bitN c (by omega), xe_seen A hc, sg_bit (aa c) (by omega), sg_bit (ao c) (by omega), e1, e2]
  unfold nt_v at h
  refine ⟨hv, bo_br (fun z => ?_) (fun z => ⟨hv, bo_br1 (fun z2 => ?_) (fun z2 => ⟨hv, bo_br (fun z3 => ?_) (fun z3 => ?_)⟩)⟩)⟩
  · rw [if_pos z] at h
    exact h
  · rw [if_neg (by rw [z]; simp), if_pos z2] at h
    have e : (1 : Int32) - nI (c.testBit i).toNat = nI (1 - (c.testBit i).toNat) := pk_sub (a := 1) (by have := sg_toNat_lt (c.testBit i); omega)
    rw [e]
    exact h
  · rw [if_neg (by rw [z]; simp), if_neg (by rw [z2]; simp), if_pos z3] at h
    exact h
  · rw [if_neg (by rw [z]; simp), if_neg (by rw [z2]; simp), if_neg (by rw [z3]; simp)] at h
    exact h
theorem xw_leastConflict (K : nt_K P S T sg dr pe po im s0) {R : Nat → Bool} (A : xe_A T sg dr pe po R 1024 asn aa ao) {post : Int32 → Prop} (h : ∀ r, ls_n (cf_f S im.testBit (nt_v T sg dr pe po R)) (16 * S) r → post r) : wpX_leastConflict post (xt P S T sg dr pe po im s0 tb vd us ic rc pc mc ln lh ls ar asn aa ao apt act acu aco aq apc af ad am) := by
  have hS := K.2.1
  have hp := nt_pS hS.2
  refine loop_0 (σ := Unit) (fun n i _ => wX_leastConflict_2 post (nI S) (nI (2 ^ P)) (nI (2 ^ S)) (nI (3 ^ S)) (nI T) (nI im) (nI s0) vd us ic rc pc mc ln lh ls (cu_ar S) (fun j => nI (sg j)) (fun j => nI (dr j)) (fun j => nI (pe j)) (fun j => nI (po j)) tb ar asn aa ao apt act acu aco aq apc af ad am 65536 n (nI i)) (fun i _ => ∀ k, k < 16 * i → cf_f S im.testBit (nt_v T sg dr pe po R) k = false) S () (fun j hj => absurd hj (Nat.not_lt_zero _)) ?_ ?_
  · intro n _ hI
    exact br_t (nI_le (Nat.le_refl _) (by omega)) (h _ (Or.inl ⟨rfl, hI⟩))
  · intro n i _ hi hI ih
    refine br_f (nI_ge hi (by omega)) ?_
    refine loop_0 (σ := Unit) (fun n' c _ => wX_leastConflict_12 post (wX_leastConflict_2 post (nI S) (nI (2 ^ P)) (nI (2 ^ S)) (nI (3 ^ S)) (nI T) (nI im) (nI s0) vd us ic rc pc mc ln lh ls (cu_ar S) (fun j => nI (sg j)) (fun j => nI (dr j)) (fun j => nI (pe j)) (fun j => nI (po j)) tb ar asn aa ao apt act acu aco aq apc af ad am 65536 n) (nI i) (nI S) (nI (2 ^ P)) (nI (2 ^ S)) (nI (3 ^ S)) (nI T) (nI im) (nI s0) vd us ic rc pc mc ln lh ls (cu_ar S) (fun j => nI (sg j)) (fun j => nI (dr j)) (fun j => nI (pe j)) (fun j => nI (po j)) tb ar asn aa ao apt act acu aco aq apc af ad am 65536 n' (nI c)) (fun c _ => ∀ k, k < 16 * i + c → cf_f S im.testBit (nt_v T sg dr pe po R) k = false) (2 ^ S) () hI ?_ ?_
    · intro n' _ hI'
      exact br_t (nI_le (Nat.le_refl _) (by omega)) (nm_r (nI_1 i) (ih () (cf_row hI')))
    · intro n' c _ hc hI' ih'
      have hat := cf_at hS.2 (inp := im.testBit) (v := nt_v T sg dr pe po R) (i := i) hc
      refine br_f (nI_ge hc (by omega)) (xw_isOutput hS.2 hi (bo_br (fun h1 => nm_r (nI_1 c) (ih' () ?_)) (fun h1 => xw_nextOf K A (by omega) (by omega) ?_)))
      · refine lt_s (i := 16 * i + c) hI' ?_
        rw [hat, h1]; rfl
      · have hv := nt_v_lt T sg dr pe po R i c
        by_cases h3 : nt_v T sg dr pe po R i c = 3
        · refine br_t (by rw [h3]; rfl) ?_
          rw [iv_16']
          refine h _ (Or.inr ⟨16 * i + c, by omega, rfl, ?_, hI'⟩)
          rw [hat, h1, h3]; rfl
        · refine br_f (fun z => h3 ((nI_eq (b := 3) (by omega) (by omega)).mp z)) (nm_r (nI_1 c) (ih' () ?_))
          refine lt_s (i := 16 * i + c) hI' ?_
          rw [hat, beq_eq_false_iff_ne.mpr h3, Bool.and_false]
theorem xw_judge (K : nt_K P S T sg dr pe po im s0) {R : Nat → Bool} (A : xe_A T sg dr pe po R 1024 asn aa ao) {post : Int32 → Prop} (h : post (nI (nt_J S T sg dr pe po im R))) : wpX_judge post (xt P S T sg dr pe po im s0 tb vd (nI (nt_U T pe po R).toNat) (nI (nt_I T sg dr pe R).toNat) rc pc mc ln lh ls ar asn aa ao apt act acu aco aq apc af ad am) := by
  have hS := K.2.1
  unfold nt_J at h
  refine bo_br (fun h1 => bo_br (fun h2 => xw_leastConflict K A (fun r hr => ?_)) (fun h2 => ?_)) (fun h1 => ?_)
  · rw [if_neg (by rw [h1]; simp), if_neg (by rw [h2]; simp)] at h
    have hb := ls_bad (by omega) hr
    by_cases h3 : ex_n (cf_f S im.testBit (nt_v T sg dr pe po R)) (16 * S) = true
    · rw [if_pos h3] at h
      exact br_f (fun z => by rw [hb.mp z] at h3; exact absurd h3 (by simp)) h
    · rw [if_neg h3] at h
      exact br_t (hb.mpr (bo_nt h3)) h
  · rw [if_neg (by rw [h1]; simp), if_pos h2] at h
    exact h
  · rw [if_pos h1] at h
    exact h
end
