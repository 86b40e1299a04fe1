/-! the reference's readers -/
section
variable {P S T : Nat} {sg dr pe po : Nat → Nat} {im s0 : Nat} {tb : Nat → Int32}
variable {vd us ic rc pc mc ln lh ls cm cc : Int32} {ar asn aa ao apt act acu aco aq apc af ad am yr ym yn yi yp yv : Nat → Int32}
theorem bo_if {c : Prop} {b : Bool} {post : Int32 → Prop} (hc : c ↔ b = true) (h : post (nI b.toNat)) : (c → post 1) ∧ (¬ c → post 0) := by
  cases b
  · exact ⟨fun z => absurd (hc.mp z) (by simp), fun _ => h⟩
  · exact ⟨fun _ => h, fun z => absurd (hc.mpr rfl) z⟩
theorem bo_if0 {c : Prop} {b : Bool} {post : Int32 → Prop} (hc : c ↔ b = false) (h : post (nI b.toNat)) : (c → post 0) ∧ (¬ c → post 1) := by
  cases b
  · exact ⟨fun _ => h, fun z => absurd (hc.mpr rfl) z⟩
  · exact ⟨fun z => absurd (hc.mp z) (by simp), fun _ => h⟩
theorem yw_enabled (K : nt_K P S T sg dr pe po im s0) {t m : Nat} (ht : t < T) (hm : m < 64) {post : Int32 → Prop} (h : post (nI (nt_en pe t m).toNat)) : wpY_enabled post (yt P S T sg dr pe po im s0 tb vd pc cm cc yr ym yn yi yp yv) (nI t) (nI m) := by
  have hT := K.2.2.1
  have hB := iv_bS K.2.1.2 K.2.2.2.1 t
  have hv : vp_in (nI t) 12 := vp_in_nI (by omega) (by decide)
  unfold wpY_enabled yt
  try dsimp only
  rw [nI_clamp (by omega)]
  exact ⟨hv, hv, bo_if (iv_enY hm hB.2.2.1) h⟩
theorem yw_unsafe (K : nt_K P S T sg dr pe po im s0) {t m : Nat} (ht : t < T) (hm : m < 64) {post : Int32 → Prop} (h : post (nI (nt_un pe po t m).toNat)) : wpY_unsafe post (yt P S T sg dr pe po im s0 tb vd pc cm cc yr ym yn yi yp yv) (nI t) (nI m) := by
  have hT := K.2.2.1
  have hv : vp_in (nI t) 12 := vp_in_nI (by omega) (by decide)
  unfold wpY_unsafe yt
  try dsimp only
  rw [nI_clamp (by omega)]
  exact ⟨hv, hv, bo_if0 (iv_un hm) h⟩
theorem yw_inconsistent (K : nt_K P S T sg dr pe po im s0) {t c : Nat} (ht : t < T) {post : Int32 → Prop} (h : post (nI (nt_ic sg dr t c).toNat)) : wpY_inconsistent post (yt P S T sg dr pe po im s0 tb vd pc cm cc yr ym yn yi yp yv) (nI t) (nI c) := by
  have hT := K.2.2.1
  have hB := iv_bS K.2.1.2 K.2.2.2.1 t
  have hv : vp_in (nI t) 12 := vp_in_nI (by omega) (by decide)
  unfold wpY_inconsistent yt
  try dsimp only
  rw [nI_clamp (by omega)]
  exact ⟨hv, hv, bo_if (iv_ic hB.1 hB.2.1) h⟩
theorem yw_cellAfter (K : nt_K P S T sg dr pe po im s0) {t m c : Nat} (ht : t < T) {post : Int32 → Prop} (h : post (nI (nt_fm pe po t m * 16 + nt_fc sg dr t c))) : wpY_cellAfter post (yt P S T sg dr pe po im s0 tb vd pc cm cc yr ym yn yi yp yv) (nI t) (nI m) (nI c) := by
  have hT := K.2.2.1
  have hB := iv_bS K.2.1.2 K.2.2.2.1 t
  have hv : vp_in (nI t) 12 := vp_in_nI (by omega) (by decide)
  unfold wpY_cellAfter yt
  try dsimp only
  rw [nI_clamp (by omega)]
  refine ⟨hv, nm_r (sg_s1 (by omega)) ⟨hv, hv, nm_r iv_fm ⟨hv, ?_⟩⟩⟩
  rw [Nat.mul_comm] at h
  by_cases hd : dr t = 1
  · refine br_t (by rw [hd]; rfl) (nm_r (sg_or _ _) ?_)
    rw [iv_16']
    unfold nt_fc at h
    rw [if_pos hd] at h
    exact h
  · refine br_f (fun z => hd ((nI_eq (b := 1) (by omega) (by omega)).mp z)) (nm_r (sg_andn _ _) ?_)
    rw [iv_16']
    unfold nt_fc at h
    rw [if_neg hd] at h
    exact h
theorem yw_cellAfterS (K : nt_K P S T sg dr pe po im s0) {t s : Nat} (ht : t < T) {post : Int32 → Prop} (h : post (nI (nt_fr sg dr pe po t s))) : wpY_cellAfter post (yt P S T sg dr pe po im s0 tb vd pc cm cc yr ym yn yi yp yv) (nI t) (nI (s / 16)) (nI (s % 16)) := yw_cellAfter K ht h
theorem yw_excited (K : nt_K P S T sg dr pe po im s0) {i m c : Nat} (hi : i < 4) (hm : m < 64) {post : Int32 → Prop} (h : post (nI (nt_ex T sg dr pe po i m c).toNat)) : wpY_excited post (yt P S T sg dr pe po im s0 tb vd pc cm cc yr ym yn yi yp yv) (nI i) (nI m) (nI c) := by
  have hT := K.2.2.1
  let f : Nat → Bool := fun t => (sg t == i) && (nt_en pe t m && (!(nt_un pe po t m) && !(nt_ic sg dr t c)))
  refine loop_0 (σ := Unit) (fun n t _ => wY_excited_3 post (nI i) (nI m) (nI c) (nI P) (nI S) (nI (s0 / 16)) (nI (s0 % 16)) (nI T) vd pc cm cc (fun j => nI (sg j)) (fun j => nI (dr j)) (fun j => nI (pe j)) (fun j => nI (po j)) (fun j => nI (im.testBit j).toNat) tb yr ym yn yi yp yv n (nI t)) (fun t _ => ∀ j, j < t → f j = false) T () (fun j hj => absurd hj (Nat.not_lt_zero _)) ?_ ?_
  · intro n _ hI
    have e : nt_ex T sg dr pe po i m c = false := ex_not.mpr hI
    rw [e] at h
    exact br_t (nI_le (Nat.le_refl _) (by omega)) h
  · intro n t _ ht hI ih
    have hB := iv_bS K.2.1.2 K.2.2.2.1 t
    have hn : f t = false → wY_excited_3 post (nI i) (nI m) (nI c) (nI P) (nI S) (nI (s0 / 16)) (nI (s0 % 16)) (nI T) vd pc cm cc (fun j => nI (sg j)) (fun j => nI (dr j)) (fun j => nI (pe j)) (fun j => nI (po j)) (fun j => nI (im.testBit j).toNat) tb yr ym yn yi yp yv n (nI (t + 1)) := fun hf => ih () (lt_s hI hf)
    refine br_f (nI_ge ht (by omega)) ⟨vp_in_nI (by omega) (by decide), ?_⟩
    try dsimp only
    rw [nI_clamp (by omega)]
    by_cases hs : sg t = i
    · refine br_t (by rw [hs]) (yw_enabled K ht hm (bo_br (fun h1 => nm_r (nI_1 t) (hn ?_)) (fun h1 => ?_)))
      · show ((sg t == i) && (nt_en pe t m && _)) = false
        rw [h1]; simp
      refine yw_unsafe K ht hm (bo_br (fun h2 => ?_) (fun h2 => nm_r (nI_1 t) (hn ?_)))
      · refine yw_inconsistent K ht (bo_br (fun h3 => ?_) (fun h3 => nm_r (nI_1 t) (hn ?_)))
        · have e : nt_ex T sg dr pe po i m c = true := ex_iff.mpr ⟨t, ht, by rw [h1, h2, h3, hs, beq_self_eq_true]; rfl⟩
          rw [e] at h
          exact h
        · show ((sg t == i) && (nt_en pe t m && (_ && !(nt_ic sg dr t c)))) = false
          rw [h3]; simp
      · show ((sg t == i) && (nt_en pe t m && (!(nt_un pe po t m) && _))) = false
        rw [h2]; simp
    · refine br_f (fun z => hs ((nI_eq (by omega) (by omega)).mp z)) (nm_r (nI_1 t) (hn ?_))
      show ((sg t == i) && _) = false
      rw [beq_eq_false_iff_ne.mpr hs]; rfl
/-- counts of the markings of a code -/
theorem yw_valueFor (K : nt_K P S T sg dr pe po im s0) {R : Nat → Bool} (hR : ∀ s, s < 1024 → yr s = nI (R s).toNat) {i c : Nat} (hi : i < 4) (hc : c < 16) {post : Int32 → Prop} (h : post (nI (nt_v T sg dr pe po R i c))) : wpY_valueFor post (yt P S T sg dr pe po im s0 tb vd pc cm cc yr ym yn yi yp yv) (nI i) (nI c) := by
  let f : Nat → Bool := fun m => R (16 * m + c)
  let g : Nat → Bool := fun m => R (16 * m + c) && nt_ex T sg dr pe po i m c
  refine loop_0 (σ := Unit) (fun n m _ => wY_valueFor_8 post (nI i) (nI c) (nI P) (nI S) (nI (s0 / 16)) (nI (s0 % 16)) (nI T) vd pc cm cc (fun j => nI (sg j)) (fun j => nI (dr j)) (fun j => nI (pe j)) (fun j => nI (po j)) (fun j => nI (im.testBit j).toNat) tb yr ym yn yi yp yv n (nI (ct_n f m)) (nI (ct_n g m)) (nI m)) (fun _ _ => True) 64 () trivial ?_ ?_
  · intro n _ _
    have hf := ct_le f 64
    have hg := ct_le g 64
    refine br_t (nI_le (Nat.le_refl 64) (by omega)) (nm_r (sg_bitN c (by omega)) ?_)
    have seen : nv_seen R c = false ↔ ct_n f 64 = 0 := by
      unfold nv_seen
      rw [ex_not]
      constructor
      · intro z
        rw [ct_congr (f := f) (g := fun _ => false) z]
        decide +kernel
      · intro z k hk
        apply bo_nt
        intro hf
        have := ct_pos (f := f) hk hf
        omega
    have none : nv_any R (fun m => nt_ex T sg dr pe po i m c) c = false ↔ ct_n g 64 = 0 := by
      unfold nv_any
      rw [ex_not]
      constructor
      · intro z
        rw [ct_congr (f := g) (g := fun _ => false) z]
        decide +kernel
      · intro z k hk
        apply bo_nt
        intro hf
        have := ct_pos (f := g) hk hf
        omega
    have all : nv_all R (fun m => nt_ex T sg dr pe po i m c) c = true ↔ ct_n g 64 = ct_n f 64 := by
      unfold nv_all
      rw [al_iff]
      constructor
      · intro z
        refine ct_congr (fun k hk => ?_)
        have := z k hk
        show (R (16 * k + c) && nt_ex T sg dr pe po i k c) = R (16 * k + c)
        cases hr : R (16 * k + c)
        · rfl
        · rw [hr] at this
          exact this
      · intro z k hk
        cases hr : R (16 * k + c)
        · rfl
        · cases he : nt_ex T sg dr pe po i k c
          · exfalso
            have := ct_lt (f := g) (g := f) (n := 64) (k := k) (fun j hj hgj => by
              have h2 : (R (16 * j + c) && nt_ex T sg dr pe po i j c) = true := hgj
              rw [Bool.and_eq_true] at h2
              exact h2.1) hk (by show (R (16 * k + c) && nt_ex T sg dr pe po i k c) = false; rw [he, Bool.and_false]) hr
            omega
          · exact he
    unfold nt_v at h
    by_cases h1 : nv_seen R c = false
    · rw [if_pos h1] at h
      exact br_t (by rw [seen.mp h1]; rfl) h
    · rw [if_neg h1] at h
      refine br_f (fun z => h1 (seen.mpr ((iv_n0 (by omega)).mp z))) ?_
      by_cases h2 : nv_all R (fun m => nt_ex T sg dr pe po i m c) c = true
      · rw [if_pos h2] at h
        refine br_t (by rw [all.mp h2]) ?_
        have e : (1 : Int32) - nI (c.testBit i).toNat = nI (1 - (c.testBit i).toNat) := pk_sub (a := 1) (by have := sg_toNat_lt (c.testBit i); omega)
        rw [e]
        exact h
      · rw [if_neg h2] at h
        refine br_f (fun z => h2 (all.mpr ((nI_eq (by omega) (by omega)).mp z))) ?_
        by_cases h3 : nv_any R (fun m => nt_ex T sg dr pe po i m c) c = false
        · rw [if_pos h3] at h
          exact br_t (by rw [none.mp h3]; rfl) h
        · rw [if_neg h3] at h
          exact br_f (fun z => h3 (none.mpr ((iv_n0 (by omega)).mp z))) h
  · intro n m _ hm _ ih
    have hn := ih () trivial
    have e16 : 16 * nI m + nI c = nI (16 * m + c) := iv_16' m c
    refine br_f (nI_ge hm (by decide)) ?_
    try dsimp only
    rw [e16, nI_clamp (by omega), hR _ (by omega)]
    refine ⟨vp_in_nI (by omega) (by decide), bo_br (fun h1 => nm_r (nI_1 m) ?_) (fun h1 => nm_r (nI_1 _) (yw_excited K hi hm (bo_br (fun h2 => nm_r (nI_1 m) ?_) (fun h2 => nm_r (nI_1 _) (nm_r (nI_1 m) ?_)))))⟩
    · have e1 : ct_n f (m + 1) = ct_n f m := by show ct_n f m + (R (16 * m + c)).toNat = _; rw [h1]; rfl
      have e2 : ct_n g (m + 1) = ct_n g m := by show ct_n g m + (R (16 * m + c) && _).toNat = _; rw [h1]; rfl
      rw [e1, e2] at hn
      exact hn
    · have e1 : ct_n f (m + 1) = ct_n f m + 1 := by show ct_n f m + (R (16 * m + c)).toNat = _; rw [h1]; rfl
      have e2 : ct_n g (m + 1) = ct_n g m := by show ct_n g m + (R (16 * m + c) && nt_ex T sg dr pe po i m c).toNat = _; rw [h2, Bool.and_false]; rfl
      rw [e1, e2] at hn
      exact hn
    · have e1 : ct_n f (m + 1) = ct_n f m + 1 := by show ct_n f m + (R (16 * m + c)).toNat = _; rw [h1]; rfl
      have e2 : ct_n g (m + 1) = ct_n g m + 1 := by show ct_n g m + (R (16 * m + c) && nt_ex T sg dr pe po i m c).toNat = _; rw [h1, h2]; rfl
      rw [e1, e2] at hn
      exact hn
end
