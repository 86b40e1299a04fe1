/-! the reference's explore, its end -/
section
variable {P S T : Nat} {sg dr pe po : Nat → Nat} {im s0 : Nat} {tb : Nat → Int32}
variable {vd us ic rc pc mc ln lh ls cm cc : Int32} {ar asn aa ao apt act acu aco aq apc af ad am yr ym yn yi yp yv : Nat → Int32}
theorem yw_judge (K : nt_K P S T sg dr pe po im s0) {R : Nat → Bool} (hR : rp_A yr R) {post : Int32 → SY → Prop}
    (h : post (nI (nt_J S T sg dr pe po im R)) (yt P S T sg dr pe po im s0 tb (nI (nt_J S T sg dr pe po im R)) pc cm cc yr ym yn yi yp yv)) : wY_explore_78 post (nI P) (nI S) (nI (s0 / 16)) (nI (s0 % 16)) (nI T) vd pc cm cc (fun j => nI (sg j)) (fun j => nI (dr j)) (fun j => nI (pe j)) (fun j => nI (po j)) (fun j => nI (im.testBit j).toNat) tb yr ym yn yi yp yv := by
  have hS := K.2.1
  unfold nt_J at h
  refine yw_someUnsafe K hR (bo_br (fun h1 => yw_someInconsistent K hR (bo_br (fun h2 => yw_leastConflict K hR (fun r hr => ?_)) (fun h2 => ?_))) (fun h1 => ?_))
  · rw [if_neg (by rw [h1]; simp), if_neg (by rw [h2]; simp)] at h
    have hb := ls_bad (by omega) hr
    by_cases h3 : ex_n (cf_f S im.testBit (nt_v T sg dr pe po R)) (16 * S) = true
    · rw [if_pos h3] at h
      exact br_f (fun z => by rw [hb.mp z] at h3; exact absurd h3 (by simp)) h
    · rw [if_neg h3] at h
      exact br_t (hb.mpr (bo_nt h3)) h
  · rw [if_neg (by rw [h1]; simp), if_pos h2] at h
    exact h
  · rw [if_pos h1] at h
    exact h
theorem yw_clear (q : Nat → Int32) (i : Nat) (h : ∀ k, k < i → q k = 0) : ∀ k, k < i + 1 → upd q i (vp_nar .boolean 0) k = 0 := by
  intro k hk
  by_cases e : k = i
  · subst e
    rw [pk_us]
    exact bo_vn false
  · rw [pk_un e]
    exact h k (by omega)
theorem yw_s0 {s0 : Nat} : 16 * nI (s0 / 16) + nI (s0 % 16) = nI s0 := by
  rw [iv_16']
  congr 1
  omega
theorem yw_explore (K : nt_K P S T sg dr pe po im s0) {post : Int32 → SY → Prop}
    (h : ∀ (R : Nat → Bool) (yr' : Nat → Int32), rp_A yr' R → rc_is (nt_st T sg dr pe po) s0 R → post (nI (nt_J S T sg dr pe po im R)) (yt P S T sg dr pe po im s0 tb (nI (nt_J S T sg dr pe po im R)) pc cm cc yr' ym yn yi yp yv)) : wpY_explore post (yt P S T sg dr pe po im s0 tb 0 pc cm cc yr ym yn yi yp yv) := by
  have hs0 := K.2.2.2.2.2.1
  have hb := nt_st_lt (T := T) K.2.1.2 K.2.2.2.1
  refine br_t rfl ?_
  refine loop_0 (σ := Nat → Int32) (fun n i q => wY_explore_14 post (nI P) (nI S) (nI (s0 / 16)) (nI (s0 % 16)) (nI T) 0 pc cm cc n (nI i) (fun j => nI (sg j)) (fun j => nI (dr j)) (fun j => nI (pe j)) (fun j => nI (po j)) (fun j => nI (im.testBit j).toNat) tb q ym yn yi yp yv) (fun i q => ∀ k, k < i → q k = 0) 1024 yr (fun k hk => absurd hk (Nat.not_lt_zero _)) ?_ ?_
  · intro n q hq
    refine br_t (nI_le (Nat.le_refl 1024) (by decide)) ?_
    try dsimp only
    rw [yw_s0, nI_clamp (by omega)]
    refine ⟨vp_in_nI hs0 (by decide), nm_e ?_⟩
    have hrep : rp_A (upd q s0 (vp_nar .boolean 1)) (ct_u (fun _ => false) s0) := rp_u (fun s hs => hq s hs) s0
    refine loop_0 (σ := Bool × (Nat → Bool) × (Nat → Int32)) (fun n k s => wY_explore_56 post n (nI s.1.toNat) (nI k) (nI P) (nI S) (nI (s0 / 16)) (nI (s0 % 16)) (nI T) 0 pc cm cc (fun j => nI (sg j)) (fun j => nI (dr j)) (fun j => nI (pe j)) (fun j => nI (po j)) (fun j => nI (im.testBit j).toNat) tb s.2.2 ym yn yi yp yv) (fun k s => rp_A s.2.2 s.2.1 ∧ sv_I (nt_st T sg dr pe po) s0 s.2.1 s.1 k) 1024 (true, ct_u (fun _ => false) s0, _) ⟨hrep, sv_0 _ hs0⟩ ?_ ?_
    · rintro n ⟨g, R, yr'⟩ ⟨hA, hV⟩
      exact br_t (nI_le (Nat.le_refl 1024) (by decide)) (yw_judge K hA (h R yr' hA (sv_end hV (Or.inr (Nat.le_refl _)) hb hs0)))
    · rintro n k ⟨g, R, yr'⟩ hk ⟨hA, hV⟩ ih
      refine br_f (nI_ge hk (by decide)) ?_
      cases g
      · exact br_t rfl (yw_judge K hA (h R yr' hA (sv_end hV (Or.inl rfl) hb hs0)))
      · refine br_f (show ¬ nI true.toNat = 0 from by decide) (yw_sweepReach K hA hV.1 hV.2.1 (fun g2 R2 yr2 hA2 hI2 => ?_))
        exact nm_r (nI_1 k) (ih (g2, R2, yr2) ⟨hA2, sv_step hV hI2⟩)
  · intro n i q hi hq ih
    refine br_f (nI_ge hi (by decide)) ⟨vp_in_nI hi (by decide), ?_⟩
    rw [nI_clamp (by omega)]
    exact nm_e (nm_r (nI_1 i) (ih _ (yw_clear q i hq)))
/-- the count of the reached states -/
theorem yw_states (K : nt_K P S T sg dr pe po im s0) {R : Nat → Bool} (hR : rp_A yr R) (hv : ¬ vd = 0) {post : Int32 → Prop} (h : post (nI (ct_n R 1024))) : wpY_states post (yt P S T sg dr pe po im s0 tb vd pc cm cc yr ym yn yi yp yv) := by
  refine br_f hv ?_
  refine loop_0 (σ := Unit) (fun n s _ => wY_states_13 post (nI P) (nI S) (nI (s0 / 16)) (nI (s0 % 16)) (nI T) vd pc cm cc (fun j => nI (sg j)) (fun j => nI (dr j)) (fun j => nI (pe j)) (fun j => nI (po j)) (fun j => nI (im.testBit j).toNat) tb yr ym yn yi yp yv n (nI (ct_n R s)) (nI s)) (fun _ _ => True) 1024 () trivial ?_ ?_
  · intro n _ _
    exact br_t (nI_le (Nat.le_refl 1024) (by decide)) h
  · intro n s _ hs _ ih
    have hn := ih () trivial
    refine br_f (nI_ge hs (by decide)) ⟨vp_in_nI hs (by decide), ?_⟩
    rw [nI_clamp (by omega), hR s hs]
    refine bo_br (fun h1 => nm_r (nI_1 s) ?_) (fun h1 => nm_r (nI_1 _) (nm_r (nI_1 s) ?_))
    · have e1 : ct_n R (s + 1) = ct_n R s := by show ct_n R s + (R s).toNat = _; rw [h1]; rfl
      rw [e1] at hn
      exact hn
    · have e1 : ct_n R (s + 1) = ct_n R s + 1 := by show ct_n R s + (R s).toNat = _; rw [h1]; rfl
      rw [e1] at hn
      exact hn
end
