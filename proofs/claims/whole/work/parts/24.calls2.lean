/-! addTransition, explore -/
section
variable {P S T : Nat} {sg dr pe po : Nat → Nat} {im s0 : Nat} {tb : Nat → Int32}
variable {vd us ic rc pc mc ln lh ls cm cc : Int32} {ar asn aa ao apt act acu aco aq apc af ad am yr ym yn yi yp yv : Nat → Int32}
/-- the arguments of a transition that is taken -/
def ad_G (P S : Nat) (v1 v2 v3 v4 : Int32) : Prop := ∃ i d p q, i < S ∧ d < 2 ∧ (1 ≤ p ∧ p < 2 ^ P) ∧ (1 ≤ q ∧ q < 2 ^ P) ∧ v1 = nI i ∧ v2 = nI d ∧ v3 = nI p ∧ v4 = nI q
theorem iv_01 {x : Int32} (h1 : ¬ x < 0) (h2 : x ≤ 1) : ∃ d, d < 2 ∧ x = nI d := by
  obtain ⟨j, hj, e⟩ := nI_of2 (n := 1) (M := 1) (by decide) h1 h2
  exact ⟨j, by omega, e⟩
theorem xw_addBad (K : nt_K P S T sg dr pe po im s0) (hT : T < 12) {v1 v2 v3 v4 : Int32} (hb : ¬ ad_G P S v1 v2 v3 v4) {post : Int32 → SX → Prop} (h : post (-1) (xt P S T sg dr pe po im s0 tb vd us ic rc pc mc ln lh ls ar asn aa ao apt act acu aco aq apc af ad am)) : wpX_addTransition post (xt P S T sg dr pe po im s0 tb vd us ic rc pc mc ln lh ls ar asn aa ao apt act acu aco aq apc af ad am) v1 v2 v3 v4 := by
  have hp : 2 ^ P ≤ 2 ^ 6 := Nat.pow_le_pow_right (by decide) K.1.2
  have hS := K.2.1
  refine br_t (nI_lt (b := 12) hT (by decide)) ?_
  rcases iv_ix v1 (n := S) (by omega) with ⟨i, hi, rfl⟩ | hx
  · refine xw_isSignal_t hS.2 hi (br_f (by decide) ?_)
    by_cases h1 : v2 < 0
    · exact br_t h1 h
    · refine br_f h1 ?_
      by_cases h2 : v2 ≤ 1
      · refine br_t h2 ?_
        by_cases h3 : v3 = 0
        · exact br_t h3 h
        · refine br_f h3 ?_
          by_cases h4 : v4 = 0
          · exact br_t h4 h
          · refine br_f h4 ?_
            rcases iv_ix v3 (n := 2 ^ P) (by omega) with ⟨p, hp3, rfl⟩ | hx3
            · refine xw_isMarking_t K.1.2 hp3 (br_f (by decide) ?_)
              rcases iv_ix v4 (n := 2 ^ P) (by omega) with ⟨q, hp4, rfl⟩ | hx4
              · exfalso
                obtain ⟨d, hd, e⟩ := iv_01 h1 h2
                have a3 : p ≠ 0 := by intro z; subst z; exact h3 rfl
                have a4 : q ≠ 0 := by intro z; subst z; exact h4 rfl
                exact hb ⟨i, d, p, q, hi, hd, ⟨by omega, hp3⟩, ⟨by omega, hp4⟩, rfl, e, rfl, rfl⟩
              · exact xw_isMarking_f hx4 (br_t rfl h)
            · exact xw_isMarking_f hx3 (br_t rfl h)
      · exact br_f h2 h
  · exact xw_isSignal_f hx (br_t rfl h)
theorem iv_lt1 {x : Int32} (h : ¬ x < 1) : ¬ x < 0 ∧ ¬ x = 0 := by
  rw [Int32.lt_iff_toInt_lt] at h
  have e1 : (1 : Int32).toInt = 1 := by decide
  have e0 : (0 : Int32).toInt = 0 := by decide
  refine ⟨fun z => ?_, fun z => ?_⟩
  · rw [Int32.lt_iff_toInt_lt] at z
    omega
  · rw [z] at h
    omega
theorem yw_ad47 (K : nt_K P S T sg dr pe po im s0) {v1 v2 v3 v4 : Int32} {post : Int32 → SY → Prop} (hb : ¬ (∃ p q, (1 ≤ p ∧ p < 2 ^ P) ∧ (1 ≤ q ∧ q < 2 ^ P) ∧ v3 = nI p ∧ v4 = nI q)) (h : post (-1) (yt P S T sg dr pe po im s0 tb vd pc cm cc yr ym yn yi yp yv)) : wY_addTransition_47 post v1 v2 v3 v4 (nI (2 ^ P - 1)) (nI P) (nI S) (nI (s0 / 16)) (nI (s0 % 16)) (nI T) vd pc cm cc (fun j => nI (sg j)) (fun j => nI (dr j)) (fun j => nI (pe j)) (fun j => nI (po j)) (fun j => nI (im.testBit j).toNat) tb yr ym yn yi yp yv := by
  have hp : 2 ^ P ≤ 2 ^ 6 := Nat.pow_le_pow_right (by decide) K.1.2
  have hp0 : 0 < 2 ^ P := Nat.two_pow_pos P
  by_cases h1 : v3 < 1
  · exact br_t h1 h
  · refine br_f h1 ?_
    by_cases h2 : nI (2 ^ P - 1) < v3
    · exact br_t h2 h
    · refine br_f h2 ?_
      by_cases h3 : v4 < 1
      · exact br_t h3 h
      · refine br_f h3 ?_
        by_cases h4 : v4 ≤ nI (2 ^ P - 1)
        · exfalso
          obtain ⟨a1, a2⟩ := iv_lt1 h1
          obtain ⟨b1, b2⟩ := iv_lt1 h3
          obtain ⟨p, hp1, rfl⟩ := nI_of a1
          obtain ⟨q, hq1, rfl⟩ := nI_of b1
          rw [nI_ltI (by omega) hp1] at h2
          rw [nI_leI hq1 (by omega)] at h4
          rw [iv_n0 hp1] at a2
          rw [iv_n0 hq1] at b2
          exact hb ⟨p, q, ⟨by omega, by omega⟩, ⟨by omega, by omega⟩, rfl, rfl⟩
        · exact br_f h4 h
theorem yw_addBad (K : nt_K P S T sg dr pe po im s0) (hT : T < 12) {v1 v2 v3 v4 : Int32} (hb : ¬ ad_G P S v1 v2 v3 v4) {post : Int32 → SY → Prop} (h : post (-1) (yt P S T sg dr pe po im s0 tb vd pc cm cc yr ym yn yi yp yv)) : wpY_addTransition post (yt P S T sg dr pe po im s0 tb vd pc cm cc yr ym yn yi yp yv) v1 v2 v3 v4 := by
  have hp : 2 ^ P ≤ 2 ^ 6 := Nat.pow_le_pow_right (by decide) K.1.2
  have hp0 : 0 < 2 ^ P := Nat.two_pow_pos P
  have hP := K.1.2
  have hS := K.2.1
  have e : ((1 : Int32) <<< (nI P &&& 31)) - 1 = nI (2 ^ P - 1) := by
    rw [sg_s1 (by omega)]
    exact pk_sub (b := 1) (by omega)
  refine br_f (fun z => ?_) (nm_r e ?_)
  · have := (nI_eq (b := 12) (by omega) (by omega)).mp z
    omega
  · rcases iv_ix v1 (n := S) (by omega) with ⟨i, hi, rfl⟩ | hx
    · refine rg_t hi (by omega) ?_
      have h47 : ∀ d, d < 2 → v2 = nI d → wY_addTransition_47 post (nI i) v2 v3 v4 (nI (2 ^ P - 1)) (nI P) (nI S) (nI (s0 / 16)) (nI (s0 % 16)) (nI T) vd pc cm cc (fun j => nI (sg j)) (fun j => nI (dr j)) (fun j => nI (pe j)) (fun j => nI (po j)) (fun j => nI (im.testBit j).toNat) tb yr ym yn yi yp yv := by
        intro d hd ed
        refine yw_ad47 K (fun ⟨p, q, a, b, c, f⟩ => hb ⟨i, d, p, q, hi, hd, a, b, rfl, ed, c, f⟩) h
      by_cases h0 : v2 = 0
      · exact br_t h0 (h47 0 (by omega) h0)
      · refine br_f h0 ?_
        by_cases h1 : v2 = 1
        · exact br_t h1 (h47 1 (by omega) h1)
        · exact br_f h1 h
    · exact rg_f hx h
theorem iv_e01 {e : Nat} (he : e < 2) {A B : Prop} (a : A) : (nI e = 0 → A) ∧ (¬ nI e = 0 → ((nI e = 1 → A) ∧ (¬ nI e = 1 → B))) := by
  have : e = 0 ∨ e = 1 := by omega
  rcases this with rfl | rfl
  · exact br_t rfl a
  · exact br_f (by decide) (br_t rfl a)
theorem i_vc_addTransition {k : Nat} {u : SX} {v : SY} (I : i_Rel k u v) (hk : k + 5 ≤ 2562) (v1 : Int32) (v2 : Int32) (v3 : Int32) (v4 : Int32) : wpX_addTransition (fun r u' => wpY_addTransition (fun r' v' => r' = r ∧ i_Rel (k + 5) u' v') v v1 v2 v3 v4) u v1 v2 v3 v4 := by
  obtain ⟨P, S, T, sg, dr, pe, po, im, s0, tb, d, us, ic, rc, pc, mc, ln, lh, ls, ar, asn, aa, ao, apt, act, acu, aco, aq, apc, af, ad, am, pcy, cm, cc, yr, ym, yn, yi, yp, yv, rfl, rfl, K, G, V⟩ := I
  have hT := K.2.2.1
  have hS := K.2.1
  have hP := K.1.2
  have hp : 2 ^ P ≤ 2 ^ 6 := Nat.pow_le_pow_right (by decide) K.1.2
  have hp0 : 0 < 2 ^ P := Nat.two_pow_pos P
  by_cases h12 : T = 12
  · subst h12
    exact br_f (nI_nlt (b := 12) (Nat.le_refl _) (by decide)) (br_t rfl ⟨rfl, re_mk K G V⟩)
  · by_cases hg : ad_G P S v1 v2 v3 v4
    · obtain ⟨i, e, p, q, hi, he, ⟨hp1, hp2⟩, ⟨hq1, hq2⟩, rfl, rfl, rfl, rfl⟩ := hg
      have hv : vp_in (nI T) 12 := vp_in_nI (by omega) (by decide)
      have et : ((1 : Int32) <<< (nI P &&& 31)) - 1 = nI (2 ^ P - 1) := by
        rw [sg_s1 (by omega)]
        exact pk_sub (b := 1) (by omega)
      have K' : nt_K P S (T + 1) (fun j => if j = T then i else sg j) (fun j => if j = T then e else dr j) (fun j => if j = T then p else pe j) (fun j => if j = T then q else po j) im s0 := by
        refine ⟨K.1, K.2.1, by omega, fun t => ?_, K.2.2.2.2⟩
        have hB := K.2.2.2.1 t
        dsimp only
        by_cases et : t = T
        · rw [if_pos et, if_pos et, if_pos et, if_pos et]
          exact ⟨hi, by omega, by omega, by omega⟩
        · rw [if_neg et, if_neg et, if_neg et, if_neg et]
          exact hB
      unfold wpX_addTransition wpY_addTransition wY_addTransition_47 xt yt
      dsimp only
      rw [nI_clamp (by omega), iv_up, iv_up, iv_up, iv_up]
      refine br_t (nI_lt (b := 12) (by omega) (by decide)) ?_
      refine xw_isSignal_t hS.2 hi ?_
      refine br_f (by decide) (br_f (nI_pos (by omega)) (br_t (nI_le (b := 1) (by omega) (by decide)) (br_f (nI_ne0 (by omega) (by omega)) (br_f (nI_ne0 (by omega) (by omega)) ?_))))
      refine xw_isMarking_t hP hp2 ?_
      refine br_f (by decide) ?_
      refine xw_isMarking_t hP hq2 ?_
      refine br_f (by decide) ⟨hv, nm_e ⟨hv, nm_e ⟨hv, nm_e ⟨hv, nm_e (nm_r (nI_1 T) ?_)⟩⟩⟩⟩
      refine br_f (fun z => h12 ((nI_eq (b := 12) (by omega) (by omega)).mp z)) (nm_r et (rg_t hi (by omega) ?_))
      refine iv_e01 he ?_
      refine br_f (nI_nlt (b := 1) hp1 (by omega)) (br_f (nI_nlt (a := 2 ^ P - 1) (b := p) (by omega) (by omega)) (br_f (nI_nlt (b := 1) hq1 (by omega)) (br_t (nI_le (a := q) (b := 2 ^ P - 1) (by omega) (by omega)) ?_)))
      exact ⟨hv, nm_e ⟨hv, nm_e ⟨hv, nm_e ⟨hv, nm_e (nm_r (nI_1 T) ⟨nI_pred T, re_mk (d := 0) (k := k + 5) (us := us) (ic := ic) (rc := rc) (pc := pc) (mc := mc) (ln := ln) (lh := lh) (ls := ls) (ar := ar) (asn := asn) (aa := aa) (ao := ao) (apt := apt) (act := act) (acu := acu) (aco := aco) (aq := aq) (apc := apc) (af := af) (ad := ad) (am := am) (pcy := pcy) (cm := cm) (cc := cc) (yr := yr) (ym := ym) (yn := yn) (yi := yi) (yp := yp) (yv := yv) K' G ⟨by omega, Or.inl rfl⟩⟩)⟩⟩⟩⟩
    · exact xw_addBad K (by omega) hg (yw_addBad K (by omega) hg ⟨rfl, re_mk K G V⟩)
theorem nt_J_lt (S T : Nat) (sg dr pe po : Nat → Nat) (im : Nat) (R : Nat → Bool) : nt_J S T sg dr pe po im R < 5 ∧ nt_J S T sg dr pe po im R ≠ 0 := by
  unfold nt_J
  split
  · omega
  · split
    · omega
    · split <;> omega
theorem nt_J_cong {R Q : Nat → Bool} (hS : S ≤ 4) (h : ∀ s, s < 1024 → R s = Q s) : nt_J S T sg dr pe po im R = nt_J S T sg dr pe po im Q := by
  have e : ex_n (cf_f S im.testBit (nt_v T sg dr pe po R)) (16 * S) = ex_n (cf_f S im.testBit (nt_v T sg dr pe po Q)) (16 * S) := ex_congr (fun k hk => by
    unfold cf_f
    rw [nt_v_cong h (Nat.mod_lt _ (by decide))])
  unfold nt_J
  rw [nt_U_cong h, nt_I_cong h, e]
theorem i_vc_explore {k : Nat} {u : SX} {v : SY} (I : i_Rel k u v) (hk : k + 5 ≤ 2562) : wpX_explore (fun r u' => wpY_explore (fun r' v' => r' = r ∧ i_Rel (k + 5) u' v') v) u := by
  obtain ⟨P, S, T, sg, dr, pe, po, im, s0, tb, d, us, ic, rc, pc, mc, ln, lh, ls, ar, asn, aa, ao, apt, act, acu, aco, aq, apc, af, ad, am, pcy, cm, cc, yr, ym, yn, yi, yp, yv, rfl, rfl, K, G, V⟩ := I
  have hd := V.1
  have hS := K.2.1
  by_cases h0 : d = 0
  · subst h0
    refine br_t rfl (xw_walkNet K (fun R ar' aq' a1 a2 => xw_noteExcitement K a1 (fun asn' aa' ao' b1 => xw_judge K b1 ?_)))
    obtain ⟨j1, j2⟩ := nt_J_lt S T sg dr pe po im R
    by_cases hj : nt_J S T sg dr pe po im R = 1
    · refine br_t (by rw [hj]; rfl) (xw_synthesise K b1 (fun pc' apt' act' acu' aco' apc' af' c1 => yw_explore K (fun Q yr' q1 q2 => ?_)))
      have e := rc_uniq q2 a2
      rw [nt_J_cong hS.2 e]
      exact ⟨rfl, re_mk K G ⟨j1, Or.inr ⟨R, a2, a1, fun s hs => by rw [q1 s hs, e s hs], rfl, b1, fun _ => c1⟩⟩⟩
    · refine br_f (fun z => hj ((nI_eq (b := 1) (by omega) (by omega)).mp z)) (yw_explore K (fun Q yr' q1 q2 => ?_))
      have e := rc_uniq q2 a2
      rw [nt_J_cong hS.2 e]
      exact ⟨rfl, re_mk K G ⟨j1, Or.inr ⟨R, a2, a1, fun s hs => by rw [q1 s hs, e s hs], rfl, b1, fun z => absurd z hj⟩⟩⟩
  · have hn : ¬ nI d = 0 := fun z => h0 ((iv_n0 (by omega)).mp z)
    exact br_f hn (br_f hn ⟨rfl, re_mk K G V⟩)
end
