/-! primes, coverSize, coverCube, gate -/
section
variable {P S T : Nat} {sg dr pe po : Nat → Nat} {im s0 : Nat} {tb : Nat → Int32}
variable {vd us ic rc pc mc ln lh ls cm cc : Int32} {ar asn aa ao apt act acu aco aq apc af ad am yr ym yn yi yp yv : Nat → Int32}
theorem xw_hasCover_t (hS : S ≤ 4) {i : Nat} (hi : i < S) (hm : im.testBit i = false) {post : Int32 → Prop} (h : post 1) : wpX_hasCover post (xt P S T sg dr pe po im s0 tb (nI 1) us ic rc pc mc ln lh ls ar asn aa ao apt act acu aco aq apc af ad am) (nI i) := by
  refine br_t rfl (xw_isOutput hS hi (bo_br (fun z => ?_) (fun _ => h)))
  rw [hm] at z
  exact absurd z (by simp)
theorem xw_hasCover_f (hS : S ≤ 4) {d : Nat} (hd : d < 5) {x : Int32} (hb : ¬ (d = 1 ∧ ∃ i, i < S ∧ x = nI i ∧ im.testBit i = false)) {post : Int32 → Prop} (h : post 0) : wpX_hasCover post (xt P S T sg dr pe po im s0 tb (nI d) us ic rc pc mc ln lh ls ar asn aa ao apt act acu aco aq apc af ad am) x := by
  by_cases h1 : d = 1
  · subst h1
    refine br_t rfl ?_
    rcases iv_ix x (n := S) (by omega) with ⟨i, hi, rfl⟩ | hx
    · refine xw_isOutput hS hi (bo_br (fun _ => h) (fun z => ?_))
      exfalso
      refine hb ⟨rfl, i, hi, rfl, ?_⟩
      cases hm : im.testBit i
      · rfl
      · rw [hm] at z
        exact absurd z (by simp)
    · exact xw_isOutput_f hx (br_t rfl h)
  · exact br_f (fun z => h1 ((nI_eq (b := 1) (by omega) (by omega)).mp z)) h
theorem yw_isGood_t (hS : S ≤ 4) {i : Nat} (hi : i < S) (hm : im.testBit i = false) {post : Int32 → Prop} (h : post 1) : wpY_isGood post (yt P S T sg dr pe po im s0 tb (nI 1) pc cm cc yr ym yn yi yp yv) (nI i) := by
  refine br_t rfl (rl_t hi (by omega) ⟨vp_in_nI (by omega) (by decide), ?_⟩)
  try dsimp only
  rw [nI_clamp (by omega), hm]
  exact br_t rfl h
theorem yw_isGood_f (hS : S ≤ 4) {d : Nat} (hd : d < 5) {x : Int32} (hb : ¬ (d = 1 ∧ ∃ i, i < S ∧ x = nI i ∧ im.testBit i = false)) {post : Int32 → Prop} (h : post 0) : wpY_isGood post (yt P S T sg dr pe po im s0 tb (nI d) pc cm cc yr ym yn yi yp yv) x := by
  by_cases h1 : d = 1
  · subst h1
    refine br_t rfl ?_
    rcases iv_ix x (n := S) (by omega) with ⟨i, hi, rfl⟩ | hx
    · refine rl_t hi (by omega) ⟨vp_in_nI (by omega) (by decide), ?_⟩
      try dsimp only
      rw [nI_clamp (by omega)]
      exact bo_br (fun z => absurd ⟨rfl, i, hi, rfl, z⟩ hb) (fun _ => h)
    · exact rl_f hx h
  · exact br_f (fun z => h1 ((nI_eq (b := 1) (by omega) (by omega)).mp z)) h
theorem i_vc_primes {k : Nat} {u : SX} {v : SY} (I : i_Rel k u v) (hk : k + 5 ≤ 2562) (v1 : Int32) : wpX_primes (fun r => wpY_primes (fun r' v' => r' = r ∧ i_Rel (k + 5) u v') v v1) u v1 := by
  obtain ⟨P, S, T, sg, dr, pe, po, im, s0, tb, d, us, ic, rc, pc, mc, ln, lh, ls, ar, asn, aa, ao, apt, act, acu, aco, aq, apc, af, ad, am, pcy, cm, cc, yr, ym, yn, yi, yp, yv, rfl, rfl, K, G, V⟩ := I
  have hS := K.2.1
  by_cases hg : d = 1 ∧ ∃ i, i < S ∧ v1 = nI i ∧ im.testBit i = false
  · obtain ⟨rfl, i, hi, rfl, hm⟩ := hg
    rcases V.2 with z | ⟨R, r1, r2, r3, r4, r5, r6⟩
    · exact absurd z (by decide)
    · obtain ⟨x1, n, M, Cc, x2, x3, x4, x5, x6, x7, x8⟩ := r6 rfl i hi hm
      unfold wpX_primes xt
      dsimp only
      refine xw_hasCover_t hS.2 hi hm (br_f (by decide) ⟨vp_in_nI (by omega) (by decide), ?_⟩)
      rw [nI_clamp (by omega), x1]
      unfold wpY_primes yt
      dsimp only
      exact yw_isGood_t hS.2 hi hm (br_f (by decide) (yw_findPrimes K r3 (by omega) (fun yn' yi' yp' _ _ => ⟨rfl, re_mk K G V⟩)))
  · unfold wpX_primes wpY_primes xt yt
    dsimp only
    exact xw_hasCover_f hS.2 V.1 hg (br_t rfl (yw_isGood_f hS.2 V.1 hg (br_t rfl ⟨rfl, re_mk K G V⟩)))
theorem i_vc_coverSize {k : Nat} {u : SX} {v : SY} (I : i_Rel k u v) (hk : k + 5 ≤ 2562) (v1 : Int32) : wpX_coverSize (fun r => wpY_coverSize (fun r' v' => r' = r ∧ i_Rel (k + 5) u v') v v1) u v1 := by
  obtain ⟨P, S, T, sg, dr, pe, po, im, s0, tb, d, us, ic, rc, pc, mc, ln, lh, ls, ar, asn, aa, ao, apt, act, acu, aco, aq, apc, af, ad, am, pcy, cm, cc, yr, ym, yn, yi, yp, yv, rfl, rfl, K, G, V⟩ := I
  have hS := K.2.1
  by_cases hg : d = 1 ∧ ∃ i, i < S ∧ v1 = nI i ∧ im.testBit i = false
  · obtain ⟨rfl, i, hi, rfl, hm⟩ := hg
    rcases V.2 with z | ⟨R, r1, r2, r3, r4, r5, r6⟩
    · exact absurd z (by decide)
    · obtain ⟨x1, n, M, Cc, x2, x3, x4, x5, x6, x7, x8⟩ := r6 rfl i hi hm
      unfold wpX_coverSize xt
      dsimp only
      refine xw_hasCover_t hS.2 hi hm (br_f (by decide) ⟨vp_in_nI (by omega) (by decide), ?_⟩)
      rw [nI_clamp (by omega), x4]
      unfold wpY_coverSize yt
      dsimp only
      exact yw_isGood_t hS.2 hi hm (br_f (by decide) (yw_findCover K r3 (by omega) (fun n' M' yn' yi' yp' y1 y2 => ⟨congrArg nI (nu_Bu x2 y1).1.symm, re_mk K G V⟩)))
  · unfold wpX_coverSize wpY_coverSize xt yt
    dsimp only
    exact xw_hasCover_f hS.2 V.1 hg (br_t rfl (yw_isGood_f hS.2 V.1 hg (br_t rfl ⟨rfl, re_mk K G V⟩)))
/-- the k-th of the chosen -/
theorem yw_cc34 (K : nt_K P S T sg dr pe po im s0) {f : Nat → Nat} (hA : pq_A S f yp (3 ^ S)) {M k n : Nat} (hn : ct_n (nu_in (pq_n S f) M) (pq_n S f) = n) (hk : k < n) {post : Int32 → SY → Prop} (h : ∀ j, j < pq_n S f → nu_in (pq_n S f) M j = true → ct_n (nu_in (pq_n S f) M) j = k → post (nI (pq_q S f j)) (yt P S T sg dr pe po im s0 tb vd (nI (pq_n S f)) (nI M) cc yr ym yn yi yp yv)) :
    ∃ n34, wY_coverCube_34 post (nI k) (nI P) (nI S) (nI (s0 / 16)) (nI (s0 % 16)) (nI T) vd (nI (pq_n S f)) (nI M) cc (fun j => nI (sg j)) (fun j => nI (dr j)) (fun j => nI (pe j)) (fun j => nI (po j)) (fun j => nI (im.testBit j).toNat) tb yr ym yn yi yp yv n34 0 0 := by
  have h27 := pq_le K.2.1.1 K.2.1.2 f
  obtain ⟨q, q1, q2, q3⟩ := ct_enum (f := nu_in (pq_n S f) M) (n := pq_n S f) (k := k) (by omega)
  refine loop_0 (σ := Unit) (fun n34 j _ => wY_coverCube_34 post (nI k) (nI P) (nI S) (nI (s0 / 16)) (nI (s0 % 16)) (nI T) vd (nI (pq_n S f)) (nI M) cc (fun j => nI (sg j)) (fun j => nI (dr j)) (fun j => nI (pe j)) (fun j => nI (po j)) (fun j => nI (im.testBit j).toNat) tb yr ym yn yi yp yv n34 (nI (ct_n (nu_in (pq_n S f) M) j)) (nI j)) (fun j _ => j ≤ q) (pq_n S f) () (Nat.zero_le _) ?_ ?_
  · intro n34 _ hI
    omega
  · intro n34 j _ hj hI ih
    have hc := ct_le (nu_in (pq_n S f) M) j
    have hcn := ct_le (nu_in (pq_n S f) M) (pq_n S f)
    have hadd : ct_n (nu_in (pq_n S f) M) (j + 1) = ct_n (nu_in (pq_n S f) M) j + (nu_in (pq_n S f) M j).toNat := rfl
    refine br_f (nI_ge hj (by omega)) (yw_inSet h27 hj (bo_br (fun z => nm_r (nI_1 j) ?_) (fun z => ?_)))
    · have hne : j ≠ q := by intro e; subst e; rw [q2] at z; exact absurd z (by simp)
      have hx := ih () (by omega)
      rw [hadd, z] at hx
      exact hx
    · by_cases e : ct_n (nu_in (pq_n S f) M) j = k
      · refine br_t (by rw [e]) ⟨vp_in_nI (by omega) (by decide), ?_⟩
        rw [nI_clamp (by omega), pq_Aq hA hj]
        exact h j hj z e
      · have hne : j ≠ q := by intro e2; subst e2; exact e q3
        have hx := ih () (by omega)
        rw [hadd, z] at hx
        exact br_f (fun y => e ((nI_eq (by omega) (by omega)).mp y)) (nm_r (nI_1 _) (nm_r (nI_1 j) hx))
theorem i_vc_coverCube {k : Nat} {u : SX} {v : SY} (I : i_Rel k u v) (hk : k + 5 ≤ 2562) (v1 : Int32) (v2 : Int32) : wpX_coverCube (fun r => wpY_coverCube (fun r' v' => r' = r ∧ i_Rel (k + 5) u v') v v1 v2) u v1 v2 := by
  obtain ⟨P, S, T, sg, dr, pe, po, im, s0, tb, d, us, ic, rc, pc, mc, ln, lh, ls, ar, asn, aa, ao, apt, act, acu, aco, aq, apc, af, ad, am, pcy, cm, cc, yr, ym, yn, yi, yp, yv, rfl, rfl, K, G, V⟩ := I
  have hS := K.2.1
  by_cases hg : d = 1 ∧ ∃ i, i < S ∧ v1 = nI i ∧ im.testBit i = false
  · obtain ⟨rfl, i, hi, rfl, hm⟩ := hg
    rcases V.2 with z | ⟨R, r1, r2, r3, r4, r5, r6⟩
    · exact absurd z (by decide)
    · obtain ⟨x1, n, M, Cc, x2, x3, x4, x5, x6, x7, x8⟩ := r6 rfl i hi hm
      have hn : ct_n (nu_in (pq_n S (nt_v T sg dr pe po R i)) M) (pq_n S (nt_v T sg dr pe po R i)) = n := x2.2.2.1
      unfold wpX_coverCube xt
      dsimp only
      refine xw_hasCover_t hS.2 hi hm (br_f (by decide) ?_)
      rw [nI_clamp (n := i) (by omega), x4]
      unfold wpY_coverCube yt
      dsimp only
      by_cases h0 : v2 < 0
      · refine br_t h0 (yw_isGood_t hS.2 hi hm (br_f (by decide) (yw_findCover K r3 (by omega) (fun n' M' yn' yi' yp' y1 y2 => br_t h0 ⟨rfl, re_mk K G V⟩))))
      · refine br_f h0 ⟨vp_in_nI (by omega) (by decide), ?_⟩
        by_cases h1 : v2 < nI n
        · obtain ⟨c, hc, rfl⟩ := nI_of h0
          rw [nI_ltI hc (by omega)] at h1
          refine br_t (nI_lt h1 (by omega)) ?_
          rw [iv_16, nI_clamp (n := i * 16 + c) (by omega)]
          refine ⟨vp_in_nI (by omega) (by decide), yw_isGood_t hS.2 hi hm (br_f (by decide) (yw_findCover K r3 (by omega) (fun n' M' yn' yi' yp' y1 y2 => br_f h0 ?_)))⟩
          obtain ⟨e1, e2⟩ := nu_Bu x2 y1
          subst e1 e2
          refine br_t (nI_lt h1 (by omega)) (yw_cc34 K y2 hn h1 (fun j hj hin hct => ⟨?_, re_mk K G V⟩))
          have := x5 j hj hin
          rw [hct, Nat.mul_comm 16 i] at this
          exact this.symm
        · refine br_f h1 (yw_isGood_t hS.2 hi hm (br_f (by decide) (yw_findCover K r3 (by omega) (fun n' M' yn' yi' yp' y1 y2 => br_f h0 ?_))))
          obtain ⟨e1, e2⟩ := nu_Bu x2 y1
          subst e1 e2
          exact br_f h1 ⟨rfl, re_mk K G V⟩
  · unfold wpX_coverCube wpY_coverCube xt yt
    dsimp only
    exact xw_hasCover_f hS.2 V.1 hg (br_t rfl (yw_isGood_f hS.2 V.1 hg (br_t rfl ⟨rfl, re_mk K G V⟩)))
theorem i_vc_gate {k : Nat} {u : SX} {v : SY} (I : i_Rel k u v) (hk : k + 5 ≤ 2562) (v1 : Int32) (v2 : Int32) : wpX_gate (fun r => wpY_gate (fun r' v' => r' = r ∧ i_Rel (k + 5) u v') v v1 v2) u v1 v2 := by
  obtain ⟨P, S, T, sg, dr, pe, po, im, s0, tb, d, us, ic, rc, pc, mc, ln, lh, ls, ar, asn, aa, ao, apt, act, acu, aco, aq, apc, af, ad, am, pcy, cm, cc, yr, ym, yn, yi, yp, yv, rfl, rfl, K, G, V⟩ := I
  have hS := K.2.1
  have h16 := nt_pS hS.2
  by_cases hg : d = 1 ∧ ∃ i, i < S ∧ v1 = nI i ∧ im.testBit i = false
  · obtain ⟨rfl, i, hi, rfl, hm⟩ := hg
    rcases V.2 with z | ⟨R, r1, r2, r3, r4, r5, r6⟩
    · exact absurd z (by decide)
    · unfold wpX_gate wpY_gate xt yt
      dsimp only
      rw [sg_s1 (s := S) (by omega)]
      refine xw_hasCover_t hS.2 hi hm (br_f (by decide) ?_)
      rcases iv_ix v2 (n := 2 ^ S) (by omega) with ⟨c, hc, rfl⟩ | hy
      · refine xw_isCode_t hS.2 hc (br_f (by decide) (xw_gateOf (by omega) (by omega) (yw_isGood_t hS.2 hi hm (br_f (by decide) (rg_t hc (by omega) (yw_fillGate K r3 G hi (r6 rfl i hi hm) (fun pc' cm' cc' yn' yi' yp' yv' f1 f2 => ?_)))))))
        show vp_in (16 * nI i + nI c) 64 ∧ _
        rw [iv_16']
        refine ⟨vp_in_nI (by omega) (by decide), ?_⟩
        exact ⟨show yv' (nI (16 * i + c)).toNatClampNeg = _ from by rw [nI_clamp (by omega), f1 c hc], re_mk K G V⟩
      · exact xw_isCode_f hy (br_t rfl (yw_isGood_t hS.2 hi hm (br_f (by decide) (rg_f hy ⟨rfl, re_mk K G V⟩))))
  · unfold wpX_gate wpY_gate xt yt
    dsimp only
    exact xw_hasCover_f hS.2 V.1 hg (br_t rfl (yw_isGood_f hS.2 V.1 hg (br_t rfl ⟨rfl, re_mk K G V⟩)))
end
