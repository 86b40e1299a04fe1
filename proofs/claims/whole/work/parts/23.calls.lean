/-! the calls that change the net, and those that read -/
section
variable {P S T : Nat} {sg dr pe po : Nat → Nat} {im s0 : Nat} {tb : Nat → Int32}
variable {vd us ic rc pc mc ln lh ls cm cc : Int32} {ar asn aa ao apt act acu aco aq apc af ad am yr ym yn yi yp yv : Nat → Int32}
theorem rg_f {x : Int32} {n : Nat} (h : x < 0 ∨ nI n ≤ x) {A B : Prop} (a : A) : (x < 0 → A) ∧ (¬ x < 0 → ((x < nI n → B) ∧ (¬ x < nI n → A))) := by
  by_cases h0 : x < 0
  · exact br_t h0 a
  · rcases h with z | z
    · exact absurd z h0
    · exact br_f h0 (br_f (fun y => Int32.lt_irrefl (Int32.lt_of_lt_of_le y z)) a)
theorem rg_t {i n : Nat} (hi : i < n) (hn : n < 2 ^ 31) {A B : Prop} (b : B) : (nI i < 0 → A) ∧ (¬ nI i < 0 → ((nI i < nI n → B) ∧ (¬ nI i < nI n → A))) := br_f (nI_pos (by omega)) (br_t (nI_lt hi hn) b)
theorem rl_f {x : Int32} {n : Nat} (h : x < 0 ∨ nI n ≤ x) {A B : Prop} (a : A) : (x < 0 → A) ∧ (¬ x < 0 → ((nI n ≤ x → A) ∧ (¬ nI n ≤ x → B))) := by
  by_cases h0 : x < 0
  · exact br_t h0 a
  · rcases h with z | z
    · exact absurd z h0
    · exact br_f h0 (br_t z a)
theorem rl_t {i n : Nat} (hi : i < n) (hn : n < 2 ^ 31) {A B : Prop} (b : B) : (nI i < 0 → A) ∧ (¬ nI i < 0 → ((nI n ≤ nI i → A) ∧ (¬ nI n ≤ nI i → B))) := br_f (nI_pos (by omega)) (br_f (nI_ge hi hn) b)
theorem yw_inRange_t (K : nt_K P S T sg dr pe po im s0) {m c : Nat} (hm : m < 2 ^ P) (hc : c < 2 ^ S) {post : Int32 → Prop} (h : post 1) : wpY_inRange post (yt P S T sg dr pe po im s0 tb vd pc cm cc yr ym yn yi yp yv) (nI m) (nI c) := by
  have hp : 2 ^ P ≤ 2 ^ 6 := Nat.pow_le_pow_right (by decide) K.1.2
  have hs := nt_pS K.2.1.2
  have h1 := K.1.2
  have h2 := K.2.1.2
  unfold wpY_inRange yt
  dsimp only
  rw [sg_s1 (s := P) (by omega), sg_s1 (s := S) (by omega)]
  exact rl_t hm (by omega) (rl_t hc (by omega) h)
theorem yw_inRange_f (K : nt_K P S T sg dr pe po im s0) {x y : Int32} (hxy : (x < 0 ∨ nI (2 ^ P) ≤ x) ∨ (y < 0 ∨ nI (2 ^ S) ≤ y)) {post : Int32 → Prop} (h : post 0) : wpY_inRange post (yt P S T sg dr pe po im s0 tb vd pc cm cc yr ym yn yi yp yv) x y := by
  have hp : 2 ^ P ≤ 2 ^ 6 := Nat.pow_le_pow_right (by decide) K.1.2
  have hs := nt_pS K.2.1.2
  have h1 := K.1.2
  have h2 := K.2.1.2
  unfold wpY_inRange yt
  dsimp only
  rw [sg_s1 (s := P) (by omega), sg_s1 (s := S) (by omega)]
  rcases iv_ix x (n := 2 ^ P) (by omega) with ⟨m, hm, rfl⟩ | hx
  · refine rl_t hm (by omega) ?_
    rcases hxy with z | z
    · exfalso
      rcases z with z | z
      · exact nI_pos (by omega) z
      · exact nI_ge hm (by omega) z
    · exact rl_f z h
  · exact rl_f hx h
theorem i_vc_verdict {k : Nat} {u : SX} {v : SY} (I : i_Rel k u v) (hk : k + 5 ≤ 2562) : wpX_verdict (fun r => wpY_verdict (fun r' => r' = r ∧ i_Rel (k + 5) u v) v) u := by
  obtain ⟨P, S, T, sg, dr, pe, po, im, s0, tb, d, us, ic, rc, pc, mc, ln, lh, ls, ar, asn, aa, ao, apt, act, acu, aco, aq, apc, af, ad, am, pcy, cm, cc, yr, ym, yn, yi, yp, yv, rfl, rfl, K, G, V⟩ := I
  exact ⟨rfl, re_mk K G V⟩
theorem i_vc_states {k : Nat} {u : SX} {v : SY} (I : i_Rel k u v) (hk : k + 5 ≤ 2562) : wpX_states (fun r => wpY_states (fun r' => r' = r ∧ i_Rel (k + 5) u v) v) u := by
  obtain ⟨P, S, T, sg, dr, pe, po, im, s0, tb, d, us, ic, rc, pc, mc, ln, lh, ls, ar, asn, aa, ao, apt, act, acu, aco, aq, apc, af, ad, am, pcy, cm, cc, yr, ym, yn, yi, yp, yv, rfl, rfl, K, G, V⟩ := I
  have hd := V.1
  by_cases h0 : d = 0
  · subst h0
    exact br_t rfl (br_t rfl ⟨rfl, re_mk K G V⟩)
  · have hn : ¬ nI d = 0 := fun z => h0 ((iv_n0 (by omega)).mp z)
    rcases V.2 with z | ⟨R, r1, r2, r3, r4, r5, r6⟩
    · exact absurd z h0
    · refine br_f hn (yw_states K r3 hn ⟨r4.symm, re_mk K G V⟩)
theorem i_vc_isReachable {k : Nat} {u : SX} {v : SY} (I : i_Rel k u v) (hk : k + 5 ≤ 2562) (v1 : Int32) (v2 : Int32) : wpX_isReachable (fun r => wpY_isReachable (fun r' => r' = r ∧ i_Rel (k + 5) u v) v v1 v2) u v1 v2 := by
  obtain ⟨P, S, T, sg, dr, pe, po, im, s0, tb, d, us, ic, rc, pc, mc, ln, lh, ls, ar, asn, aa, ao, apt, act, acu, aco, aq, apc, af, ad, am, pcy, cm, cc, yr, ym, yn, yi, yp, yv, rfl, rfl, K, G, V⟩ := I
  have hd := V.1
  have hp : 2 ^ P ≤ 2 ^ 6 := Nat.pow_le_pow_right (by decide) K.1.2
  have hs := nt_pS K.2.1.2
  by_cases h0 : d = 0
  · subst h0
    exact br_t rfl (br_t rfl ⟨rfl, re_mk K G V⟩)
  · have hn : ¬ nI d = 0 := fun z => h0 ((iv_n0 (by omega)).mp z)
    rcases V.2 with z | ⟨R, r1, r2, r3, r4, r5, r6⟩
    · exact absurd z h0
    · refine br_f hn ?_
      rcases iv_ix v1 (n := 2 ^ P) (by omega) with ⟨m, hm, rfl⟩ | hx
      · refine xw_isMarking_t K.1.2 hm (br_f (by decide) ?_)
        rcases iv_ix v2 (n := 2 ^ S) (by omega) with ⟨c, hc, rfl⟩ | hy
        · refine xw_isCode_t K.2.1.2 hc (br_f (by decide) ?_)
          unfold wpX_stateOf
          dsimp only
          rw [iv_16, nI_clamp (by omega), r2 _ (by omega)]
          refine ⟨vp_in_nI (by omega) (by decide), bo_nar _, br_f hn (yw_inRange_t K hm hc (br_f (by decide) ?_))⟩
          rw [iv_16', nI_clamp (by omega), r3 _ (by omega), Nat.mul_comm 16 m]
          exact ⟨vp_in_nI (by omega) (by decide), bo_nar _, rfl, re_mk K G V⟩
        · exact xw_isCode_f hy (br_t rfl (br_f hn (yw_inRange_f K (Or.inr hy) (br_t rfl ⟨rfl, re_mk K G V⟩))))
      · exact xw_isMarking_f hx (br_t rfl (br_f hn (yw_inRange_f K (Or.inl hx) (br_t rfl ⟨rfl, re_mk K G V⟩))))
theorem i_vc_nextValue {k : Nat} {u : SX} {v : SY} (I : i_Rel k u v) (hk : k + 5 ≤ 2562) (v1 : Int32) (v2 : Int32) : wpX_nextValue (fun r => wpY_nextValue (fun r' => r' = r ∧ i_Rel (k + 5) u v) v v1 v2) u v1 v2 := by
  obtain ⟨P, S, T, sg, dr, pe, po, im, s0, tb, d, us, ic, rc, pc, mc, ln, lh, ls, ar, asn, aa, ao, apt, act, acu, aco, aq, apc, af, ad, am, pcy, cm, cc, yr, ym, yn, yi, yp, yv, rfl, rfl, K, G, V⟩ := I
  have hd := V.1
  have hS := K.2.1
  have hs := nt_pS K.2.1.2
  by_cases h0 : d = 0
  · subst h0
    exact br_t rfl (br_t rfl ⟨rfl, re_mk K G V⟩)
  · have hn : ¬ nI d = 0 := fun z => h0 ((iv_n0 (by omega)).mp z)
    rcases V.2 with z | ⟨R, r1, r2, r3, r4, r5, r6⟩
    · exact absurd z h0
    · refine br_f hn ?_
      rcases iv_ix v1 (n := S) (by omega) with ⟨i, hi, rfl⟩ | hx
      · have hY : ∀ A B : Prop, (im.testBit i = true → A) → (im.testBit i = false → B) → vp_in (nI i) 4 ∧ (((nI (im.testBit (nI i).toNatClampNeg).toNat = 0 → B) ∧ (¬ nI (im.testBit (nI i).toNatClampNeg).toNat = 0 → A))) := by
          intro A B a b
          rw [nI_clamp (by omega)]
          exact ⟨vp_in_nI (by omega) (by decide), bo_br b a⟩
        refine xw_isOutput hS.2 hi (bo_br (fun z => ?_) (fun z => ?_))
        · have z' : im.testBit i = true := by cases h : im.testBit i <;> rw [h] at z <;> first | rfl | exact absurd z (by simp)
          exact br_f hn (rg_t hi (by omega) (hY _ _ (fun _ => ⟨rfl, re_mk K G V⟩) (fun y => absurd (z'.symm.trans y) (by simp))))
        · have z' : im.testBit i = false := by cases h : im.testBit i <;> rw [h] at z <;> first | rfl | exact absurd z (by simp)
          rcases iv_ix v2 (n := 2 ^ S) (by omega) with ⟨c, hc, rfl⟩ | hy
          · refine xw_isCode_t hS.2 hc (br_f (by decide) (xw_nextOf K r5 (by omega) (by omega) (br_f hn (rg_t hi (by omega) (hY _ _ (fun y => absurd (z'.symm.trans y) (by simp)) (fun _ => ?_))))))
            rw [sg_s1 (s := S) (by omega)]
            exact rg_t hc (by omega) (yw_valueFor K r3 (by omega) (by omega) ⟨rfl, re_mk K G V⟩)
          · refine xw_isCode_f hy (br_t rfl (br_f hn (rg_t hi (by omega) (hY _ _ (fun y => absurd (z'.symm.trans y) (by simp)) (fun _ => ?_)))))
            rw [sg_s1 (s := S) (by omega)]
            exact rg_f hy ⟨rfl, re_mk K G V⟩
      · exact xw_isOutput_f hx (br_t rfl (br_f hn (rg_f hx ⟨rfl, re_mk K G V⟩)))
theorem i_vc_conflict {k : Nat} {u : SX} {v : SY} (I : i_Rel k u v) (hk : k + 5 ≤ 2562) : wpX_conflict (fun r => wpY_conflict (fun r' => r' = r ∧ i_Rel (k + 5) u v) v) u := by
  obtain ⟨P, S, T, sg, dr, pe, po, im, s0, tb, d, us, ic, rc, pc, mc, ln, lh, ls, ar, asn, aa, ao, apt, act, acu, aco, aq, apc, af, ad, am, pcy, cm, cc, yr, ym, yn, yi, yp, yv, rfl, rfl, K, G, V⟩ := I
  have hd := V.1
  by_cases h0 : d = 0
  · subst h0
    exact br_t rfl (br_t rfl ⟨rfl, re_mk K G V⟩)
  · have hn : ¬ nI d = 0 := fun z => h0 ((iv_n0 (by omega)).mp z)
    rcases V.2 with z | ⟨R, r1, r2, r3, r4, r5, r6⟩
    · exact absurd z h0
    · exact br_f hn (xw_leastConflict K r5 (fun r hr => br_f hn (yw_leastConflict K r3 (fun r' hr' => ⟨ls_uniq hr' hr, re_mk K G V⟩))))
theorem i_vc_setStart {k : Nat} {u : SX} {v : SY} (I : i_Rel k u v) (hk : k + 5 ≤ 2562) (v1 : Int32) (v2 : Int32) : wpX_setStart (fun r u' => wpY_setStart (fun r' v' => r' = r ∧ i_Rel (k + 5) u' v') v v1 v2) u v1 v2 := by
  obtain ⟨P, S, T, sg, dr, pe, po, im, s0, tb, d, us, ic, rc, pc, mc, ln, lh, ls, ar, asn, aa, ao, apt, act, acu, aco, aq, apc, af, ad, am, pcy, cm, cc, yr, ym, yn, yi, yp, yv, rfl, rfl, K, G, V⟩ := I
  have hp : 2 ^ P ≤ 2 ^ 6 := Nat.pow_le_pow_right (by decide) K.1.2
  have hs := nt_pS K.2.1.2
  rcases iv_ix v1 (n := 2 ^ P) (by omega) with ⟨m, hm, rfl⟩ | hx
  · rcases iv_ix v2 (n := 2 ^ S) (by omega) with ⟨c, hc, rfl⟩ | hy
    · obtain ⟨s, hs2, rfl, rfl⟩ : ∃ s, s < 1024 ∧ m = s / 16 ∧ c = s % 16 := ⟨m * 16 + c, by omega, by omega, by omega⟩
      have e : nI (s / 16) * 16 + nI (s % 16) = nI s := by
        rw [iv_16]
        congr 1
        omega
      have K' : nt_K P S T sg dr pe po im s := ⟨K.1, K.2.1, K.2.2.1, K.2.2.2.1, K.2.2.2.2.1, hs2, hc⟩
      unfold wpX_setStart wpY_setStart xt yt wpX_stateOf
      dsimp only
      rw [e]
      exact xw_isMarking_t K.1.2 hm (br_f (by decide) (xw_isCode_t K.2.1.2 hc (br_f (by decide) (yw_inRange_t K hm hc (br_f (by decide) ⟨rfl, re_mk (d := 0) (rc := rc) (ar := ar) (asn := asn) (aa := aa) (ao := ao) (apt := apt) (act := act) (acu := acu) (aco := aco) (yr := yr) K' G ⟨by omega, Or.inl rfl⟩⟩)))))
    · unfold wpX_setStart wpY_setStart xt yt
      dsimp only
      exact xw_isMarking_t K.1.2 hm (br_f (by decide) (xw_isCode_f hy (br_t rfl (yw_inRange_f K (Or.inr hy) (br_t rfl ⟨rfl, re_mk K G V⟩)))))
  · unfold wpX_setStart wpY_setStart xt yt
    dsimp only
    exact xw_isMarking_f hx (br_t rfl (yw_inRange_f K (Or.inl hx) (br_t rfl ⟨rfl, re_mk K G V⟩)))
theorem i_vc_setInput {k : Nat} {u : SX} {v : SY} (I : i_Rel k u v) (hk : k + 5 ≤ 2562) (v1 : Int32) (v2 : Int32) : wpX_setInput (fun r u' => wpY_setInput (fun r' v' => r' = r ∧ i_Rel (k + 5) u' v') v v1 (lw_bz v2)) u v1 (lw_bz v2) := by
  obtain ⟨P, S, T, sg, dr, pe, po, im, s0, tb, d, us, ic, rc, pc, mc, ln, lh, ls, ar, asn, aa, ao, apt, act, acu, aco, aq, apc, af, ad, am, pcy, cm, cc, yr, ym, yn, yi, yp, yv, rfl, rfl, K, G, V⟩ := I
  have hS := K.2.1
  have him := K.2.2.2.2.1
  rcases iv_ix v1 (n := S) (by omega) with ⟨i, hi, rfl⟩ | hx
  · have hv : vp_in (nI i) 4 := vp_in_nI (by omega) (by decide)
    have h16 : 2 ^ i < 2 ^ 4 := Nat.pow_lt_pow_right (by decide) (by omega)
    have V0 : re_V S T sg dr pe po im s0 0 rc ar asn aa ao apt act acu aco yr := ⟨by omega, Or.inl rfl⟩
    unfold wpX_setInput wpY_setInput xt yt
    dsimp only
    rw [nI_clamp (by omega), sg_s1 (s := i) (by omega), sg_andn, sg_or]
    rcases lw_bz_01 v2 with e | e
    · have K' : nt_K P S T sg dr pe po (sg_an im (2 ^ i)) s0 := ⟨K.1, K.2.1, K.2.2.1, K.2.2.2.1, Nat.lt_of_le_of_lt (sg_an_le _ _) him, K.2.2.2.2.2⟩
      rw [e]
      refine xw_isSignal_t hS.2 hi (br_f (by decide) (br_t rfl (nm_e (rg_t hi (by omega) ⟨hv, nm_r (e' := fun j => nI ((sg_an im (2 ^ i)).testBit j).toNat) ?_ ⟨rfl, re_mk (d := 0) (rc := rc) (ar := ar) (asn := asn) (aa := aa) (ao := ao) (apt := apt) (act := act) (acu := acu) (aco := aco) (yr := yr) K' G ⟨by omega, Or.inl rfl⟩⟩⟩))))
      rw [show vp_nar .boolean 0 = nI false.toNat from bo_vn false]
      refine iv_upb im i false _ (fun j => ?_)
      rw [sg_anb, Nat.testBit_two_pow]
      by_cases ej : j = i
      · rw [if_pos ej, decide_eq_true (show i = j from ej.symm)]; simp
      · rw [if_neg ej, decide_eq_false (show ¬ i = j from fun y => ej y.symm)]; simp
    · have K' : nt_K P S T sg dr pe po (im ||| 2 ^ i) s0 := ⟨K.1, K.2.1, K.2.2.1, K.2.2.2.1, Nat.or_lt_two_pow (n := 4) him h16, K.2.2.2.2.2⟩
      rw [e]
      refine xw_isSignal_t hS.2 hi (br_f (by decide) (br_f (by decide) (nm_e (rg_t hi (by omega) ⟨hv, nm_r (e' := fun j => nI ((im ||| 2 ^ i).testBit j).toNat) ?_ ⟨rfl, re_mk (d := 0) (rc := rc) (ar := ar) (asn := asn) (aa := aa) (ao := ao) (apt := apt) (act := act) (acu := acu) (aco := aco) (yr := yr) K' G ⟨by omega, Or.inl rfl⟩⟩⟩))))
      rw [show vp_nar .boolean 1 = nI true.toNat from bo_vn true]
      refine iv_upb im i true _ (fun j => ?_)
      rw [Nat.testBit_or, Nat.testBit_two_pow]
      by_cases ej : j = i
      · rw [if_pos ej, decide_eq_true (show i = j from ej.symm)]; simp
      · rw [if_neg ej, decide_eq_false (show ¬ i = j from fun y => ej y.symm)]; simp
  · unfold wpX_setInput wpY_setInput xt yt
    dsimp only
    exact xw_isSignal_f hx (br_t rfl (rg_f hx ⟨rfl, re_mk K G V⟩))
theorem iv_m1 {x : Int32} (h1 : ¬ x < -1) (h2 : x ≤ 65535) : x = -1 ∨ ∃ n, n < 65536 ∧ x = nI n := by
  by_cases h0 : x < 0
  · left
    rw [Int32.lt_iff_toInt_lt] at h1 h0
    have e1 : (-1 : Int32).toInt = -1 := by decide
    have e0 : (0 : Int32).toInt = 0 := by decide
    apply Int32.toInt_inj.mp
    omega
  · right
    obtain ⟨j, hj, e⟩ := nI_of2 (n := 65535) (M := 65535) (by decide) h0 h2
    exact ⟨j, by omega, e⟩
theorem i_vc_setGate {k : Nat} {u : SX} {v : SY} (I : i_Rel k u v) (hk : k + 5 ≤ 2562) (v1 : Int32) (v2 : Int32) : wpX_setGate (fun r u' => wpY_setGate (fun r' v' => r' = r ∧ i_Rel (k + 5) u' v') v v1 v2) u v1 v2 := by
  obtain ⟨P, S, T, sg, dr, pe, po, im, s0, tb, d, us, ic, rc, pc, mc, ln, lh, ls, ar, asn, aa, ao, apt, act, acu, aco, aq, apc, af, ad, am, pcy, cm, cc, yr, ym, yn, yi, yp, yv, rfl, rfl, K, G, V⟩ := I
  have hS := K.2.1
  unfold wpX_setGate wpY_setGate xt yt
  dsimp only
  rcases iv_ix v1 (n := S) (by omega) with ⟨i, hi, rfl⟩ | hx
  · have hv : vp_in (nI i) 4 := vp_in_nI (by omega) (by decide)
    rw [nI_clamp (by omega)]
    refine xw_isOutput hS.2 hi (bo_br (fun z => ?_) (fun z => ?_))
    · have z' : im.testBit i = true := by cases h : im.testBit i <;> rw [h] at z <;> first | rfl | exact absurd z (by simp)
      exact rl_t hi (by omega) ⟨hv, bo_br (fun y => absurd (z'.symm.trans y) (by simp)) (fun _ => ⟨rfl, re_mk K G V⟩)⟩
    · have z' : im.testBit i = false := by cases h : im.testBit i <;> rw [h] at z <;> first | rfl | exact absurd z (by simp)
      by_cases h1 : v2 < -1
      · exact br_t h1 (rl_t hi (by omega) ⟨hv, bo_br (fun _ => br_t h1 ⟨rfl, re_mk K G V⟩) (fun y => absurd (z'.symm.trans y) (by simp))⟩)
      · by_cases h2 : v2 ≤ 65535
        · have G' : gt_T (upd tb i v2) := by
            intro j hj
            by_cases e : j = i
            · subst e; rw [pk_us]; exact iv_m1 h1 h2
            · rw [pk_un e]; exact G j hj
          exact br_f h1 (br_t h2 ⟨hv, nm_e (rl_t hi (by omega) ⟨hv, bo_br (fun _ => br_f h1 (br_t h2 ⟨hv, nm_e ⟨rfl, re_mk K G' V⟩⟩)) (fun y => absurd (z'.symm.trans y) (by simp))⟩)⟩)
        · exact br_f h1 (br_f h2 (rl_t hi (by omega) ⟨hv, bo_br (fun _ => br_f h1 (br_f h2 ⟨rfl, re_mk K G V⟩)) (fun y => absurd (z'.symm.trans y) (by simp))⟩))
  · exact xw_isOutput_f hx (br_t rfl (rl_f hx ⟨rfl, re_mk K G V⟩))
end
