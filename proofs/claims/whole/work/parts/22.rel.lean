/-! the relation; the constructors -/
/-- what holds once the verdict d is there -/
def re_V (S T : Nat) (sg dr pe po : Nat → Nat) (im s0 d : Nat) (rc : Int32) (ar asn aa ao apt act acu aco yr : Nat → Int32) : Prop := d < 5 ∧ (d = 0 ∨ ∃ R : Nat → Bool, rc_is (nt_st T sg dr pe po) s0 R ∧ rp_A ar R ∧ rp_A yr R ∧ rc = nI (ct_n R 1024) ∧ xe_A T sg dr pe po R 1024 asn aa ao ∧
  (d = 1 → ∀ i, i < S → im.testBit i = false → xc_A S (nt_v T sg dr pe po R i) i apt act acu aco))
def i_Rel (_ : Nat) (u : SX) (v : SY) : Prop :=
  ∃ (P S T : Nat) (sg dr pe po : Nat → Nat) (im s0 : Nat) (tb : Nat → Int32) (d : Nat) (us ic rc pc mc ln lh ls : Int32) (ar asn aa ao apt act acu aco aq apc af ad am : Nat → Int32) (pcy cm cc : Int32) (yr ym yn yi yp yv : Nat → Int32),
    u = (xt P S T sg dr pe po im s0 tb (nI d) us ic rc pc mc ln lh ls ar asn aa ao apt act acu aco aq apc af ad am) ∧ v = (yt P S T sg dr pe po im s0 tb (nI d) pcy cm cc yr ym yn yi yp yv) ∧ nt_K P S T sg dr pe po im s0 ∧ gt_T tb ∧ re_V S T sg dr pe po im s0 d rc ar asn aa ao apt act acu aco yr
section
variable {P S T : Nat} {sg dr pe po : Nat → Nat} {im s0 : Nat} {tb : Nat → Int32}
variable {vd us ic rc pc mc ln lh ls cm cc : Int32} {ar asn aa ao apt act acu aco aq apc af ad am yr ym yn yi yp yv : Nat → Int32}
theorem re_mk {d k : Nat} {pcy : Int32} (K : nt_K P S T sg dr pe po im s0) (G : gt_T tb) (V : re_V S T sg dr pe po im s0 d rc ar asn aa ao apt act acu aco yr) : i_Rel k (xt P S T sg dr pe po im s0 tb (nI d) us ic rc pc mc ln lh ls ar asn aa ao apt act acu aco aq apc af ad am) (yt P S T sg dr pe po im s0 tb (nI d) pcy cm cc yr ym yn yi yp yv) :=
  ⟨P, S, T, sg, dr, pe, po, im, s0, tb, d, us, ic, rc, pc, mc, ln, lh, ls, ar, asn, aa, ao, apt, act, acu, aco, aq, apc, af, ad, am, pcy, cm, cc, yr, ym, yn, yi, yp, yv, rfl, rfl, K, G, V⟩
theorem i_up {k : Nat} {u : SX} {v : SY} (h : i_Rel k u v) : i_Rel (k + 5) u v := h
theorem cl_A (x : Int32) (lo hi : Nat) (h : lo ≤ hi) (hh : hi < 2 ^ 31) : ∃ n, lo ≤ n ∧ n ≤ hi ∧ ∀ A : Int32 → Prop, A (nI n) → (nI lo ≤ x → ((x ≤ nI hi → A x) ∧ (¬ x ≤ nI hi → A (nI hi)))) ∧ (¬ nI lo ≤ x → A (nI lo)) := by
  by_cases h1 : nI lo ≤ x
  · by_cases h2 : x ≤ nI hi
    · have h0 : ¬ x < 0 := by
        intro z
        have h3 := Int32.lt_of_le_of_lt h1 z
        exact nI_pos (by omega) h3
      obtain ⟨n, hn, rfl⟩ := nI_of h0
      rw [nI_leI (by omega) hn] at h1
      rw [nI_leI hn hh] at h2
      exact ⟨n, h1, h2, fun A hA => br_t (nI_le h1 hn) (br_t (nI_le h2 hh) hA)⟩
    · exact ⟨hi, h, Nat.le_refl _, fun A hA => br_t h1 (br_f h2 hA)⟩
  · exact ⟨lo, Nat.le_refl _, h, fun A hA => br_f h1 hA⟩
theorem xw_powerOfThree (hS : S ≤ 4) {post : Int32 → Prop} (h : post (nI (3 ^ S))) : wpX_powerOfThree post (nI S) := by
  refine loop_0 (σ := Unit) (fun n k _ => wX_powerOfThree_4 post (nI S) n (nI (3 ^ k)) (nI k)) (fun _ _ => True) S () trivial ?_ ?_
  · intro n _ _
    exact br_t (nI_le (Nat.le_refl _) (by omega)) h
  · intro n k _ hk _ ih
    have hx := ih () trivial
    refine br_f (nI_ge hk (by omega)) (nm_r (show nI (3 ^ k) * 3 = nI (3 ^ (k + 1)) from ?_) (nm_r (nI_1 k) hx))
    rw [Nat.pow_succ, ← pk_mul]
    rfl
theorem xw_cubeMeets (hS : S ≤ 4) {acc : Nat → Int32} {q c : Nat} (hq : q < 81) {post : Int32 → Prop} (h : post (nI (cu_cv S q c).toNat)) : wpX_cubeMeets post (nI S, nI (2 ^ P), nI (2 ^ S), nI (3 ^ S), nI T, nI im, nI s0, vd, us, ic, rc, pc, mc, ln, lh, ls, acc, (fun j => nI (sg j)), (fun j => nI (dr j)), (fun j => nI (pe j)), (fun j => nI (po j)), tb, ar, asn, aa, ao, apt, act, acu, aco, aq, apc, af, ad, am, 65536) (nI q) (nI c) := by
  have key : ∃ n, wX_cubeMeets_5 post (nI c) (nI S) (nI (2 ^ P)) (nI (2 ^ S)) (nI (3 ^ S)) (nI T) (nI im) (nI s0) vd us ic rc pc mc ln lh ls acc (fun j => nI (sg j)) (fun j => nI (dr j)) (fun j => nI (pe j)) (fun j => nI (po j)) tb ar asn aa ao apt act acu aco aq apc af ad am 65536 n (nI (q / 3 ^ 0)) (nI 0) := by
    refine loop_0 (σ := Unit) (fun n i _ => wX_cubeMeets_5 post (nI c) (nI S) (nI (2 ^ P)) (nI (2 ^ S)) (nI (3 ^ S)) (nI T) (nI im) (nI s0) vd us ic rc pc mc ln lh ls acc (fun j => nI (sg j)) (fun j => nI (dr j)) (fun j => nI (pe j)) (fun j => nI (po j)) tb ar asn aa ao apt act acu aco aq apc af ad am 65536 n (nI (q / 3 ^ i)) (nI i)) (fun i _ => ∀ j, j < i → ((q / 3 ^ j % 3 == 2) || (q / 3 ^ j % 3 == (c.testBit j).toNat)) = true) S () (fun j hj => absurd hj (Nat.not_lt_zero _)) ?_ ?_
    · intro n _ hI
      have e : cu_cv S q c = true := al_iff.mpr hI
      rw [e] at h
      exact br_t (nI_le (Nat.le_refl _) (by omega)) h
    · intro n i _ hi hI ih
      have hd : q / 3 ^ i ≤ q := Nat.div_le_self _ _
      have hm : q / 3 ^ i % 3 < 3 := Nat.mod_lt _ (by decide)
      have ht := sg_toNat_lt (c.testBit i)
      have e1 : nI (q / 3 ^ i) - nI (q / 3 ^ i) / 3 * 3 = nI (q / 3 ^ i % 3) := pk_rem (d := 3) (by omega) (by decide) (by decide)
      have e2 : nI (q / 3 ^ i) / 3 = nI (q / 3 ^ (i + 1)) := by rw [← cu_nx]; exact pk_div (d := 3) (by omega) (by decide) (by decide)
      refine br_f (nI_ge hi (by omega)) ⟨by decide, nm_r e1 ?_⟩
      by_cases h2 : q / 3 ^ i % 3 = 2
      · refine br_t (by rw [h2]; rfl) ⟨by decide, nm_r e2 (nm_r (nI_1 i) (ih () (lt_s hI ?_)))⟩
        rw [h2]; rfl
      · refine br_f (fun z => h2 ((nI_eq (b := 2) (by omega) (by omega)).mp z)) ?_
        unfold wpX_bit
        try dsimp only
        rw [sg_bitN c (by omega)]
        by_cases h3 : q / 3 ^ i % 3 = (c.testBit i).toNat
        · refine br_t (by rw [h3]) ⟨by decide, nm_r e2 (nm_r (nI_1 i) (ih () (lt_s hI ?_)))⟩
          rw [beq_iff_eq.mpr h3, Bool.or_true]
        · have e : cu_cv S q c = false := al_not.mpr ⟨i, hi, by
            show ((q / 3 ^ i % 3 == 2) || (q / 3 ^ i % 3 == (c.testBit i).toNat)) = false
            rw [beq_eq_false_iff_ne.mpr h2, beq_eq_false_iff_ne.mpr h3]; rfl⟩
          rw [e] at h
          exact br_f (fun z => h3 ((nI_eq (by omega) (by omega)).mp z)) h
  rw [Nat.pow_zero, Nat.div_one] at key
  exact key
/-- the masks so far: cube q has its codes below c -/
def cu_w (S q c : Nat) : Nat → Int32 := fun p => if p < q then nI (cu_m S p (2 ^ S)) else if p = q then nI (cu_m S q c) else 0
theorem cu_w0 (S : Nat) : (fun _ => (0 : Int32)) = cu_w S 0 0 := by
  funext p
  unfold cu_w
  rw [if_neg (Nat.not_lt_zero p)]
  by_cases e : p = 0
  · rw [if_pos e]; rfl
  · rw [if_neg e]
theorem cu_wn (S q : Nat) : cu_w S q (2 ^ S) = cu_w S (q + 1) 0 := by
  funext p
  unfold cu_w
  by_cases e : p < q
  · rw [if_pos e, if_pos (by omega)]
  · rw [if_neg e]
    by_cases e2 : p = q
    · rw [if_pos e2, if_pos (by omega), e2]
    · rw [if_neg e2, if_neg (by omega)]
      by_cases e3 : p = q + 1
      · rw [if_pos e3]; rfl
      · rw [if_neg e3]
theorem cu_we (S : Nat) : cu_w S (3 ^ S) 0 = cu_ar S := by
  funext p
  unfold cu_w cu_ar
  by_cases e : p < 3 ^ S
  · rw [if_pos e, if_pos e]
  · rw [if_neg e, if_neg e]
    by_cases e3 : p = 3 ^ S
    · rw [if_pos e3]; rfl
    · rw [if_neg e3]
theorem cu_ws {S q c : Nat} : (cu_cv S q c = false → cu_w S q (c + 1) = cu_w S q c) ∧ (cu_cv S q c = true → cu_w S q (c + 1) = upd (cu_w S q c) q (cu_w S q c q ||| nI (2 ^ c))) := by
  have e0 : cu_m S q (c + 1) = cu_m S q c ||| (if cu_cv S q c = true then 2 ^ c else 0) := rfl
  refine ⟨fun h => ?_, fun h => ?_⟩
  · unfold cu_w
    rw [e0, h, if_neg (by simp), Nat.or_zero]
  · funext p
    show _ = (if p = q then _ else _)
    unfold cu_w
    rw [e0, if_pos h]
    by_cases e : p < q
    · rw [if_pos e, if_neg (by omega), if_pos e]
    · rw [if_neg e]
      by_cases e2 : p = q
      · rw [if_pos e2, if_pos e2, if_neg (by omega), if_pos rfl, sg_or]
      · rw [if_neg e2, if_neg e2, if_neg e, if_neg e2]
theorem xw_listCubeCodes (hS1 : 1 ≤ S) (hS : S ≤ 4) {post : SX → Prop} (h : post (xt P S T sg dr pe po im s0 tb vd us ic rc pc mc ln lh ls ar asn aa ao apt act acu aco aq apc af ad am)) : wpX_listCubeCodes post (nI S, nI (2 ^ P), nI (2 ^ S), nI (3 ^ S), nI T, nI im, nI s0, vd, us, ic, rc, pc, mc, ln, lh, ls, (fun _ => 0), (fun j => nI (sg j)), (fun j => nI (dr j)), (fun j => nI (pe j)), (fun j => nI (po j)), tb, ar, asn, aa, ao, apt, act, acu, aco, aq, apc, af, ad, am, 65536) := by
  have h81 := cu_81 hS
  have h16 := nt_pS hS
  rw [cu_w0 S]
  refine loop_0 (σ := Unit) (fun n q _ => wX_listCubeCodes_2 post (nI S) (nI (2 ^ P)) (nI (2 ^ S)) (nI (3 ^ S)) (nI T) (nI im) (nI s0) vd us ic rc pc mc ln lh ls 65536 n (nI q) (cu_w S q 0) (fun j => nI (sg j)) (fun j => nI (dr j)) (fun j => nI (pe j)) (fun j => nI (po j)) tb ar asn aa ao apt act acu aco aq apc af ad am) (fun _ _ => True) (3 ^ S) () trivial ?_ ?_
  · intro n _ _
    refine br_t (nI_le (Nat.le_refl _) (by omega)) ?_
    rw [cu_we]
    exact h
  · intro n q _ hq _ ih
    refine br_f (nI_ge hq (by omega)) ?_
    refine loop_0 (σ := Unit) (fun n' c _ => wX_listCubeCodes_12 post (wX_listCubeCodes_2 post (nI S) (nI (2 ^ P)) (nI (2 ^ S)) (nI (3 ^ S)) (nI T) (nI im) (nI s0) vd us ic rc pc mc ln lh ls 65536 n) (nI q) (nI S) (nI (2 ^ P)) (nI (2 ^ S)) (nI (3 ^ S)) (nI T) (nI im) (nI s0) vd us ic rc pc mc ln lh ls 65536 n' (nI c) (cu_w S q c) (fun j => nI (sg j)) (fun j => nI (dr j)) (fun j => nI (pe j)) (fun j => nI (po j)) tb ar asn aa ao apt act acu aco aq apc af ad am) (fun _ _ => True) (2 ^ S) () trivial ?_ ?_
    · intro n' _ _
      refine br_t (nI_le (Nat.le_refl _) (by omega)) ?_
      have hx := ih () trivial
      rw [← cu_wn] at hx
      exact nm_r (nI_1 q) hx
    · intro n' c _ hc _ ih'
      have hx := ih' () trivial
      obtain ⟨w1, w2⟩ := cu_ws (S := S) (q := q) (c := c)
      refine br_f (nI_ge hc (by omega)) (xw_cubeMeets hS (by omega) (bo_br (fun z => nm_r (nI_1 c) ?_) (fun z => ⟨vp_in_nI (by omega) (by decide), vp_in_nI (by omega) (by decide), ?_⟩)))
      · rw [w1 z] at hx
        exact hx
      · rw [nI_clamp (by omega), sg_s1 (by omega)]
        rw [w2 z] at hx
        exact nm_e (nm_r (nI_1 c) hx)
/-- no table given -/
def tb_k (k : Nat) : Nat → Int32 := fun j => if j < k then -1 else 0
theorem tb_s (k : Nat) : upd (tb_k k) k (-1) = tb_k (k + 1) := by
  funext j
  show (if j = k then -1 else tb_k k j) = tb_k (k + 1) j
  unfold tb_k
  by_cases e : j = k
  · rw [if_pos e, if_pos (by omega)]
  · rw [if_neg e]
    by_cases e2 : j < k
    · rw [if_pos e2, if_pos (by omega)]
    · rw [if_neg e2, if_neg (by omega)]
theorem tb_0 : (fun _ => (0 : Int32)) = tb_k 0 := by
  funext j
  unfold tb_k
  rw [if_neg (Nat.not_lt_zero j)]
theorem im_0 : (fun _ => (0 : Int32)) = (fun j => nI (Nat.testBit 0 j).toNat) := by
  funext j
  rw [Nat.zero_testBit]
  rfl
theorem i_vc0 (k0 : Int32) (k1 : Int32) : wpX_init (fun u => wpY_init (fun v => i_Rel 2 u v) k0 k1) k0 k1 := by
  obtain ⟨S, hS1, hS, cS⟩ := cl_A k1 1 4 (by omega) (by omega)
  obtain ⟨P, hP1, hP, cP⟩ := cl_A k0 2 6 (by omega) (by omega)
  have h16 := nt_pS hS
  have hpos : 0 < 2 ^ S := Nat.two_pow_pos S
  have K : nt_K P S 0 (fun _ => 0) (fun _ => 0) (fun _ => 0) (fun _ => 0) 0 16 := ⟨⟨hP1, hP⟩, ⟨hS1, hS⟩, by omega, fun t => ⟨by dsimp only; omega, Nat.zero_le _, (by decide : 0 < 64), (by decide : 0 < 64)⟩, by omega, by omega, hpos⟩
  have G : gt_T (tb_k 4) := fun i hi => Or.inl (if_pos hi)
  have V : ∀ rc ar asn aa ao apt act acu aco yr, re_V S 0 (fun _ => 0) (fun _ => 0) (fun _ => 0) (fun _ => 0) 0 16 0 rc ar asn aa ao apt act acu aco yr := fun _ _ _ _ _ _ _ _ _ _ => ⟨by omega, Or.inl rfl⟩
  refine ⟨by decide, nm_r (show (65536 : Int32).toNatClampNeg = 65536 from by decide +kernel) ⟨Nat.le_refl _, ?_⟩⟩
  have xS : ∀ A : Int32 → Prop, A (nI S) → wpX_clamp A k1 1 4 := cS
  have xP : ∀ A : Int32 → Prop, A (nI P) → wpX_clamp A k0 2 6 := cP
  refine xS _ ?_
  refine xP _ ?_
  refine nm_r (sg_s1 (s := P) (by omega)) ?_
  refine nm_r (sg_s1 (s := S) (by omega)) ?_
  refine xw_powerOfThree hS ?_
  show ∃ n215 : Nat, wX_init_215 _ (nI S) (nI (2 ^ P)) (nI (2 ^ S)) (nI (3 ^ S)) 0 0 ((1 : Int32) * 16 + 0) 0 0 0 0 0 0 0 0 0 65536 n215 0 (fun _ => 0) (fun _ => 0) (fun _ => 0) (fun _ => 0) (fun _ => 0) (fun _ => 0) (fun _ => 0) (fun _ => 0) (fun _ => 0) (fun _ => 0) (fun _ => 0) (fun _ => 0) (fun _ => 0) (fun _ => 0) (fun _ => 0) (fun _ => 0) (fun _ => 0) (fun _ => 0) (fun _ => 0)
  rw [show (1 : Int32) * 16 + 0 = nI 16 from by decide +kernel]
  have key := loop_0 (σ := Unit) (fun n i _ => wX_init_215 (fun u => wpY_init (fun v => i_Rel 2 u v) k0 k1) (nI S) (nI (2 ^ P)) (nI (2 ^ S)) (nI (3 ^ S)) 0 0 (nI 16) 0 0 0 0 0 0 0 0 0 65536 n (nI i) (fun _ => 0) (fun _ => 0) (fun _ => 0) (fun _ => 0) (fun _ => 0) (tb_k i) (fun _ => 0) (fun _ => 0) (fun _ => 0) (fun _ => 0) (fun _ => 0) (fun _ => 0) (fun _ => 0) (fun _ => 0) (fun _ => 0) (fun _ => 0) (fun _ => 0) (fun _ => 0) (fun _ => 0)) (fun _ _ => True) 4 () trivial ?_ ?_
  · obtain ⟨n, hn⟩ := key
    refine ⟨n, ?_⟩
    rw [← tb_0] at hn
    exact hn
  · intro n _ _
    refine br_t (nI_le (Nat.le_refl 4) (by decide)) ?_
    refine xw_listCubeCodes (T := 0) (sg := fun _ => 0) (dr := fun _ => 0) (pe := fun _ => 0) (po := fun _ => 0) (im := 0) (s0 := 16) hS1 hS ?_
    show wpY_init _ k0 k1
    refine cP (fun z => wY_init_142 (fun v => i_Rel 2 _ v) k1 z 0 0 1 0 0 0 0 0 0 (fun _ => 0) (fun _ => 0) (fun _ => 0) (fun _ => 0) (fun _ => 0) (fun _ => 0) (fun _ => 0) (fun _ => 0) (fun _ => 0) (fun _ => 0) (fun _ => 0) (fun _ => 0)) ?_
    refine cS (fun z => ∃ n170 : Nat, wY_init_170 (fun v => i_Rel 2 _ v) (nI P) z 1 0 0 0 0 0 0 n170 0 (fun _ => 0) (fun _ => 0) (fun _ => 0) (fun _ => 0) (fun _ => 0) (fun _ => 0) (fun _ => 0) (fun _ => 0) (fun _ => 0) (fun _ => 0) (fun _ => 0) (fun _ => 0)) ?_
    have key := loop_0 (σ := Unit) (fun n i _ => wY_init_170 (fun v => i_Rel 2 (xt P S 0 (fun _ => 0) (fun _ => 0) (fun _ => 0) (fun _ => 0) 0 16 (tb_k 4) 0 0 0 0 0 0 0 0 0 (fun _ => 0) (fun _ => 0) (fun _ => 0) (fun _ => 0) (fun _ => 0) (fun _ => 0) (fun _ => 0) (fun _ => 0) (fun _ => 0) (fun _ => 0) (fun _ => 0) (fun _ => 0) (fun _ => 0)) v) (nI P) (nI S) 1 0 0 0 0 0 0 n (nI i) (fun _ => 0) (fun _ => 0) (fun _ => 0) (fun _ => 0) (fun _ => 0) (tb_k i) (fun _ => 0) (fun _ => 0) (fun _ => 0) (fun _ => 0) (fun _ => 0) (fun _ => 0)) (fun _ _ => True) 4 () trivial ?_ ?_
    · obtain ⟨n, hn⟩ := key
      refine ⟨n, ?_⟩
      rw [← tb_0] at hn
      exact hn
    · intro n _ _
      refine br_t (nI_le (Nat.le_refl 4) (by decide)) ?_
      have hr := re_mk (k := 2) (d := 0) (us := 0) (ic := 0) (pc := 0) (mc := 0) (ln := 0) (lh := 0) (ls := 0) (aq := fun _ => 0) (apc := fun _ => 0) (af := fun _ => 0) (ad := fun _ => 0) (am := fun _ => 0) (pcy := 0) (cm := 0) (cc := 0) (ym := fun _ => 0) (yn := fun _ => 0) (yi := fun _ => 0) (yp := fun _ => 0) (yv := fun _ => 0) K G (V 0 (fun _ => 0) (fun _ => 0) (fun _ => 0) (fun _ => 0) (fun _ => 0) (fun _ => 0) (fun _ => 0) (fun _ => 0) (fun _ => 0))
      unfold yt at hr
      rw [← im_0] at hr
      exact hr
    · intro n i _ hi _ ih
      refine br_f (nI_ge hi (by decide)) ⟨vp_in_nI hi (by decide), ?_⟩
      rw [nI_clamp (by omega), tb_s]
      exact nm_e (nm_r (nI_1 i) (ih () trivial))
  · intro n i _ hi _ ih
    refine br_f (nI_ge hi (by decide)) ⟨vp_in_nI hi (by decide), ?_⟩
    rw [nI_clamp (by omega), tb_s]
    exact nm_e (nm_r (nI_1 i) (ih () trivial))
end
