/-! the component's primes and covers -/
section
variable {P S T : Nat} {sg dr pe po : Nat → Nat} {im s0 : Nat} {tb : Nat → Int32}
variable {vd us ic rc pc mc ln lh ls cm cc : Int32} {ar asn aa ao apt act acu aco aq apc af ad am yr ym yn yi yp yv : Nat → Int32}
theorem cu_ti {S q : Nat} (h : q < 3 ^ S) : cu_ar S q = nI (cu_m S q (2 ^ S)) := if_pos h
theorem xw_codesWithNext (K : nt_K P S T sg dr pe po im s0) {R : Nat → Bool} (A : xe_A T sg dr pe po R 1024 asn aa ao) {i a : Nat} (hi : i < 4) (ha : a < 4) {post : Int32 → Prop} (h : post (nI (pq_x (nt_v T sg dr pe po R i) a (2 ^ S)))) : wpX_codesWithNext post (xt P S T sg dr pe po im s0 tb vd us ic rc pc mc ln lh ls ar asn aa ao apt act acu aco aq apc af ad am) (nI i) (nI a) := by
  have hS := K.2.1
  have hp := nt_pS hS.2
  refine loop_0 (σ := Unit) (fun n c _ => wX_codesWithNext_5 post (nI i) (nI a) (nI S) (nI (2 ^ P)) (nI (2 ^ S)) (nI (3 ^ S)) (nI T) (nI im) (nI s0) vd us ic rc pc mc ln lh ls (cu_ar S) (fun j => nI (sg j)) (fun j => nI (dr j)) (fun j => nI (pe j)) (fun j => nI (po j)) tb ar asn aa ao apt act acu aco aq apc af ad am 65536 n (nI (pq_x (nt_v T sg dr pe po R i) a c)) (nI c)) (fun _ _ => True) (2 ^ S) () trivial ?_ ?_
  · intro n _ _
    exact br_t (nI_le (Nat.le_refl _) (by omega)) h
  · intro n c _ hc _ ih
    have hx := ih () trivial
    have hv := nt_v_lt T sg dr pe po R i c
    refine br_f (nI_ge hc (by omega)) (xw_nextOf K A hi (by omega) ?_)
    by_cases z : nt_v T sg dr pe po R i c = a
    · refine br_t (by rw [z]) (nm_r (by rw [sg_s1 (by omega), sg_or]) (nm_r (nI_1 c) ?_))
      have e : pq_x (nt_v T sg dr pe po R i) a (c + 1) = pq_x (nt_v T sg dr pe po R i) a c ||| 2 ^ c := by
        show _ ||| (if nt_v T sg dr pe po R i c = a then 2 ^ c else 0) = _
        rw [if_pos z]
      rw [e] at hx
      exact hx
    · refine br_f (fun y => z ((nI_eq (by omega) (by omega)).mp y)) (nm_r (nI_1 c) ?_)
      have e : pq_x (nt_v T sg dr pe po R i) a (c + 1) = pq_x (nt_v T sg dr pe po R i) a c := by
        show _ ||| (if nt_v T sg dr pe po R i c = a then 2 ^ c else 0) = _
        rw [if_neg z, Nat.or_zero]
      rw [e] at hx
      exact hx
theorem xw_isLargestImplicant (K : nt_K P S T sg dr pe po im s0) {v : Nat → Nat} {q : Nat} (hq : q < 3 ^ S) {post : Int32 → Prop} (h : post (nI (pr_im S v q && !(pr_lg S v q)).toNat)) : wpX_isLargestImplicant post (xt P S T sg dr pe po im s0 tb vd us ic rc pc mc ln lh ls ar asn aa ao apt act acu aco aq apc af ad am) (nI q) (nI (pq_x v 0 (2 ^ S))) := by
  have hS := K.2.1
  have hp := nt_pS hS.2
  have h81 := cu_81 hS.2
  have him : ∀ p, p < 3 ^ S → (cu_ar S p &&& nI (pq_x v 0 (2 ^ S)) = 0 ↔ pr_im S v p = true) := by
    intro p hp'
    have hlt : cu_m S p (2 ^ S) &&& pq_x v 0 (2 ^ S) < 2 ^ 31 := Nat.lt_of_le_of_lt Nat.and_le_left (iv_31 (cu_m_lt hp))
    rw [cu_ti hp', nx_and, iv_n0 hlt, pq_mim]
  have hal : ∀ p, p < 3 ^ S → (cu_ar S q &&& (cu_ar S p ^^^ (-1)) = 0 ↔ pr_al S p q = true) := by
    intro p hp'
    have hlt : sg_an (cu_m S q (2 ^ S)) (cu_m S p (2 ^ S)) < 2 ^ 31 := Nat.lt_of_le_of_lt (sg_an_le _ _) (iv_31 (cu_m_lt hp))
    rw [cu_ti hp', cu_ti hq, sg_andn, iv_n0 hlt, pq_mal]
  have hvq : vp_in (nI q) 81 := vp_in_nI (by omega) (by decide)
  unfold wpX_isLargestImplicant xt
  try dsimp only
  rw [nI_clamp (by omega)]
  refine ⟨hvq, ?_⟩
  by_cases z : pr_im S v q = true
  · refine br_t ((him q hq).mpr z) ?_
    rw [z, Bool.true_and] at h
    refine loop_0 (σ := Unit) (fun n p _ => wX_isLargestImplicant_15 post (nI q) (nI (pq_x v 0 (2 ^ S))) (nI S) (nI (2 ^ P)) (nI (2 ^ S)) (nI (3 ^ S)) (nI T) (nI im) (nI s0) vd us ic rc pc mc ln lh ls (cu_ar S) (fun j => nI (sg j)) (fun j => nI (dr j)) (fun j => nI (pe j)) (fun j => nI (po j)) tb ar asn aa ao apt act acu aco aq apc af ad am 65536 n (nI p)) (fun p _ => ∀ j, j < p → (!(j == q) && (pr_im S v j && pr_al S j q)) = false) (3 ^ S) () (fun j hj => absurd hj (Nat.not_lt_zero _)) ?_ ?_
    · intro n _ hI
      have e : pr_lg S v q = false := ex_not.mpr hI
      rw [e] at h
      exact br_t (nI_le (Nat.le_refl _) (by omega)) h
    · intro n p _ hp' hI ih
      have hvp : vp_in (nI p) 81 := vp_in_nI (by omega) (by decide)
      refine br_f (nI_ge hp' (by omega)) ⟨hvp, ?_⟩
      rw [nI_clamp (by omega)]
      refine bo_if (post := fun z => wX_isLargestImplicant_39 post (wX_isLargestImplicant_15 post (nI q) (nI (pq_x v 0 (2 ^ S))) (nI S) (nI (2 ^ P)) (nI (2 ^ S)) (nI (3 ^ S)) (nI T) (nI im) (nI s0) vd us ic rc pc mc ln lh ls (cu_ar S) (fun j => nI (sg j)) (fun j => nI (dr j)) (fun j => nI (pe j)) (fun j => nI (po j)) tb ar asn aa ao apt act acu aco aq apc af ad am 65536 n) (nI q) (nI (pq_x v 0 (2 ^ S))) (nI p) z (nI S) (nI (2 ^ P)) (nI (2 ^ S)) (nI (3 ^ S)) (nI T) (nI im) (nI s0) vd us ic rc pc mc ln lh ls (cu_ar S) (fun j => nI (sg j)) (fun j => nI (dr j)) (fun j => nI (pe j)) (fun j => nI (po j)) tb ar asn aa ao apt act acu aco aq apc af ad am 65536) (him p hp') ?_
      refine ⟨hvq, hvp, ?_⟩
      rw [nI_clamp (by omega), nI_clamp (by omega)]
      refine bo_if (post := fun y => wX_isLargestImplicant_64 post (wX_isLargestImplicant_15 post (nI q) (nI (pq_x v 0 (2 ^ S))) (nI S) (nI (2 ^ P)) (nI (2 ^ S)) (nI (3 ^ S)) (nI T) (nI im) (nI s0) vd us ic rc pc mc ln lh ls (cu_ar S) (fun j => nI (sg j)) (fun j => nI (dr j)) (fun j => nI (pe j)) (fun j => nI (po j)) tb ar asn aa ao apt act acu aco aq apc af ad am 65536 n) (nI q) (nI (pq_x v 0 (2 ^ S))) (nI p) (nI (pr_im S v p).toNat) y (nI S) (nI (2 ^ P)) (nI (2 ^ S)) (nI (3 ^ S)) (nI T) (nI im) (nI s0) vd us ic rc pc mc ln lh ls (cu_ar S) (fun j => nI (sg j)) (fun j => nI (dr j)) (fun j => nI (pe j)) (fun j => nI (po j)) tb ar asn aa ao apt act acu aco aq apc af ad am 65536) (hal p hp') ?_
      by_cases h1 : p = q
      · exact br_t (by rw [h1]) (nm_r (nI_1 p) (ih () (lt_s hI (by rw [h1, beq_self_eq_true]; rfl))))
      · refine br_f (fun y => h1 ((nI_eq (by omega) (by omega)).mp y)) (bo_br (fun z1 => nm_r (nI_1 p) (ih () (lt_s hI (by rw [z1]; simp)))) (fun z1 => bo_br (fun z2 => nm_r (nI_1 p) (ih () (lt_s hI (by rw [z2]; simp)))) (fun z2 => ?_)))
        have e : pr_lg S v q = true := ex_iff.mpr ⟨p, hp', by rw [z1, z2, beq_eq_false_iff_ne.mpr h1]; rfl⟩
        rw [e] at h
        exact h
  · refine br_f (fun y => z ((him q hq).mp y)) ?_
    rw [bo_nt z] at h
    exact h
theorem xw_listPrimes (K : nt_K P S T sg dr pe po im s0) {v : Nat → Nat} {post : SX → Prop} (h : ∀ apc', pq_A S v apc' (3 ^ S) → post (xt P S T sg dr pe po im s0 tb vd us ic rc (nI (pq_n S v)) mc ln lh ls ar asn aa ao apt act acu aco aq apc' af ad am)) : wpX_listPrimes post (xt P S T sg dr pe po im s0 tb vd us ic rc pc mc ln lh ls ar asn aa ao apt act acu aco aq apc af ad am) (nI (pq_x v 1 (2 ^ S))) (nI (pq_x v 0 (2 ^ S))) := by
  have hS := K.2.1
  have hp := nt_pS hS.2
  have h81 := cu_81 hS.2
  refine loop_0 (σ := Nat → Int32) (fun n q d => wX_listPrimes_7 post (nI (pq_x v 1 (2 ^ S))) (nI (pq_x v 0 (2 ^ S))) (nI S) (nI (2 ^ P)) (nI (2 ^ S)) (nI (3 ^ S)) (nI T) (nI im) (nI s0) vd us ic rc mc ln lh ls 65536 n (nI q) (nI (ct_n (pr_p S v) q)) (cu_ar S) (fun j => nI (sg j)) (fun j => nI (dr j)) (fun j => nI (pe j)) (fun j => nI (po j)) tb ar asn aa ao apt act acu aco aq d af ad am) (fun q d => pq_A S v d q) (3 ^ S) apc (fun j hj => absurd hj (Nat.not_lt_zero _)) ?_ ?_
  · intro n d hd
    exact br_t (nI_le (Nat.le_refl _) (by omega)) (h d hd)
  · intro n q d hq hd ih
    have hct := ct_le (pr_p S v) q
    have hno : pr_p S v q = false → wX_listPrimes_7 post (nI (pq_x v 1 (2 ^ S))) (nI (pq_x v 0 (2 ^ S))) (nI S) (nI (2 ^ P)) (nI (2 ^ S)) (nI (3 ^ S)) (nI T) (nI im) (nI s0) vd us ic rc mc ln lh ls 65536 n (nI (q + 1)) (nI (ct_n (pr_p S v) q)) (cu_ar S) (fun j => nI (sg j)) (fun j => nI (dr j)) (fun j => nI (pe j)) (fun j => nI (po j)) tb ar asn aa ao apt act acu aco aq d af ad am := by
      intro z
      obtain ⟨z1, z2⟩ := pq_A0 hd z
      have := ih d z1
      rw [z2] at this
      exact this
    have hh1 : cu_ar S q &&& nI (pq_x v 1 (2 ^ S)) = 0 ↔ pr_h1 S v q = false := by
      have hlt : cu_m S q (2 ^ S) &&& pq_x v 1 (2 ^ S) < 2 ^ 31 := Nat.lt_of_le_of_lt Nat.and_le_left (iv_31 (cu_m_lt hp))
      rw [cu_ti hq, nx_and, iv_n0 hlt, pq_mh1]
    refine br_f (nI_ge hq (by omega)) ⟨vp_in_nI (by omega) (by decide), ?_⟩
    rw [nI_clamp (n := q) (by omega)]
    by_cases z : pr_h1 S v q = false
    · exact br_t (hh1.mpr z) (nm_r (nI_1 q) (hno (by unfold pr_p; rw [z]; simp)))
    · refine br_f (fun y => z (hh1.mp y)) (xw_isLargestImplicant K hq (bo_br (fun z2 => nm_r (nI_1 q) (hno ?_)) (fun z2 => ⟨vp_in_nI (by omega) (by decide), ?_⟩)))
      · unfold pr_p
        cases h1 : pr_im S v q
        · rfl
        · rw [h1, Bool.true_and] at z2
          rw [z2]; simp
      · rw [Bool.and_eq_true] at z2
        have hpr : pr_p S v q = true := by unfold pr_p; rw [z2.1, z2.2, bo_nf z]; rfl
        obtain ⟨y1, y2⟩ := pq_A1 hd hpr
        have := ih _ y1
        rw [y2] at this
        rw [nI_clamp (n := ct_n (pr_p S v) q) (by omega)]
        exact nm_e (nm_r (nI_1 _) (nm_r (nI_1 q) this))
theorem xw_sizeOf {W : Nat} {post : Int32 → Prop} (h : post (nI (ct_n (fun i => W.testBit i) 16))) : wpX_sizeOf post (nI W) := by
  refine loop_0 (σ := Unit) (fun n k _ => wX_sizeOf_4 post (nI W) n (nI (ct_n (fun i => W.testBit i) k)) (nI k)) (fun _ _ => True) 16 () trivial ?_ ?_
  · intro n _ _
    exact br_t (nI_le (Nat.le_refl 16) (by decide)) h
  · intro n k _ hk _ ih
    have hx := ih () trivial
    refine br_f (nI_ge hk (by decide)) ?_
    show ∀ x1_3, x1_3 = nI (ct_n (fun i => W.testBit i) k) + ((nI W >>> (nI k &&& 31)) &&& 1) → _
    rw [sg_bitN W (by omega), nI_add]
    exact nm_e (nm_r (nI_1 k) hx)
/-- the table at A -/
def fw_T (np : Nat) (km : Nat → Nat) (a : Nat → Int32) (A : Nat) : Prop := ∃ n, n ≤ 16 ∧ a A = nI n ∧ fw_L np km A n
def fw_F (a : Nat → Int32) (A : Nat) : Nat := (a A).toNatClampNeg
theorem fw_TF {np : Nat} {km : Nat → Nat} {a : Nat → Int32} {A : Nat} (h : fw_T np km a A) : fw_F a A ≤ 16 ∧ a A = nI (fw_F a A) ∧ fw_L np km A (fw_F a A) := by
  obtain ⟨n, h1, h2, h3⟩ := h
  have e : fw_F a A = n := by unfold fw_F; rw [h2]; exact nI_clamp (by omega)
  rw [e]
  exact ⟨h1, h2, h3⟩
theorem pq_mlt {S : Nat} (hS : S ≤ 4) {v : Nat → Nat} {k : Nat} : pq_m S v k < 65536 := cu_m_lt (nt_pS hS)
theorem xw_fewestFor (K : nt_K P S T sg dr pe po im s0) {v : Nat → Nat} (hA : pq_A S v apc (3 ^ S)) {A b : Nat} (hA0 : A ≠ 0) (hA16 : A < 65536) (hb : A.testBit b = true) (hb2 : sg_an A (A - 1) = 2 ^ b)
    (hF : ∀ k, k < pq_n S v → (pq_m S v k).testBit b = true → fw_T (pq_n S v) (pq_m S v) af (sg_an A (pq_m S v k))) {post : Int32 → Prop} (h : post (nI (fw_m (pq_m S v) (fw_F af) A b (pq_n S v)))) : wpX_fewestFor post (xt P S T sg dr pe po im s0 tb vd us ic rc (nI (pq_n S v)) mc ln lh ls ar asn aa ao apt act acu aco aq apc af ad am) (nI A) := by
  have hS := K.2.1
  have h81 := cu_81 hS.2
  have hn := pq_le hS.1 hS.2 v
  have hb16 : 2 ^ b ≤ A := Nat.ge_two_pow_of_testBit hb
  refine nm_r (by rw [pd_neg hA0, hb2]) ?_
  refine loop_0 (σ := Unit) (fun n k _ => wX_fewestFor_11 post (nI A) (nI (2 ^ b)) (nI S) (nI (2 ^ P)) (nI (2 ^ S)) (nI (3 ^ S)) (nI T) (nI im) (nI s0) vd us ic rc (nI (pq_n S v)) mc ln lh ls (cu_ar S) (fun j => nI (sg j)) (fun j => nI (dr j)) (fun j => nI (pe j)) (fun j => nI (po j)) tb ar asn aa ao apt act acu aco aq apc af ad am 65536 n (nI (fw_m (pq_m S v) (fw_F af) A b k)) (nI k)) (fun _ _ => True) (pq_n S v) () trivial ?_ ?_
  · intro n _ _
    exact br_t (nI_le (Nat.le_refl _) (by omega)) h
  · intro n k _ hk _ ih
    have hx := ih () trivial
    have hq := (pq_is hk).2.2
    have e1 : cu_ar S (pq_q S v k) = nI (pq_m S v k) := cu_ti hq
    have hm16 := fw_m16 (km := pq_m S v) (F := fw_F af) (A := A) (b := b) k
    refine br_f (nI_ge hk (by omega)) ⟨vp_in_nI (by omega) (by decide), ?_⟩
    rw [nI_clamp (n := k) (by omega), pq_Aq hA hk, nI_clamp (n := pq_q S v k) (by omega)]
    refine ⟨vp_in_nI (by omega) (by decide), nm_r e1 ?_⟩
    have hbit : nI (pq_m S v k) &&& nI (2 ^ b) = 0 ↔ (pq_m S v k).testBit b = false := by
      have hlt : pq_m S v k &&& 2 ^ b < 2 ^ 31 := Nat.lt_of_le_of_lt Nat.and_le_right (by omega)
      rw [nx_and, iv_n0 hlt, sg_and0]
      constructor
      · intro z
        apply bo_nt
        intro y
        have := z b y
        rw [Nat.testBit_two_pow_self] at this
        exact absurd this (by simp)
      · intro z i hi
        rw [Nat.testBit_two_pow]
        refine decide_eq_false (fun e => ?_)
        subst e
        rw [z] at hi
        exact absurd hi (by simp)
    by_cases z : (pq_m S v k).testBit b = true
    · obtain ⟨f1, f2, f3⟩ := fw_TF (hF k hk z)
      have hle := sg_an_le A (pq_m S v k)
      refine br_f (fun y => by rw [hbit.mp y] at z; exact absurd z (by simp)) ?_
      rw [sg_andn, nI_clamp (n := sg_an A (pq_m S v k)) (by omega), f2]
      refine ⟨vp_in_nI (by omega) (by decide), nm_r (nI_add 1 _) ?_⟩
      have e : fw_m (pq_m S v) (fw_F af) A b (k + 1) = if 1 + fw_F af (sg_an A (pq_m S v k)) < fw_m (pq_m S v) (fw_F af) A b k then 1 + fw_F af (sg_an A (pq_m S v k)) else fw_m (pq_m S v) (fw_F af) A b k := if_pos z
      rw [e] at hx
      by_cases y : 1 + fw_F af (sg_an A (pq_m S v k)) < fw_m (pq_m S v) (fw_F af) A b k
      · rw [if_pos y] at hx
        exact br_f (nI_ge y (by omega)) (nm_r (nI_1 k) hx)
      · rw [if_neg y] at hx
        exact br_t (nI_le (by omega) (by omega)) (nm_r (nI_1 k) hx)
    · have e : fw_m (pq_m S v) (fw_F af) A b (k + 1) = fw_m (pq_m S v) (fw_F af) A b k := if_neg z
      rw [e] at hx
      exact br_t (hbit.mpr (bo_nt z)) (nm_r (nI_1 k) hx)
theorem by_16 : ∀ m, m < 17 → vp_nar .byte (nI m).toInt8.toInt32 = nI m := by decide +kernel
theorem xw_countFewestPrimes (K : nt_K P S T sg dr pe po im s0) {v : Nat → Nat} (hA : pq_A S v apc (3 ^ S)) {post : SX → Prop}
    (h : ∀ af', (∀ A, sg_sub A (pq_w v (2 ^ S)) → fw_T (pq_n S v) (pq_m S v) af' A) → post (xt P S T sg dr pe po im s0 tb vd us ic rc (nI (pq_n S v)) mc ln lh ls ar asn aa ao apt act acu aco aq apc af' ad am)) : wpX_countFewestPrimes post (xt P S T sg dr pe po im s0 tb vd us ic rc (nI (pq_n S v)) mc ln lh ls ar asn aa ao apt act acu aco aq apc af ad am) (nI (pq_w v (2 ^ S))) := by
  have hS := K.2.1
  have hW : pq_w v (2 ^ S) < 2 ^ 16 := pq_wlt hS.2
  have hz := pd_zz 16 (pq_w v (2 ^ S))
  have hct := ct_le (fun i => (pq_w v (2 ^ S)).testBit i) 16
  have hz2 : pd_z 16 (pq_w v (2 ^ S)) ≤ 2 ^ 16 := by rw [hz]; exact Nat.pow_le_pow_right (by decide) hct
  have hz1 : 1 ≤ pd_z 16 (pq_w v (2 ^ S)) := by rw [hz]; exact Nat.two_pow_pos _
  refine xw_sizeOf ?_
  refine nm_r (by rw [sg_s1 (by omega), ← hz]) ⟨vp_in_iff.mpr (by decide), nm_e ?_⟩
  have h0 : fw_T (pq_n S v) (pq_m S v) (upd af (0 : Int32).toNatClampNeg (vp_nar .byte 0)) 0 := by
    refine ⟨0, by omega, ?_, fw_0 _ _⟩
    rw [show (0 : Int32).toNatClampNeg = 0 from by decide, pk_us]
    exact by_16 0 (by decide)
  have key := pk_loop (σ := Nat → Int32) (fun n i s => wX_countFewestPrimes_19 post (nI (pq_w v (2 ^ S))) (nI (pd_z 16 (pq_w v (2 ^ S)))) (nI S) (nI (2 ^ P)) (nI (2 ^ S)) (nI (3 ^ S)) (nI T) (nI im) (nI s0) vd us ic rc (nI (pq_n S v)) mc ln lh ls 65536 n (nI (pd_n 16 (pq_w v (2 ^ S)) (i - 1))) (nI i) (cu_ar S) (fun j => nI (sg j)) (fun j => nI (dr j)) (fun j => nI (pe j)) (fun j => nI (po j)) tb ar asn aa ao apt act acu aco aq apc s ad am)
    (fun i s => 1 ≤ i ∧ ∀ j, j < i → fw_T (pq_n S v) (pq_m S v) s (pd_n 16 (pq_w v (2 ^ S)) j)) (pd_z 16 (pq_w v (2 ^ S))) 1 (upd af (0 : Int32).toNatClampNeg (vp_nar .byte 0)) hz1 ⟨Nat.le_refl _, fun j hj => by
      have : j = 0 := by omega
      subst this
      rw [pd_0]
      exact h0⟩ ?_ ?_
  · rw [Nat.sub_self, pd_0] at key
    exact key
  · rintro n s ⟨_, hI⟩
    refine br_t (nI_le (Nat.le_refl _) (by omega)) (h s (fun A hs => ?_))
    obtain ⟨j, hj, e⟩ := pd_su 16 _ A hW hs
    rw [← e]
    exact hI j hj
  · rintro n i s hi ⟨hi1, hI⟩ ih
    have hlt := pd_lt 16 (pq_w v (2 ^ S)) (i - 1) i (by omega) hi
    have hsub := pd_s 16 (pq_w v (2 ^ S)) i
    have hle := sg_sub_le hsub
    have hnx := pd_nx 16 (pq_w v (2 ^ S)) (i - 1) hW (by omega)
    rw [show i - 1 + 1 = i from by omega] at hnx
    have e1 : (nI (pd_n 16 (pq_w v (2 ^ S)) (i - 1)) - nI (pq_w v (2 ^ S))) &&& nI (pq_w v (2 ^ S)) = nI (pd_n 16 (pq_w v (2 ^ S)) i) := by
      rw [pd_step (by omega) (by omega), hnx]
    have hA0 : pd_n 16 (pq_w v (2 ^ S)) i ≠ 0 := by omega
    obtain ⟨b, hb, hb2⟩ := pd_low _ _ hA0 (Nat.le_refl _)
    have hhit : ∀ j, (pd_n 16 (pq_w v (2 ^ S)) i).testBit j = true → j < 16 ∧ ∃ k, k < pq_n S v ∧ (pq_m S v k).testBit j = true := fun j hj => pq_hit hS.1 hS.2 (hsub j hj)
    have hT : ∀ k, k < pq_n S v → (pq_m S v k).testBit b = true → fw_T (pq_n S v) (pq_m S v) s (sg_an (pd_n 16 (pq_w v (2 ^ S)) i) (pq_m S v k)) := by
      intro k hk hkb
      obtain ⟨j, hj, e⟩ := pd_su 16 _ _ hW (sg_sub_t (sg_sub_an (pd_n 16 (pq_w v (2 ^ S)) i) (pq_m S v k)) hsub)
      have hl := sg_an_lt hb hkb
      rw [← e] at hl ⊢
      exact hI j (pd_inv hl hj)
    refine br_f (nI_ge hi (by omega)) (nm_r e1 (xw_fewestFor K hA hA0 (by omega) hb hb2 hT ⟨vp_in_nI (by omega) (by decide), ?_⟩))
    have hm16 := fw_m16 (km := pq_m S v) (F := fw_F s) (A := pd_n 16 (pq_w v (2 ^ S)) i) (b := b) (pq_n S v)
    have hL := fw_mL (F := fw_F s) hhit hb (fun k hk hkb => (fw_TF (hT k hk hkb)).2.2)
    rw [nI_clamp (n := pd_n 16 (pq_w v (2 ^ S)) i) (by omega), by_16 _ (by omega)]
    refine nm_e (nm_r (nI_1 i) (ih _ ⟨by omega, lt_s (fun j hj => ?_) ?_⟩))
    · obtain ⟨m, y1, y2, y3⟩ := hI j hj
      have hne := pd_lt 16 (pq_w v (2 ^ S)) j i hj hi
      exact ⟨m, y1, by rw [pk_un (by omega)]; exact y2, y3⟩
    · exact ⟨_, hm16, pk_us, hL⟩
/-- what is kept of the cover of signal i -/
def xc_A (S : Nat) (v : Nat → Nat) (i : Nat) (apt act acu aco : Nat → Int32) : Prop := apt i = nI (pq_n S v) ∧ ∃ n M Cc, pq_B S v n M ∧ n ≤ 16 ∧ act i = nI n ∧ (∀ k, k < pq_n S v → nu_in (pq_n S v) M k = true → acu (16 * i + ct_n (nu_in (pq_n S v) M) k) = nI (pq_q S v k)) ∧
  Cc < 65536 ∧ aco i = nI Cc ∧ ∀ c, Cc.testBit c = (decide (c < 2 ^ S) && pq_sc S v (nu_in (pq_n S v) M) c)
theorem xw_chooseCover (K : nt_K P S T sg dr pe po im s0) {v : Nat → Nat} (hA : pq_A S v apc (3 ^ S)) (hT : ∀ A, sg_sub A (pq_w v (2 ^ S)) → fw_T (pq_n S v) (pq_m S v) af A) {i : Nat} (hi : i < 4) (hpt : apt i = nI (pq_n S v)) {post : SX → Prop}
    (h : ∀ (act' acu' aco' : Nat → Int32), xc_A S v i apt act' acu' aco' → (∀ j, j ≠ i → act' j = act j ∧ aco' j = aco j) → (∀ x, (x < 16 * i ∨ 16 * i + 16 ≤ x) → acu' x = acu x) → post (xt P S T sg dr pe po im s0 tb vd us ic rc (nI (pq_n S v)) mc ln lh ls ar asn aa ao apt act' acu' aco' aq apc af ad am)) : wpX_chooseCover post (xt P S T sg dr pe po im s0 tb vd us ic rc (nI (pq_n S v)) mc ln lh ls ar asn aa ao apt act acu aco aq apc af ad am) (nI i) (nI (pq_w v (2 ^ S))) := by
  have hS := K.2.1
  have h81 := cu_81 hS.2
  have hn := pq_le hS.1 hS.2 v
  have hW : pq_w v (2 ^ S) < 65536 := pq_wlt hS.2
  have hF : ∀ A, sg_sub A (pq_w v (2 ^ S)) → fw_L (pq_n S v) (pq_m S v) A (fw_F af A) := fun A hA => (fw_TF (hT A hA)).2.2
  have hFW := (fw_TF (hT _ (sg_sub_r _))).1
  have hvi : vp_in (nI i) 4 := vp_in_nI hi (by decide)
  unfold wpX_chooseCover xt
  try dsimp only
  rw [nI_clamp (by omega)]
  refine ⟨hvi, nm_e ?_⟩
  refine loop_0 (σ := (Nat → Int32) × (Nat → Int32)) (fun n k s => wX_chooseCover_15 post (nI i) (nI S) (nI (2 ^ P)) (nI (2 ^ S)) (nI (3 ^ S)) (nI T) (nI im) (nI s0) vd us ic rc (nI (pq_n S v)) mc ln lh ls 65536 n (nI (gr_O (pq_m S v) (fw_F af) (pq_w v (2 ^ S)) k)) (nI (ct_n (gr_G (pq_m S v) (fw_F af) (pq_w v (2 ^ S))) k)) (nI k) (cu_ar S) (fun j => nI (sg j)) (fun j => nI (dr j)) (fun j => nI (pe j)) (fun j => nI (po j)) tb ar asn aa ao apt act s.1 s.2 aq apc af ad am)
    (fun k s => (∀ j, j < k → gr_G (pq_m S v) (fw_F af) (pq_w v (2 ^ S)) j = true → s.1 (16 * i + ct_n (gr_G (pq_m S v) (fw_F af) (pq_w v (2 ^ S))) j) = nI (pq_q S v j)) ∧ (∀ x, (x < 16 * i ∨ 16 * i + 16 ≤ x) → s.1 x = acu x) ∧ (∀ j, j ≠ i → s.2 j = aco j) ∧
      ∃ Cc, Cc < 65536 ∧ s.2 i = nI Cc ∧ ∀ c, Cc.testBit c = ex_n (fun j => gr_G (pq_m S v) (fw_F af) (pq_w v (2 ^ S)) j && (pq_m S v j).testBit c) k) (pq_n S v) (acu, _) ⟨fun j hj => absurd hj (Nat.not_lt_zero _), fun _ _ => rfl, fun j hj => pk_un hj, 0, by omega, pk_us, fun c => Nat.zero_testBit c⟩ ?_ ?_
  · rintro n ⟨s1, s2⟩ ⟨i1, i2, i3, Cc, i4, i5, i6⟩
    have hend := gr_end hF
    refine br_t (nI_le (Nat.le_refl _) (by omega)) ⟨hvi, ?_⟩
    rw [nI_clamp (n := i) (by omega)]
    refine nm_e ?_
    refine h _ s1 s2 ⟨hpt, fw_F af (pq_w v (2 ^ S)), nu_v (gr_G (pq_m S v) (fw_F af) (pq_w v (2 ^ S))) (pq_n S v), Cc, gr_best hF (fun g => pq_Ciff g), hFW, ?_, fun k hk hin => ?_, i4, i5, fun c => ?_⟩ (fun j hj => ⟨pk_un hj, i3 j hj⟩) i2
    · rw [pk_us, hend.2]
    · have e : ∀ j, j < pq_n S v → nu_in (pq_n S v) (nu_v (gr_G (pq_m S v) (fw_F af) (pq_w v (2 ^ S))) (pq_n S v)) j = gr_G (pq_m S v) (fw_F af) (pq_w v (2 ^ S)) j := fun j hj => nu_of _ hj
      rw [e k hk] at hin
      rw [ct_congr (fun j hj => e j (by omega))]
      exact i1 k hk hin
    · rw [i6 c]
      unfold pq_sc
      by_cases hc : c < 2 ^ S
      · rw [decide_eq_true hc, Bool.true_and]
        refine ex_congr (fun j hj => ?_)
        rw [nu_of _ hj]
        unfold pq_m
        rw [cu_mb, decide_eq_true hc, Bool.true_and]
      · rw [decide_eq_false hc, Bool.false_and]
        refine ex_not.mpr (fun j hj => ?_)
        unfold pq_m
        rw [cu_mb, decide_eq_false hc, Bool.false_and, Bool.and_false]
  · rintro n k ⟨s1, s2⟩ hk ⟨i1, i2, i3, Cc, i4, i5, i6⟩ ih
    have hq := (pq_is hk).2.2
    have e1 : cu_ar S (pq_q S v k) = nI (pq_m S v k) := cu_ti hq
    have hml := pq_mlt hS.2 (v := v) (k := k)
    have hsO := gr_sub (km := pq_m S v) (F := fw_F af) (W := pq_w v (2 ^ S)) k
    have hlO := sg_sub_le hsO
    have hsR := sg_sub_t (sg_sub_an (gr_O (pq_m S v) (fw_F af) (pq_w v (2 ^ S)) k) (pq_m S v k)) hsO
    have hlR := sg_sub_le hsR
    obtain ⟨f1, f2, f3⟩ := fw_TF (hT _ hsO)
    obtain ⟨g1, g2, g3⟩ := fw_TF (hT _ hsR)
    have hcnt := gr_cnt hF k (by omega)
    refine br_f (nI_ge hk (by omega)) ⟨vp_in_nI (by omega) (by decide), ?_⟩
    rw [nI_clamp (n := k) (by omega), pq_Aq hA hk, nI_clamp (n := pq_q S v k) (by omega)]
    refine ⟨vp_in_nI (by omega) (by decide), nm_r e1 (nm_r (sg_andn _ _) ?_)⟩
    rw [nI_clamp (n := gr_O (pq_m S v) (fw_F af) (pq_w v (2 ^ S)) k) (by omega), nI_clamp (n := sg_an (gr_O (pq_m S v) (fw_F af) (pq_w v (2 ^ S)) k) (pq_m S v k)) (by omega), f2, g2]
    refine ⟨vp_in_nI (by omega) (by decide), vp_in_nI (by omega) (by decide), ?_⟩
    cases hG : gr_G (pq_m S v) (fw_F af) (pq_w v (2 ^ S)) k
    · have hGl := of_decide_eq_false hG
      refine br_t (nI_le (by omega) (by omega)) (nm_r (nI_1 k) ?_)
      have e2 : ct_n (gr_G (pq_m S v) (fw_F af) (pq_w v (2 ^ S))) (k + 1) = ct_n (gr_G (pq_m S v) (fw_F af) (pq_w v (2 ^ S))) k := by show _ + (gr_G (pq_m S v) (fw_F af) (pq_w v (2 ^ S)) k).toNat = _; rw [hG]; rfl
      have hx := ih (s1, s2) ⟨lt_s i1 (fun z => absurd (hG.symm.trans z) (by simp)), i2, i3, Cc, i4, i5, fun c => by
        rw [i6 c]
        show _ = (ex_n _ k || (gr_G (pq_m S v) (fw_F af) (pq_w v (2 ^ S)) k && (pq_m S v k).testBit c))
        rw [hG, Bool.false_and, Bool.or_false]⟩
      try dsimp only at hx
      rw [e2, gr_O0 hG] at hx
      exact hx
    · have hGl := of_decide_eq_true hG
      have e2 : ct_n (gr_G (pq_m S v) (fw_F af) (pq_w v (2 ^ S))) (k + 1) = ct_n (gr_G (pq_m S v) (fw_F af) (pq_w v (2 ^ S))) k + 1 := by show _ + (gr_G (pq_m S v) (fw_F af) (pq_w v (2 ^ S)) k).toNat = _; rw [hG]; rfl
      refine br_f (nI_ge hGl (by omega)) ⟨vp_in_nI (by omega) (by decide), ?_⟩
      rw [iv_16, nI_clamp (n := i * 16 + ct_n (gr_G (pq_m S v) (fw_F af) (pq_w v (2 ^ S))) k) (by omega), nI_clamp (n := i) (by omega)]
      refine ⟨vp_in_nI (by omega) (by decide), nm_e ⟨hvi, hvi, nm_r (show _ = upd s2 i (nI (Cc ||| pq_m S v k)) from by
        show upd s2 i (s2 i ||| nI (pq_m S v k)) = _
        rw [show s2 i = nI Cc from i5, sg_or]) (nm_r (nI_1 _) (nm_r (nI_1 k) ?_))⟩⟩
      have hx := ih (upd s1 (i * 16 + ct_n (gr_G (pq_m S v) (fw_F af) (pq_w v (2 ^ S))) k) (nI (pq_q S v k)), upd s2 i (nI (Cc ||| pq_m S v k))) ⟨lt_s (fun j hj z => ?_) (fun _ => ?_), fun x hx => ?_, fun j hj => ?_, Cc ||| pq_m S v k, ?_, pk_us, fun c => ?_⟩
      · dsimp only at hx
        rw [e2, gr_O1 hG] at hx
        exact hx
      · have := ct_pos (f := gr_G (pq_m S v) (fw_F af) (pq_w v (2 ^ S))) hj z
        try dsimp only
        rw [pk_un (by omega)]
        exact i1 j hj z
      · try dsimp only
        rw [Nat.mul_comm 16 i]
        exact pk_us
      · try dsimp only
        rw [pk_un (by omega)]
        exact i2 x hx
      · try dsimp only
        rw [pk_un hj]
        exact i3 j hj
      · exact Nat.or_lt_two_pow (n := 16) i4 hml
      · rw [Nat.testBit_or, i6 c]
        show _ = (ex_n _ k || (gr_G (pq_m S v) (fw_F af) (pq_w v (2 ^ S)) k && (pq_m S v k).testBit c))
        rw [hG, Bool.true_and]
theorem xc_fr {S : Nat} {v : Nat → Nat} {i j : Nat} {apt act acu aco apt' act' acu' aco' : Nat → Int32} (A : xc_A S v j apt act acu aco) (hne : j ≠ i) (h1 : apt' j = apt j) (h2 : act' j = act j ∧ aco' j = aco j) (h3 : ∀ x, (x < 16 * i ∨ 16 * i + 16 ≤ x) → acu' x = acu x) : xc_A S v j apt' act' acu' aco' := by
  obtain ⟨a1, n, M, Cc, a2, a3, a4, a5, a6, a7, a8⟩ := A
  refine ⟨by rw [h1]; exact a1, n, M, Cc, a2, a3, by rw [h2.1]; exact a4, fun k hk hin => ?_, a6, by rw [h2.2]; exact a7, a8⟩
  have hlt := ct_pos (f := nu_in (pq_n S v) M) hk hin
  have hn : ct_n (nu_in (pq_n S v) M) (pq_n S v) = n := a2.2.2.1
  rw [h3 _ (by omega)]
  exact a5 k hk hin
theorem xw_synthesise (K : nt_K P S T sg dr pe po im s0) {R : Nat → Bool} (A : xe_A T sg dr pe po R 1024 asn aa ao) {post : SX → Prop}
    (h : ∀ (pc' : Int32) (apt' act' acu' aco' apc' af' : Nat → Int32), (∀ i, i < S → im.testBit i = false → xc_A S (nt_v T sg dr pe po R i) i apt' act' acu' aco') → post (xt P S T sg dr pe po im s0 tb vd us ic rc pc' mc ln lh ls ar asn aa ao apt' act' acu' aco' aq apc' af' ad am)) : wpX_synthesise post (xt P S T sg dr pe po im s0 tb vd us ic rc pc mc ln lh ls ar asn aa ao apt act acu aco aq apc af ad am) := by
  have hS := K.2.1
  refine loop_0 (σ := Int32 × (Nat → Int32) × (Nat → Int32) × (Nat → Int32) × (Nat → Int32) × (Nat → Int32) × (Nat → Int32)) (fun n i s => wX_synthesise_2 post n (nI i) (nI S) (nI (2 ^ P)) (nI (2 ^ S)) (nI (3 ^ S)) (nI T) (nI im) (nI s0) vd us ic rc s.1 mc ln lh ls (cu_ar S) (fun j => nI (sg j)) (fun j => nI (dr j)) (fun j => nI (pe j)) (fun j => nI (po j)) tb ar asn aa ao s.2.1 s.2.2.1 s.2.2.2.1 s.2.2.2.2.1 aq s.2.2.2.2.2.1 s.2.2.2.2.2.2 ad am 65536)
    (fun i s => ∀ j, j < i → im.testBit j = false → xc_A S (nt_v T sg dr pe po R j) j s.2.1 s.2.2.1 s.2.2.2.1 s.2.2.2.2.1) S (pc, apt, act, acu, aco, apc, af) (fun j hj => absurd hj (Nat.not_lt_zero _)) ?_ ?_
  · rintro n ⟨pc', apt', act', acu', aco', apc', af'⟩ hI
    exact br_t (nI_le (Nat.le_refl _) (by omega)) (h pc' apt' act' acu' aco' apc' af' hI)
  · rintro n i ⟨pc', apt', act', acu', aco', apc', af'⟩ hi hI ih
    refine br_f (nI_ge hi (by omega)) (xw_isOutput hS.2 hi (bo_br (fun z => nm_r (nI_1 i) (ih (pc', apt', act', acu', aco', apc', af') (lt_s hI (fun y => ?_)))) (fun z => xw_codesWithNext K A (a := 1) (by omega) (by omega) (xw_codesWithNext K A (a := 0) (by omega) (by omega) (xw_listPrimes K (fun apc2 hP => ⟨vp_in_nI (by omega) (by decide), ?_⟩))))))
    · rw [y] at z
      exact absurd z (by simp)
    · rw [nI_clamp (by omega)]
      refine nm_e (xw_countFewestPrimes K hP (fun af2 hT => xw_chooseCover K hP hT (by omega) pk_us (fun act2 acu2 aco2 c1 c2 c3 => nm_r (nI_1 i) (ih (_, _, act2, acu2, aco2, apc2, af2) (lt_s (fun j hj y => ?_) (fun _ => c1))))))
      exact xc_fr (i := i) (hI j hj y) (by omega) (pk_un (by omega)) (c2 j (by omega)) c3
end
