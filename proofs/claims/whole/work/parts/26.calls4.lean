/-! verify, witness -/
section
variable {P S T : Nat} {sg dr pe po : Nat → Nat} {im s0 : Nat} {tb : Nat → Int32}
variable {vd us ic rc pc mc ln lh ls cm cc : Int32} {ar asn aa ao apt act acu aco aq apc af ad am yr ym yn yi yp yv : Nat → Int32}
theorem sk_5 {inp : Nat → Bool} {dv : Nat → Nat → Bool} (s : Nat) : sh_k S T inp dv sg dr pe po 5 s = sh_n S T dv sg pe s := if_pos rfl
theorem sk_6 {inp : Nat → Bool} {dv : Nat → Nat → Bool} (s : Nat) : sh_k S T inp dv sg dr pe po 6 s = sh_h S T inp dv sg dr pe po s := by
  unfold sh_k
  rw [if_neg (by decide), if_pos rfl]
theorem sk_7 {inp : Nat → Bool} {dv : Nat → Nat → Bool} (s : Nat) : sh_k S T inp dv sg dr pe po 7 s = sh_s S T inp dv sg pe s := by
  unfold sh_k
  rw [if_neg (by decide), if_neg (by decide), if_pos rfl]
theorem sk_n {inp : Nat → Bool} {dv : Nat → Nat → Bool} {x : Int32} (h5 : ¬ x = 5) (h6 : ¬ x = 6) (h7 : ¬ x = 7) (s : Nat) : sh_k S T inp dv sg dr pe po x s = false := by
  unfold sh_k
  rw [if_neg h5, if_neg h6, if_neg h7]
theorem sk_u {R Q f g : Nat → Bool} (e : ∀ s, s < 1024 → R s = Q s) (h : ∀ s, f s = g s) {a b : Int32} (ha : ls_n (fun s => R s && f s) 1024 a) (hb : ls_n (fun s => Q s && g s) 1024 b) : a = b :=
  ls_uniq (ls_congr (g := fun s => Q s && g s) (fun s hs => by rw [e s hs, h s]) ha) hb
/-- the least one of a kind, given the other side's -/
theorem yw_first (K : nt_K P S T sg dr pe po im s0) (hV : gt_V S im tb aco yv S) {R2 Q : Nat → Bool} (hA : rp_A ym Q) (hQ : rc_is (me_st T im.testBit (gt_D im tb aco) sg dr pe po) s0 Q) (hR : rc_is (me_st T im.testBit (gt_D im tb aco) sg dr pe po) s0 R2) {x : Int32} {f : Nat → Bool} (hf : ∀ s, sh_k S T im.testBit (gt_D im tb aco) sg dr pe po x s = f s) {r : Int32} (hr : ls_n (fun s => R2 s && f s) 1024 r) {post : Int32 → Prop} (h : post r) : wpY_firstThatShows post (yt P S T sg dr pe po im s0 tb vd pc cm cc yr ym yn yi yp yv) x :=
  yw_firstThatShows K hV hA hQ (fun r' hr' => by rw [sk_u (rc_uniq hQ hR) hf hr' hr]; exact h)
theorem yw_verify (K : nt_K P S T sg dr pe po im s0) {R : Nat → Bool} (hR : rp_A yr R) (G : gt_T tb) (hx : ∀ i, i < S → im.testBit i = false → xc_A S (nt_v T sg dr pe po R i) i apt act acu aco) {R2 : Nat → Bool} (h2 : rc_is (me_st T im.testBit (gt_D im tb aco) sg dr pe po) s0 R2) {l5 l6 l7 r : Int32}
    (a5 : ls_n (fun s => R2 s && sh_n S T (gt_D im tb aco) sg pe s) 1024 l5) (a6 : ls_n (fun s => R2 s && sh_h S T im.testBit (gt_D im tb aco) sg dr pe po s) 1024 l6) (a7 : ls_n (fun s => R2 s && sh_s S T im.testBit (gt_D im tb aco) sg pe s) 1024 l7)
    (hr : (¬ l5 = -1 ∧ r = 5) ∨ (l5 = -1 ∧ ¬ l6 = -1 ∧ r = 6) ∨ (l5 = -1 ∧ l6 = -1 ∧ ¬ l7 = -1 ∧ r = 7) ∨ (l5 = -1 ∧ l6 = -1 ∧ l7 = -1 ∧ r = 1)) {post : Int32 → SY → Prop}
    (h : ∀ (pc' cm' cc' : Int32) (yn' yi' yp' yv' ym' : Nat → Int32), post r (yt P S T sg dr pe po im s0 tb (nI 1) pc' cm' cc' yr ym' yn' yi' yp' yv')) : wpY_verify post (yt P S T sg dr pe po im s0 tb (nI 1) pc cm cc yr ym yn yi yp yv) := by
  refine br_t rfl (yw_findMet K hR G hx (fun pc' cm' cc' yn' yi' yp' yv' ym' Q hV hA hQ => ⟨4, ?_⟩))
  have hh := h pc' cm' cc' yn' yi' yp' yv' ym'
  refine br_f (by decide) (yw_first K hV hA hQ h2 sk_5 a5 ?_)
  rcases hr with ⟨c1, rfl⟩ | ⟨c1, c2, rfl⟩ | ⟨c1, c2, c3, rfl⟩ | ⟨c1, c2, c3, rfl⟩
  · exact br_f c1 hh
  · exact br_t c1 (nm_r (show (5 : Int32) + 1 = 6 from by decide) (br_f (by decide) (yw_first K hV hA hQ h2 sk_6 a6 (br_f c2 hh))))
  · exact br_t c1 (nm_r (show (5 : Int32) + 1 = 6 from by decide) (br_f (by decide) (yw_first K hV hA hQ h2 sk_6 a6 (br_t c2 (nm_r (show (6 : Int32) + 1 = 7 from by decide) (br_f (by decide) (yw_first K hV hA hQ h2 sk_7 a7 (br_f c3 hh))))))))
  · exact br_t c1 (nm_r (show (5 : Int32) + 1 = 6 from by decide) (br_f (by decide) (yw_first K hV hA hQ h2 sk_6 a6 (br_t c2 (nm_r (show (6 : Int32) + 1 = 7 from by decide) (br_f (by decide) (yw_first K hV hA hQ h2 sk_7 a7 (br_t c3 (nm_r (show (7 : Int32) + 1 = 8 from by decide) (br_t (by decide) hh))))))))))
theorem i_vc_verify {k : Nat} {u : SX} {v : SY} (I : i_Rel k u v) (hk : k + 5 ≤ 2562) : wpX_verify (fun r u' => wpY_verify (fun r' v' => r' = r ∧ i_Rel (k + 5) u' v') v) u := by
  obtain ⟨P, S, T, sg, dr, pe, po, im, s0, tb, d, us, ic, rc, pc, mc, ln, lh, ls, ar, asn, aa, ao, apt, act, acu, aco, aq, apc, af, ad, am, pcy, cm, cc, yr, ym, yn, yi, yp, yv, rfl, rfl, K, G, V⟩ := I
  have hd := V.1
  by_cases h1 : d = 1
  · subst h1
    rcases V.2 with z | ⟨R, r1, r2, r3, r4, r5, r6⟩
    · exact absurd z (by decide)
    · refine br_t rfl (xw_meetStates K (fun R2 ad' am' aq' A a1 a2 => xw_noteFailures K A a1 a2 (fun l5 l6 l7 b5 b6 b7 => ?_)))
      by_cases c5 : l5 = -1
      · refine br_t c5 ?_
        by_cases c6 : l6 = -1
        · refine br_t c6 ?_
          by_cases c7 : l7 = -1
          · exact br_t c7 (yw_verify K r3 G (r6 rfl) a2 b5 b6 b7 (Or.inr (Or.inr (Or.inr ⟨c5, c6, c7, rfl⟩))) (fun _ _ _ _ _ _ _ _ => ⟨rfl, re_mk K G V⟩))
          · exact br_f c7 (yw_verify K r3 G (r6 rfl) a2 b5 b6 b7 (Or.inr (Or.inr (Or.inl ⟨c5, c6, c7, rfl⟩))) (fun _ _ _ _ _ _ _ _ => ⟨rfl, re_mk K G V⟩))
        · exact br_f c6 (yw_verify K r3 G (r6 rfl) a2 b5 b6 b7 (Or.inr (Or.inl ⟨c5, c6, rfl⟩)) (fun _ _ _ _ _ _ _ _ => ⟨rfl, re_mk K G V⟩))
      · exact br_f c5 (yw_verify K r3 G (r6 rfl) a2 b5 b6 b7 (Or.inl ⟨c5, rfl⟩) (fun _ _ _ _ _ _ _ _ => ⟨rfl, re_mk K G V⟩))
  · have hn : ¬ nI d = 1 := fun z => h1 ((nI_eq (b := 1) (by omega) (by omega)).mp z)
    exact br_f hn (br_f hn ⟨rfl, re_mk K G V⟩)
theorem yw_wit1 {Q : Nat → Bool} (hA : rp_A ym Q) {post : Int32 → SY → Prop} (h : post (nI (ct_n Q 1024)) (yt P S T sg dr pe po im s0 tb vd pc cm cc yr ym yn yi yp yv)) : ∃ n29, wY_witness_29 post (nI P) (nI S) (nI (s0 / 16)) (nI (s0 % 16)) (nI T) vd pc cm cc (fun j => nI (sg j)) (fun j => nI (dr j)) (fun j => nI (pe j)) (fun j => nI (po j)) (fun j => nI (im.testBit j).toNat) tb yr ym yn yi yp yv n29 0 0 := by
  refine loop_0 (σ := Unit) (fun n s _ => wY_witness_29 post (nI P) (nI S) (nI (s0 / 16)) (nI (s0 % 16)) (nI T) vd pc cm cc (fun j => nI (sg j)) (fun j => nI (dr j)) (fun j => nI (pe j)) (fun j => nI (po j)) (fun j => nI (im.testBit j).toNat) tb yr ym yn yi yp yv n (nI (ct_n Q s)) (nI s)) (fun _ _ => True) 1024 () trivial ?_ ?_
  · intro n _ _
    exact br_t (nI_le (Nat.le_refl 1024) (by decide)) h
  · intro n s _ hs _ ih
    have hn := ih () trivial
    refine br_f (nI_ge hs (by decide)) ⟨vp_in_nI hs (by decide), ?_⟩
    rw [nI_clamp (by omega), hA s hs]
    refine bo_br (fun h1 => nm_r (nI_1 s) ?_) (fun h1 => nm_r (nI_1 _) (nm_r (nI_1 s) ?_))
    · have e1 : ct_n Q (s + 1) = ct_n Q s := by show ct_n Q s + (Q s).toNat = _; rw [h1]; rfl
      rw [e1] at hn
      exact hn
    · have e1 : ct_n Q (s + 1) = ct_n Q s + 1 := by show ct_n Q s + (Q s).toNat = _; rw [h1]; rfl
      rw [e1] at hn
      exact hn
theorem iv_w {x : Int32} (c1 : ¬ x = 1) (c5 : ¬ x = 5) (c6 : ¬ x = 6) (c7 : ¬ x = 7) {A B C D E : Prop} (a : A) :
    (x < 1 → A) ∧ (¬ x < 1 → ((7 < x → A) ∧ (¬ 7 < x → ((x = 1 → B) ∧ (¬ x = 1 → ((x = 2 → A) ∧ (¬ x = 2 → ((x = 3 → A) ∧ (¬ x = 3 → ((x = 4 → A) ∧ (¬ x = 4 → ((x = 5 → C) ∧ (¬ x = 5 → ((x = 6 → D) ∧ (¬ x = 6 → ((x = 7 → E) ∧ (¬ x = 7 → True))))))))))))))))) :=
  ⟨fun _ => a, fun _ => ⟨fun _ => a, fun _ => ⟨fun z => absurd z c1, fun _ => ⟨fun _ => a, fun _ => ⟨fun _ => a, fun _ => ⟨fun _ => a, fun _ => ⟨fun z => absurd z c5, fun _ => ⟨fun z => absurd z c6, fun _ => ⟨fun z => absurd z c7, fun _ => trivial⟩⟩⟩⟩⟩⟩⟩⟩⟩
theorem i_vc_witness {k : Nat} {u : SX} {v : SY} (I : i_Rel k u v) (hk : k + 5 ≤ 2562) (v1 : Int32) : wpX_witness (fun r u' => wpY_witness (fun r' v' => r' = r ∧ i_Rel (k + 5) u' v') v v1) u v1 := by
  obtain ⟨P, S, T, sg, dr, pe, po, im, s0, tb, d, us, ic, rc, pc, mc, ln, lh, ls, ar, asn, aa, ao, apt, act, acu, aco, aq, apc, af, ad, am, pcy, cm, cc, yr, ym, yn, yi, yp, yv, rfl, rfl, K, G, V⟩ := I
  have hd := V.1
  by_cases h1 : d = 1
  · subst h1
    rcases V.2 with z | ⟨R, r1, r2, r3, r4, r5, r6⟩
    · exact absurd z (by decide)
    · refine br_t rfl (xw_meetStates K (fun R2 ad' am' aq' A a1 a2 => xw_noteFailures K A a1 a2 (fun l5 l6 l7 b5 b6 b7 => ?_)))
      by_cases c1 : v1 = 1
      · subst c1
        refine br_f (by decide) (br_f (by decide) (br_t rfl (br_t rfl (yw_findMet K r3 G (r6 rfl) (fun pc' cm' cc' yn' yi' yp' yv' ym' Q hV hA hQ => br_t rfl (yw_wit1 hA ⟨?_, re_mk K G V⟩))))))
        rw [ct_congr (rc_uniq hQ a2)]
      · by_cases c5 : v1 = 5
        · subst c5
          exact br_f (by decide) (br_f (by decide) (br_f c1 (br_f (by decide) (br_f (by decide) (br_f (by decide) (br_t rfl (br_t rfl (yw_findMet K r3 G (r6 rfl) (fun pc' cm' cc' yn' yi' yp' yv' ym' Q hV hA hQ => br_f c1 (yw_first K hV hA hQ a2 sk_5 b5 ⟨rfl, re_mk K G V⟩))))))))))
        · by_cases c6 : v1 = 6
          · subst c6
            exact br_f (by decide) (br_f (by decide) (br_f c1 (br_f (by decide) (br_f (by decide) (br_f (by decide) (br_f c5 (br_t rfl (br_t rfl (yw_findMet K r3 G (r6 rfl) (fun pc' cm' cc' yn' yi' yp' yv' ym' Q hV hA hQ => br_f c1 (yw_first K hV hA hQ a2 sk_6 b6 ⟨rfl, re_mk K G V⟩)))))))))))
          · by_cases c7 : v1 = 7
            · subst c7
              exact br_f (by decide) (br_f (by decide) (br_f c1 (br_f (by decide) (br_f (by decide) (br_f (by decide) (br_f c5 (br_f c6 (br_t rfl (br_t rfl (yw_findMet K r3 G (r6 rfl) (fun pc' cm' cc' yn' yi' yp' yv' ym' Q hV hA hQ => br_f c1 (yw_first K hV hA hQ a2 sk_7 b7 ⟨rfl, re_mk K G V⟩))))))))))))
            · refine iv_w c1 c5 c6 c7 (br_t rfl (yw_findMet K r3 G (r6 rfl) (fun pc' cm' cc' yn' yi' yp' yv' ym' Q hV hA hQ => br_f c1 (yw_firstThatShows K hV hA hQ (fun r hr => ⟨?_, re_mk K G V⟩)))))
              rcases hr with ⟨e, _⟩ | ⟨j, _, _, hj, _⟩
              · exact e
              · dsimp only at hj
                rw [sk_n c5 c6 c7, Bool.and_false] at hj
                exact absurd hj (by simp)
  · have hn : ¬ nI d = 1 := fun z => h1 ((nI_eq (b := 1) (by omega) (by omega)).mp z)
    exact br_f hn (br_f hn ⟨rfl, re_mk K G V⟩)
end
