/-! the readers' terms -/
theorem iv_le {n : Nat} (h : n < 1024) : n < 2 ^ 31 := by omega
theorem iv_31 {n k : Nat} (h : n < k) (hk : k ≤ 65536 := by omega) : n < 2 ^ 31 := by omega
theorem iv_n0 {n : Nat} (h : n < 2 ^ 31) : nI n = 0 ↔ n = 0 := by rw [← nI_0]; exact nI_eq h (by omega)
theorem iv_enY {pe : Nat → Nat} {t m : Nat} (hm : m < 64) (hp : pe t < 64) : nI m &&& nI (pe t) = nI (pe t) ↔ nt_en pe t m = true := by
  have h : m &&& pe t < 2 ^ 31 := Nat.lt_of_le_of_lt Nat.and_le_left (by omega)
  rw [nx_and, nI_eq h (by omega)]
  unfold nt_en
  exact beq_iff_eq.symm
theorem iv_enX {pe : Nat → Nat} {t m : Nat} (hp : pe t < 64) : nI (pe t) &&& (nI m ^^^ (-1)) = 0 ↔ nt_en pe t m = true := by
  have h : sg_an (pe t) m < 2 ^ 31 := Nat.lt_of_le_of_lt (sg_an_le _ _) (by omega)
  rw [sg_andn, iv_n0 h, nt_enX]
theorem iv_un {pe po : Nat → Nat} {t m : Nat} (hm : m < 64) : (nI m &&& (nI (pe t) ^^^ (-1))) &&& nI (po t) = 0 ↔ nt_un pe po t m = false := by
  have h : sg_an m (pe t) &&& po t < 2 ^ 31 := Nat.lt_of_le_of_lt Nat.and_le_left (Nat.lt_of_le_of_lt (sg_an_le _ _) (by omega))
  rw [sg_andn, nx_and, iv_n0 h]
  unfold nt_un
  rw [bne_eq_false_iff_eq]
theorem iv_ic {sg dr : Nat → Nat} {t c : Nat} (hs : sg t < 4) (hd : dr t ≤ 1) : (nI c >>> (nI (sg t) &&& 31)) &&& 1 = nI (dr t) ↔ nt_ic sg dr t c = true := by
  rw [sg_bitN c (by omega), nI_eq (sg_tl _) (by omega)]
  unfold nt_ic
  exact beq_iff_eq.symm
theorem iv_fm {pe po : Nat → Nat} {t m : Nat} : (nI m &&& (nI (pe t) ^^^ (-1))) ||| nI (po t) = nI (nt_fm pe po t m) := by
  rw [sg_andn, sg_or]; rfl
theorem iv_16 (a b : Nat) : nI a * 16 + nI b = nI (a * 16 + b) := by
  show nI a * nI 16 + nI b = _
  rw [pk_mul, nI_add]
theorem iv_16' (a b : Nat) : 16 * nI a + nI b = nI (16 * a + b) := by
  show nI 16 * nI a + nI b = _
  rw [pk_mul, nI_add]
theorem iv_fcX {S : Nat} (hS : S ≤ 4) {sg dr pe po : Nat → Nat} (B : nt_B S sg dr pe po) {t c : Nat} : (nI c &&& (((1 : Int32) <<< (nI (sg t) &&& 31)) ^^^ (-1))) ||| (nI (dr t) <<< (nI (sg t) &&& 31)) = nI (nt_fc sg dr t c) := by
  have hs := (B t).1
  have hd := (B t).2.1
  have h16 : 2 ^ sg t ≤ 16 := nt_pS (by omega)
  have hm : dr t * 2 ^ sg t ≤ 16 := by
    have : dr t = 0 ∨ dr t = 1 := by omega
    rcases this with e | e <;> rw [e] <;> omega
  rw [sg_s1 (by omega), sg_andn, pk_shlN (nI (sg t) &&& 31) (sg t) (s_l _ (by omega)) (by omega), sg_or, nt_fcX B]
theorem iv_bS {S : Nat} (hS : S ≤ 4) {sg dr pe po : Nat → Nat} (B : nt_B S sg dr pe po) (t : Nat) : sg t < 4 ∧ dr t ≤ 1 ∧ pe t < 64 ∧ po t < 64 := ⟨Nat.lt_of_lt_of_le (B t).1 hS, (B t).2⟩
theorem iv_div {s : Nat} (h : s < 1024) : nI s / 16 = nI (s / 16) := pk_div (d := 16) (by omega) (by omega) (by omega)
theorem iv_rem {s : Nat} (h : s < 1024) : nI s - nI s / 16 * 16 = nI (s % 16) := pk_rem (d := 16) (by omega) (by omega) (by omega)
theorem iv_p {k : Nat} (hk : k < 31) : (1 : Int32) <<< (nI k &&& 31) = nI (2 ^ k) := sg_s1 hk
/-- an int within 0 and n, as a number -/
theorem iv_ix (x : Int32) {n : Nat} (hn : n < 2 ^ 31) : (∃ j, j < n ∧ x = nI j) ∨ (x < 0 ∨ nI n ≤ x) := by
  rcases pk_ix x hn with h | h | h
  · exact Or.inr (Or.inl h)
  · exact Or.inr (Or.inr h)
  · exact Or.inl h
theorem iv_up (sg : Nat → Nat) (k x : Nat) : upd (fun j => nI (sg j)) k (nI x) = fun j => nI (if j = k then x else sg j) := by
  funext j
  show (if j = k then nI x else nI (sg j)) = _
  by_cases e : j = k
  · rw [if_pos e, if_pos e]
  · rw [if_neg e, if_neg e]
theorem iv_upb (im k : Nat) (b : Bool) (im' : Nat) (h : ∀ j, im'.testBit j = if j = k then b else im.testBit j) : upd (fun j => nI (im.testBit j).toNat) k (nI b.toNat) = fun j => nI (im'.testBit j).toNat := by
  funext j
  show (if j = k then nI b.toNat else nI (im.testBit j).toNat) = _
  rw [h j]
  by_cases e : j = k
  · rw [if_pos e, if_pos e]
  · rw [if_neg e, if_neg e]
