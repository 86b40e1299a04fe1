/-! the net: sg signal, dr direction, pe pre, po post of a transition -/
def nt_en (pe : Nat → Nat) (t m : Nat) : Bool := (m &&& pe t) == pe t
def nt_un (pe po : Nat → Nat) (t m : Nat) : Bool := (sg_an m (pe t) &&& po t) != 0
def nt_ic (sg dr : Nat → Nat) (t c : Nat) : Bool := (c.testBit (sg t)).toNat == dr t
def nt_fm (pe po : Nat → Nat) (t m : Nat) : Nat := sg_an m (pe t) ||| po t
def nt_fc (sg dr : Nat → Nat) (t c : Nat) : Nat := if dr t = 1 then c ||| 2 ^ sg t else sg_an c (2 ^ sg t)
def nt_fr (sg dr pe po : Nat → Nat) (t s : Nat) : Nat := nt_fm pe po t (s / 16) * 16 + nt_fc sg dr t (s % 16)
/-- the bounds of a net with S signals -/
def nt_B (S : Nat) (sg dr pe po : Nat → Nat) : Prop := ∀ t, sg t < S ∧ dr t ≤ 1 ∧ pe t < 64 ∧ po t < 64
theorem nt_fm_lt {S : Nat} {sg dr pe po : Nat → Nat} (B : nt_B S sg dr pe po) (t : Nat) {m : Nat} (hm : m < 64) : nt_fm pe po t m < 64 := by
  have h1 : sg_an m (pe t) < 2 ^ 6 := Nat.lt_of_le_of_lt (sg_an_le _ _) hm
  exact Nat.or_lt_two_pow (n := 6) h1 (B t).2.2.2
theorem nt_fc_lt {S : Nat} {sg dr pe po : Nat → Nat} (B : nt_B S sg dr pe po) (t : Nat) {c : Nat} (hc : c < 2 ^ S) : nt_fc sg dr t c < 2 ^ S := by
  unfold nt_fc
  by_cases h : dr t = 1
  · rw [if_pos h]
    exact Nat.or_lt_two_pow hc (Nat.pow_lt_pow_right (by decide) (B t).1)
  · rw [if_neg h]
    exact Nat.lt_of_le_of_lt (sg_an_le _ _) hc
theorem nt_pS {S : Nat} (hS : S ≤ 4) : 2 ^ S ≤ 16 := (Nat.pow_le_pow_right (by decide) hS : 2 ^ S ≤ 2 ^ 4)
theorem nt_fr_div {S : Nat} (hS : S ≤ 4) {sg dr pe po : Nat → Nat} (B : nt_B S sg dr pe po) (t : Nat) {s : Nat} : nt_fr sg dr pe po t s / 16 = nt_fm pe po t (s / 16) ∧ nt_fr sg dr pe po t s % 16 = nt_fc sg dr t (s % 16) := by
  have B4 : nt_B 4 sg dr pe po := fun t => ⟨Nat.lt_of_lt_of_le (B t).1 hS, (B t).2⟩
  have h : nt_fc sg dr t (s % 16) < 2 ^ 4 := nt_fc_lt B4 t (Nat.mod_lt _ (by decide))
  unfold nt_fr
  omega
theorem nt_fr_lt {S : Nat} (hS : S ≤ 4) {sg dr pe po : Nat → Nat} (B : nt_B S sg dr pe po) (t : Nat) {s : Nat} (h : s < 1024) : nt_fr sg dr pe po t s < 1024 := by
  obtain ⟨h1, h2⟩ := nt_fr_div hS B t (s := s)
  have h3 := nt_fm_lt B t (m := s / 16) (by omega)
  omega
theorem nt_fr_c {S : Nat} (hS : S ≤ 4) {sg dr pe po : Nat → Nat} (B : nt_B S sg dr pe po) (t : Nat) {s : Nat} (h : s % 16 < 2 ^ S) : nt_fr sg dr pe po t s % 16 < 2 ^ S := by
  rw [(nt_fr_div hS B t (s := s)).2]
  exact nt_fc_lt B t h
/-- the component's code after a step -/
theorem nt_fcX {S : Nat} {sg dr pe po : Nat → Nat} (B : nt_B S sg dr pe po) (t c : Nat) : sg_an c (2 ^ sg t) ||| dr t * 2 ^ sg t = nt_fc sg dr t c := by
  unfold nt_fc
  have hd := (B t).2.1
  by_cases h : dr t = 1
  · rw [if_pos h, h, Nat.one_mul]
    apply Nat.eq_of_testBit_eq
    intro i
    rw [Nat.testBit_or, Nat.testBit_or, sg_anb]
    cases c.testBit i <;> cases (2 ^ sg t).testBit i <;> rfl
  · have : dr t = 0 := by omega
    rw [if_neg h, this, Nat.zero_mul, Nat.or_zero]
theorem nt_enX (pe : Nat → Nat) (t m : Nat) : sg_an (pe t) m = 0 ↔ nt_en pe t m = true := by
  unfold nt_en
  rw [sg_an_0, beq_iff_eq, Nat.and_comm]
  exact ⟨sg_sub_and, sg_sub_of⟩
/-- a step that explore follows -/
def nt_ok (sg dr pe po : Nat → Nat) (t s : Nat) : Bool := nt_en pe t (s / 16) && (!(nt_un pe po t (s / 16)) && !(nt_ic sg dr t (s % 16)))
def nt_st (T : Nat) (sg dr pe po : Nat → Nat) (a b : Nat) : Prop := ∃ t, t < T ∧ nt_ok sg dr pe po t a = true ∧ b = nt_fr sg dr pe po t a
theorem nt_st_lt {S T : Nat} (hS : S ≤ 4) {sg dr pe po : Nat → Nat} (B : nt_B S sg dr pe po) : ∀ a b, a < 1024 → nt_st T sg dr pe po a b → b < 1024 := by
  rintro a b ha ⟨t, _, _, e⟩
  rw [e]
  exact nt_fr_lt hS B t ha
/-- some enabled transition of a state in R puts a token where one is; repeats a value -/
def nt_U (T : Nat) (pe po : Nat → Nat) (R : Nat → Bool) : Bool := ex_n (fun s => ex_n (fun t => R s && (nt_en pe t (s / 16) && nt_un pe po t (s / 16))) T) 1024
def nt_I (T : Nat) (sg dr pe : Nat → Nat) (R : Nat → Bool) : Bool := ex_n (fun s => ex_n (fun t => R s && (nt_en pe t (s / 16) && nt_ic sg dr t (s % 16))) T) 1024
/-- signal i is excited at m, c -/
def nt_ex (T : Nat) (sg dr pe po : Nat → Nat) (i m c : Nat) : Bool := ex_n (fun t => (sg t == i) && (nt_en pe t m && (!(nt_un pe po t m) && !(nt_ic sg dr t c)))) T
/-- signal i has an enabled transition at m -/
def nt_he (T : Nat) (sg pe : Nat → Nat) (i m : Nat) : Bool := ex_n (fun t => (sg t == i) && nt_en pe t m) T
/-- the next value of signal i at code c: seen and excited per marking -/
def nv_all (R : Nat → Bool) (X : Nat → Bool) (c : Nat) : Bool := al_n (fun m => !(R (16 * m + c)) || X m) 64
def nv_any (R : Nat → Bool) (X : Nat → Bool) (c : Nat) : Bool := ex_n (fun m => R (16 * m + c) && X m) 64
def nv_seen (R : Nat → Bool) (c : Nat) : Bool := ex_n (fun m => R (16 * m + c)) 64
def nt_v (T : Nat) (sg dr pe po : Nat → Nat) (R : Nat → Bool) (i c : Nat) : Nat :=
  if nv_seen R c = false then 2
  else if nv_all R (fun m => nt_ex T sg dr pe po i m c) c = true then 1 - (c.testBit i).toNat
  else if nv_any R (fun m => nt_ex T sg dr pe po i m c) c = false then (c.testBit i).toNat else 3
theorem nt_v_lt (T : Nat) (sg dr pe po : Nat → Nat) (R : Nat → Bool) (i c : Nat) : nt_v T sg dr pe po R i c < 4 := by
  unfold nt_v
  have := sg_toNat_lt (c.testBit i)
  split
  · omega
  · split
    · omega
    · split <;> omega
/-- the same of sets that agree -/
theorem nv_cong {R Q : Nat → Bool} (h : ∀ s, s < 1024 → R s = Q s) {c : Nat} (hc : c < 16) : nv_seen R c = nv_seen Q c ∧ ∀ X, nv_all R X c = nv_all Q X c ∧ nv_any R X c = nv_any Q X c := by
  refine ⟨ex_congr (fun i hi => h _ (by omega)), fun X => ⟨al_congr (fun i hi => ?_), ex_congr (fun i hi => ?_)⟩⟩
  · rw [h _ (by omega)]
  · rw [h _ (by omega)]
theorem nt_v_cong {T : Nat} {sg dr pe po : Nat → Nat} {R Q : Nat → Bool} (h : ∀ s, s < 1024 → R s = Q s) {i c : Nat} (hc : c < 16) : nt_v T sg dr pe po R i c = nt_v T sg dr pe po Q i c := by
  obtain ⟨h1, h2⟩ := nv_cong h hc
  unfold nt_v
  rw [h1, (h2 _).1, (h2 _).2]
theorem nt_U_cong {T : Nat} {pe po : Nat → Nat} {R Q : Nat → Bool} (h : ∀ s, s < 1024 → R s = Q s) : nt_U T pe po R = nt_U T pe po Q :=
  ex_congr (fun s hs => by rw [h s hs])
theorem nt_I_cong {T : Nat} {sg dr pe : Nat → Nat} {R Q : Nat → Bool} (h : ∀ s, s < 1024 → R s = Q s) : nt_I T sg dr pe R = nt_I T sg dr pe Q :=
  ex_congr (fun s hs => by rw [h s hs])
/-- 16 * signal + code of the least torn one -/
def cf_f (S : Nat) (inp : Nat → Bool) (v : Nat → Nat → Nat) : Nat → Bool := fun k => !(inp (k / 16)) && (decide (k % 16 < 2 ^ S) && (v (k / 16) (k % 16) == 3))
