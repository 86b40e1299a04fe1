/-! the two states -/
def cu_ar (S : Nat) : Nat → Int32 := fun q => if q < 3 ^ S then nI (cu_m S q (2 ^ S)) else 0
def xt (P S T : Nat) (sg dr pe po : Nat → Nat) (im s0 : Nat) (tb : Nat → Int32) (vd us ic rc pc mc ln lh ls : Int32) (ar asn aa ao apt act acu aco aq apc af ad am : Nat → Int32) : SX :=
  (nI S, nI (2 ^ P), nI (2 ^ S), nI (3 ^ S), nI T, nI im, nI s0, vd, us, ic, rc, pc, mc, ln, lh, ls, cu_ar S, (fun j => nI (sg j)), (fun j => nI (dr j)), (fun j => nI (pe j)), (fun j => nI (po j)), tb, ar, asn, aa, ao, apt, act, acu, aco, aq, apc, af, ad, am, 65536)
def yt (P S T : Nat) (sg dr pe po : Nat → Nat) (im s0 : Nat) (tb : Nat → Int32) (vd pc cm cc : Int32) (yr ym yn yi yp yv : Nat → Int32) : SY :=
  (nI P, nI S, nI (s0 / 16), nI (s0 % 16), nI T, vd, pc, cm, cc, (fun j => nI (sg j)), (fun j => nI (dr j)), (fun j => nI (pe j)), (fun j => nI (po j)), (fun j => nI (im.testBit j).toNat), tb, yr, ym, yn, yi, yp, yv)
/-- the bounds -/
def nt_K (P S T : Nat) (sg dr pe po : Nat → Nat) (im s0 : Nat) : Prop := (2 ≤ P ∧ P ≤ 6) ∧ (1 ≤ S ∧ S ≤ 4) ∧ T ≤ 12 ∧ nt_B S sg dr pe po ∧ im < 16 ∧ s0 < 1024 ∧ s0 % 16 < 2 ^ S
