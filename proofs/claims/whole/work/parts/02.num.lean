/-! numbers: what both sides compute, in naturals -/
theorem pl_or (a b : Nat) : nI a ||| nI b = nI (a ||| b) := by
  apply Int32.toBitVec_inj.1
  show BitVec.ofNat 32 a ||| BitVec.ofNat 32 b = BitVec.ofNat 32 (a ||| b)
  apply BitVec.eq_of_getLsbD_eq
  intro i hi
  simp [hi]
theorem pl_m1 : (-1 : Int32) = nI 4294967295 := by decide +kernel
theorem pl_nt (a : Nat) : nI a ^^^ (-1) = nI (a ^^^ 4294967295) := by rw [pl_m1, nx_xor]
theorem pl_bit {m i : Nat} (hm : m < 2 ^ 31) (hi : i < 32) : ((nI m >>> (nI i &&& 31)) &&& 1) = nI (m / 2 ^ i % 2) := by
  rw [pk_shrN hm _ i (s_l i hi), pk_andN (m := 1) (Nat.lt_of_le_of_lt (Nat.div_le_self _ _) (by omega)) 1 (by decide)]
theorem pl_p2 {c : Nat} (hc : c < 31) : (1 : Int32) <<< (nI c &&& 31) = nI (2 ^ c) := by
  have h : (2 : Nat) ^ c < 2 ^ 31 := Nat.pow_lt_pow_right (by decide) hc
  have e := pk_shlN (n := 1) (nI c &&& 31) c (s_l c (by omega)) (by omega)
  rw [Nat.one_mul] at e
  exact e
theorem pl_p7 {c : Nat} (hc : c ≤ 7) : 2 ^ c ≤ 128 := Nat.pow_le_pow_right (n := 2) (by decide) hc
theorem pl_gt {p : Int32} {a : Nat} (ha : a + 1 < 2 ^ 31) (h : nI (a + 1) ≤ p) : nI a < p := by
  rw [Int32.lt_iff_toInt_lt, nI_toInt (by omega)]
  rw [Int32.le_iff_toInt_le, nI_toInt ha] at h
  omega
theorem pl_nn {p : Int32} {a : Nat} (ha : a < 2 ^ 31) (h : nI a ≤ p) : ¬ p < 0 := by
  rw [Int32.lt_iff_toInt_lt]
  rw [Int32.le_iff_toInt_le, nI_toInt ha] at h
  show ¬ p.toInt < 0
  omega
theorem pl_up {a : Nat → Int32} {k : Nat} {x : Int32} (hk : k < 2 ^ 31) : upd a (nI k).toNatClampNeg x = upd a k x := by rw [nI_clamp hk]
theorem pl_nar0 : vp_nar .boolean 0 = 0 := by show (0 : Int32) &&& 1 = 0; decide
theorem pl_nar1 : vp_nar .boolean 1 = 1 := by show (1 : Int32) &&& 1 = 1; decide
theorem pl_fit0 : narrow .boolean (.int (0 : Int32)) = .int 0 := by show Value.int ((0 : Int32) &&& 1) = .int 0; rw [show (0 : Int32) &&& 1 = 0 by decide]
theorem pl_fit1 : narrow .boolean (.int (1 : Int32)) = .int 1 := by show Value.int ((1 : Int32) &&& 1) = .int 1; rw [show (1 : Int32) &&& 1 = 1 by decide]
theorem pl_an {a b : Nat} (h : a < 256) : a &&& b < 2 ^ 31 := Nat.lt_of_le_of_lt Nat.and_le_left (by omega)
theorem pl_an' {a b : Nat} (h : b < 256) : a &&& b < 2 ^ 31 := Nat.lt_of_le_of_lt Nat.and_le_right (by omega)
/-- an array of ints whose values are these numbers -/
def pl_N (d : Nat → Nat) : Nat → Int32 := fun i => nI (d i)
theorem pl_Ng (d : Nat → Nat) {i : Nat} (hi : i < 2 ^ 31) : pl_N d (nI i).toNatClampNeg = nI (d i) := by rw [nI_clamp hi]; rfl
def pl_S (d : Nat → Nat) (k x : Nat) : Nat → Nat := fun i => if i = k then x else d i
theorem pl_Nu (d : Nat → Nat) {k x : Nat} (hk : k < 2 ^ 31) : upd (pl_N d) (nI k).toNatClampNeg (nI x) = pl_N (pl_S d k x) := by
  rw [nI_clamp hk]
  funext i
  show (if i = k then nI x else nI (d i)) = nI (if i = k then x else d i)
  split <;> rfl
theorem pl_Slt {d : Nat → Nat} (hd : ∀ i, d i < 256) {k x : Nat} (hx : x < 256) : ∀ i, pl_S d k x i < 256 := by
  intro i
  show (if i = k then x else d i) < 256
  split
  · exact hx
  · exact hd i
theorem pl_0lt : ∀ i : Nat, (fun _ => 0 : Nat → Nat) i < 256 := fun _ => by show 0 < 256; decide
theorem pl_clX {dn dg dl : Nat → Nat} {i j : Nat} (hi : i < 7) (hj : j < 7) : (pl_N dl (nI i).toNatClampNeg) &&& ((pl_N dn (nI j).toNatClampNeg) ||| (pl_N dg (nI j).toNatClampNeg)) = nI (dl i &&& (dn j ||| dg j)) := by
  rw [pl_Ng dl (by omega), pl_Ng dn (by omega), pl_Ng dg (by omega), pl_or, nx_and]
