section
/-! rows pasted from the kit's rows (PURE-ROWS, BITS) -/
theorem pk_us {f : Nat → Int32} {k : Nat} {x : Int32} : upd f k x k = x := if_pos rfl
theorem pk_un {f : Nat → Int32} {k j : Nat} {x : Int32} (h : j ≠ k) : upd f k x j = f j := if_neg h
theorem pk_sub {a b : Nat} (h : b ≤ a) : nI a - nI b = nI (a - b) := by
  obtain ⟨c, rfl⟩ : ∃ c, a = c + b := ⟨a - b, by omega⟩
  rw [← nI_add, Int32.add_sub_cancel, Nat.add_sub_cancel]
theorem pk_mul (a b : Nat) : nI a * nI b = nI (a * b) := (Int32.ofNat_mul a b).symm
theorem pk_div {a d : Nat} (ha : a < 2 ^ 31) (h0 : 0 < d) (hd : d < 2 ^ 31) : nI a / nI d = nI (a / d) := by
  apply Int32.toInt_inj.mp
  rw [lg_idiv_nonneg (by rw [nI_toInt ha]; omega) (by rw [nI_toInt hd]; omega), nI_toInt ha, nI_toInt hd, nI_toInt (Nat.lt_of_le_of_lt (Nat.div_le_self a d) ha)]
  first | rfl | exact (Int.natCast_ediv _ _).symm
theorem pk_rem {a d : Nat} (ha : a < 2 ^ 31) (h0 : 0 < d) (hd : d < 2 ^ 31) : nI a - nI a / nI d * nI d = nI (a % d) := by
  rw [pk_div ha h0 hd, pk_mul, pk_sub (Nat.div_mul_le_self a d)]
  exact congrArg nI (by have := Nat.div_add_mod' a d; omega)
theorem pk_ix (x : Int32) {n : Nat} (hn : n < 2 ^ 31) : x < 0 ∨ nI n ≤ x ∨ ∃ j : Nat, j < n ∧ x = nI j := by
  by_cases h : x < 0
  · exact Or.inl h
  · obtain ⟨j, hj, rfl⟩ := nI_of h
    by_cases h2 : j < n
    · exact Or.inr (Or.inr ⟨j, h2, rfl⟩)
    · exact Or.inr (Or.inl (nI_le (by omega) hj))
theorem pk_le {x y : Int32} {A B : Prop} (a b : Nat) (f : a ≤ b → A) (g : b < a → B) (hx : x = nI a := by rfl) (hy : y = nI b := by rfl) (ha : a < 2 ^ 31 := by omega) (hb : b < 2 ^ 31 := by omega) : (x ≤ y → A) ∧ (¬ x ≤ y → B) := by
  subst hx hy
  rw [nI_leI ha hb]
  exact ⟨f, fun z => g (by omega)⟩
theorem pk_lt {x y : Int32} {A B : Prop} (a b : Nat) (f : a < b → A) (g : b ≤ a → B) (hx : x = nI a := by rfl) (hy : y = nI b := by rfl) (ha : a < 2 ^ 31 := by omega) (hb : b < 2 ^ 31 := by omega) : (x < y → A) ∧ (¬ x < y → B) := by
  subst hx hy
  rw [nI_ltI ha hb]
  exact ⟨f, fun z => g (by omega)⟩
theorem pk_eq {x y : Int32} {A B : Prop} (a b : Nat) (f : a = b → A) (g : a ≠ b → B) (hx : x = nI a := by rfl) (hy : y = nI b := by rfl) (ha : a < 2 ^ 31 := by omega) (hb : b < 2 ^ 31 := by omega) : (x = y → A) ∧ (¬ x = y → B) := by
  subst hx hy
  rw [nI_eq ha hb]
  exact ⟨f, g⟩
theorem pk_in {x : Int32} (n N : Nat) (h : n < N) (hx : x = nI n := by rfl) (hN : N < 2 ^ 31 := by omega) : vp_in x N := by
  subst hx
  exact vp_in_nI h hN
theorem pk_cl {x : Int32} (n : Nat) (hx : x = nI n := by rfl) (h : n < 2 ^ 31 := by omega) : x.toNatClampNeg = n := by
  subst hx
  exact nI_clamp h
theorem pk_tn {n : Nat} (h : n < 2 ^ 32) : (nI n).toBitVec.toNat = n := Nat.mod_eq_of_lt h
theorem pk_and (x : Int32) {m : Int32} (k : Nat) (hm : m.toBitVec.toNat = 2 ^ k - 1) : x &&& m = nI (x.toBitVec.toNat % 2 ^ k) := by
  apply Int32.toBitVec_inj.mp
  apply BitVec.eq_of_toNat_eq
  rw [Int32.toBitVec_and, BitVec.toNat_and, hm, Nat.and_two_pow_sub_one_eq_mod]
  show _ = (BitVec.ofNat 32 _).toNat
  rw [BitVec.toNat_ofNat]
  exact (Nat.mod_eq_of_lt (Nat.lt_of_le_of_lt (Nat.mod_le _ _) x.toBitVec.isLt)).symm
theorem pk_andN {n : Nat} (h : n < 2 ^ 32) {m : Int32} (k : Nat) (hm : m.toBitVec.toNat = 2 ^ k - 1) : nI n &&& m = nI (n % 2 ^ k) := by
  rw [pk_and _ k hm, pk_tn h]
theorem pk_shl (a s : Int32) (k : Nat) (hs : (s.toBitVec.smod 32).toNat = k) : (a <<< s).toBitVec.toNat = a.toBitVec.toNat * 2 ^ k % 2 ^ 32 := by
  show (a.toBitVec <<< (s.toBitVec.smod 32).toNat).toNat = _
  rw [hs, BitVec.toNat_shiftLeft, Nat.shiftLeft_eq]
theorem pk_shlN {n : Nat} (s : Int32) (k : Nat) (hs : (s.toBitVec.smod 32).toNat = k) (h : n * 2 ^ k < 2 ^ 32) : nI n <<< s = nI (n * 2 ^ k) := by
  apply Int32.toBitVec_inj.mp
  apply BitVec.eq_of_toNat_eq
  have hn : n < 2 ^ 32 := Nat.lt_of_le_of_lt (Nat.le_mul_of_pos_right n (Nat.two_pow_pos k)) h
  rw [pk_shl _ _ k hs, pk_tn hn, pk_tn h, Nat.mod_eq_of_lt h]
theorem pk_shr (a s : Int32) (k : Nat) (hs : (s.toBitVec.smod 32).toNat = k) : (a >>> s).toInt = a.toInt >>> k := by
  show (a.toBitVec.sshiftRight (s.toBitVec.smod 32).toNat).toInt = _
  rw [hs, BitVec.toInt_sshiftRight]
  rfl
theorem pk_shrN {n : Nat} (h : n < 2 ^ 31) (s : Int32) (k : Nat) (hs : (s.toBitVec.smod 32).toNat = k) : nI n >>> s = nI (n / 2 ^ k) := by
  apply Int32.toInt_inj.mp
  have h2 : n / 2 ^ k ≤ n := Nat.div_le_self _ _
  rw [pk_shr _ _ k hs, nI_toInt h, nI_toInt (by omega), Int.shiftRight_eq_div_pow]
  rfl
theorem s_l : ∀ n, n < 32 → ((nI n &&& 31).toBitVec.smod 32).toNat = n := by decide +kernel
theorem nx_and (a b : Nat) : nI a &&& nI b = nI (a &&& b) := by
  apply Int32.toBitVec_inj.1
  show BitVec.ofNat 32 a &&& BitVec.ofNat 32 b = BitVec.ofNat 32 (a &&& b)
  apply BitVec.eq_of_getLsbD_eq
  intro i hi
  simp [hi]
theorem nx_xor (a b : Nat) : nI a ^^^ nI b = nI (a ^^^ b) := by
  apply Int32.toBitVec_inj.1
  show BitVec.ofNat 32 a ^^^ BitVec.ofNat 32 b = BitVec.ofNat 32 (a ^^^ b)
  apply BitVec.eq_of_getLsbD_eq
  intro i hi
  simp [hi]
end
section
/-! The pure picture. Actions: three rows of sets below 256 (dn needs, dg gains, dl losses), c of them;
    a layer is a number m below 2^c; a state is a number below 256. -/
def pl_U (d : Nat → Nat) (m : Nat) : Nat → Nat
  | 0 => 0
  | i + 1 => if m / 2 ^ i % 2 = 1 then pl_U d m i ||| d i else pl_U d m i
def pl_cl (dn dg dl : Nat → Nat) (i j : Nat) : Prop := ¬ (dl i &&& (dn j ||| dg j)) = 0 ∨ ¬ (dl j &&& (dn i ||| dg i)) = 0
theorem pl_cl_sy {dn dg dl : Nat → Nat} {i j : Nat} (h : pl_cl dn dg dl i j) : pl_cl dn dg dl j i := Or.symm h
/-- some two actions of m, both below i, clash -/
def pl_C (dn dg dl : Nat → Nat) (c m : Nat) : Prop := ∃ i j, i < j ∧ j < c ∧ m / 2 ^ i % 2 = 1 ∧ m / 2 ^ j % 2 = 1 ∧ pl_cl dn dg dl i j
def pl_ok (dn dg dl : Nat → Nat) (c m s : Nat) : Prop := ¬ pl_C dn dg dl c m ∧ s &&& pl_U dn m c = pl_U dn m c
def pl_af (dg dl : Nat → Nat) (c m s : Nat) : Nat := (s &&& (pl_U dl m c ^^^ 4294967295)) ||| pl_U dg m c
def pl_T (dn dg dl : Nat → Nat) (c s t : Nat) : Prop := ∃ m, m < 2 ^ c ∧ pl_ok dn dg dl c m s ∧ pl_af dg dl c m s = t
/-- what just k layers reach from a state of P -/
def pl_R (T : Nat → Nat → Prop) (P : Nat → Prop) : Nat → Nat → Prop
  | 0, s => P s
  | k + 1, s => ∃ t, t < 256 ∧ pl_R T P k t ∧ T t s
theorem pl_U_lt {d : Nat → Nat} (h : ∀ i, d i < 256) (m : Nat) : ∀ i, pl_U d m i < 256 := by
  intro i
  induction i with
  | zero => show 0 < 256; decide
  | succ i ih =>
    rw [pl_U]
    split
    · exact Nat.or_lt_two_pow (n := 8) ih (h i)
    · exact ih
theorem pl_sub {n s : Nat} (hn : n < 4294967296) : n &&& (s ^^^ 4294967295) = 0 ↔ s &&& n = n := by
  have key : ∀ i, (n &&& (s ^^^ 4294967295)).testBit i = (n.testBit i && !s.testBit i) := by
    intro i
    rw [Nat.testBit_and, Nat.testBit_xor, show (4294967295 : Nat) = 2 ^ 32 - 1 from rfl, Nat.testBit_two_pow_sub_one]
    by_cases hi : i < 32
    · cases s.testBit i <;> cases n.testBit i <;> simp [hi]
    · have z : n.testBit i = false := Nat.testBit_lt_two_pow (Nat.lt_of_lt_of_le hn (show 2 ^ 32 ≤ 2 ^ i from Nat.pow_le_pow_right (by decide) (by omega)))
      simp [z]
  constructor
  · intro h
    apply Nat.eq_of_testBit_eq
    intro i
    have k := key i
    rw [h, Nat.zero_testBit] at k
    rw [Nat.testBit_and]
    cases hs : s.testBit i <;> cases hb : n.testBit i <;> simp [hs, hb] at k ⊢
  · intro h
    apply Nat.eq_of_testBit_eq
    intro i
    rw [key i, Nat.zero_testBit]
    have k : (s &&& n).testBit i = n.testBit i := by rw [h]
    rw [Nat.testBit_and] at k
    cases hs : s.testBit i <;> cases hb : n.testBit i <;> simp [hs, hb] at k ⊢
theorem pl_and_or {s a b : Nat} : s &&& (a ||| b) = a ||| b ↔ s &&& a = a ∧ s &&& b = b := by
  constructor
  · intro h
    have k : ∀ i, (s.testBit i && (a.testBit i || b.testBit i)) = (a.testBit i || b.testBit i) := by
      intro i
      rw [← Nat.testBit_or, ← Nat.testBit_and, h]
    constructor
    · apply Nat.eq_of_testBit_eq
      intro i
      have k := k i
      rw [Nat.testBit_and]
      cases hs : s.testBit i <;> cases ha : a.testBit i <;> cases hb : b.testBit i <;> simp [hs, ha, hb] at k ⊢
    · apply Nat.eq_of_testBit_eq
      intro i
      have k := k i
      rw [Nat.testBit_and]
      cases hs : s.testBit i <;> cases ha : a.testBit i <;> cases hb : b.testBit i <;> simp [hs, ha, hb] at k ⊢
  · rintro ⟨ha, hb⟩
    rw [Nat.and_or_distrib_left, ha, hb]
theorem pl_U_sub {d : Nat → Nat} {s m : Nat} : ∀ i, s &&& pl_U d m i = pl_U d m i ↔ ∀ j, j < i → m / 2 ^ j % 2 = 1 → s &&& d j = d j := by
  intro i
  induction i with
  | zero => exact ⟨fun _ j hj => absurd hj (Nat.not_lt_zero j), fun _ => Nat.and_zero s⟩
  | succ i ih =>
    rw [pl_U]
    by_cases z : m / 2 ^ i % 2 = 1
    · rw [if_pos z, pl_and_or, ih]
      constructor
      · rintro ⟨h1, h2⟩ j hj hm
        by_cases e : j = i
        · rw [e]; exact h2
        · exact h1 j (by omega) hm
      · intro h
        exact ⟨fun j hj hm => h j (by omega) hm, h i (by omega) z⟩
    · rw [if_neg z, ih]
      constructor
      · intro h1 j hj hm
        by_cases e : j = i
        · rw [e] at hm; exact absurd hm z
        · exact h1 j (by omega) hm
      · intro h j hj hm
        exact h j (by omega) hm
theorem pl_U_0 (d : Nat → Nat) : ∀ i, pl_U d 0 i = 0 := by
  intro i
  induction i with
  | zero => rfl
  | succ i ih => rw [pl_U, if_neg (by rw [Nat.zero_div]; decide), ih]
theorem pl_af_lt {dg dl : Nat → Nat} (hg : ∀ i, dg i < 256) {c m s : Nat} (hs : s < 256) : pl_af dg dl c m s < 256 :=
  Nat.or_lt_two_pow (n := 8) (Nat.lt_of_le_of_lt Nat.and_le_left hs) (pl_U_lt hg m c)
/-- the empty layer -/
theorem pl_T_rf {dn dg dl : Nat → Nat} {c s : Nat} (hs : s < 256) : pl_T dn dg dl c s s := by
  refine ⟨0, Nat.two_pow_pos c, ⟨?_, ?_⟩, ?_⟩
  · rintro ⟨i, j, _, _, h, _⟩
    rw [Nat.zero_div] at h
    exact absurd h (by decide)
  · rw [pl_U_0]; exact Nat.and_zero s
  · unfold pl_af
    rw [pl_U_0, pl_U_0, Nat.zero_xor, Nat.or_zero, show (4294967295 : Nat) = 2 ^ 32 - 1 from rfl, Nat.and_two_pow_sub_one_eq_mod]
    exact Nat.mod_eq_of_lt (by omega)
theorem pl_T_lt {dn dg dl : Nat → Nat} (hg : ∀ i, dg i < 256) {c s t : Nat} (hs : s < 256) (h : pl_T dn dg dl c s t) : t < 256 := by
  obtain ⟨m, _, _, e⟩ := h
  rw [← e]
  exact pl_af_lt hg hs
section
variable {T : Nat → Nat → Prop} {P : Nat → Prop}
theorem pl_R_up (hT : ∀ s, s < 256 → T s s) {j s : Nat} (hs : s < 256) : ∀ d, pl_R T P j s → pl_R T P (j + d) s := by
  intro d
  induction d with
  | zero => exact id
  | succ d ih => exact fun h => ⟨s, hs, ih h, hT s hs⟩
theorem pl_R_le (hT : ∀ s, s < 256 → T s s) {j k s : Nat} (hs : s < 256) (hjk : j ≤ k) (h : pl_R T P j s) : pl_R T P k s := by
  have e := pl_R_up hT hs (k - j) h
  rwa [Nat.add_sub_cancel' hjk] at e
theorem pl_R_lt (hT : ∀ s t, s < 256 → T s t → t < 256) (hP : ∀ s, P s → s < 256) : ∀ k s, pl_R T P k s → s < 256 := by
  intro k
  cases k with
  | zero => exact hP
  | succ k => rintro s ⟨t, ht, _, h⟩; exact hT t s ht h
theorem pl_R_un {α : Type} (D : α → Prop) (g : α → Nat) : ∀ k s, pl_R T (fun s => ∃ x, D x ∧ s = g x) k s ↔ ∃ x, D x ∧ pl_R T (fun s => s = g x) k s := by
  intro k
  induction k with
  | zero => exact fun s => Iff.rfl
  | succ k ih =>
    intro s
    constructor
    · rintro ⟨t, ht, h, hst⟩
      obtain ⟨x, hx, h'⟩ := (ih t).mp h
      exact ⟨x, hx, t, ht, h', hst⟩
    · rintro ⟨x, hx, t, ht, h, hst⟩
      exact ⟨t, ht, (ih t).mpr ⟨x, hx, h⟩, hst⟩
theorem pl_R_sh {P' : Nat → Prop} (h0 : ∀ s, P' s → ∃ x, x < 256 ∧ P x ∧ T x s) : ∀ k s, pl_R T P' k s → pl_R T P (k + 1) s := by
  intro k
  induction k with
  | zero => exact fun s h => h0 s h
  | succ k ih => rintro s ⟨t, ht, h, hst⟩; exact ⟨t, ht, ih t h, hst⟩
/-- v measures, up to k layers -/
def pl_Me (R : Nat → Nat → Prop) (k : Nat) (v : Nat → Nat) : Prop := ∀ s, s < 256 → (∀ j, j ≤ k → (v s ≤ j ↔ R j s)) ∧ (v s ≤ k ∨ v s = 9)
/-- the same within the turn k of the outer loop: Q is what has been reached in it -/
def pl_Mi (R : Nat → Nat → Prop) (k : Nat) (Q : Nat → Prop) (v : Nat → Nat) : Prop := ∀ s, s < 256 → (∀ j, j ≤ k → (v s ≤ j ↔ R j s)) ∧ (v s ≤ k + 1 ↔ R k s ∨ Q s) ∧ (v s ≤ k + 1 ∨ v s = 9)
def pl_Ex (R : Nat → Nat → Prop) (k t : Nat) : Prop := R k t ∧ ∀ j, j < k → ¬ R j t
theorem pl_Mi_0 {R : Nat → Nat → Prop} {k : Nat} {v : Nat → Nat} (hk : k < 8) (h : pl_Me R k v) : pl_Mi R k (fun _ => False) v := by
  intro s hs
  obtain ⟨h1, h2⟩ := h s hs
  refine ⟨h1, ?_, by omega⟩
  have e := h1 k (Nat.le_refl k)
  constructor
  · intro h; exact Or.inl (e.mp (by omega))
  · rintro (h | h)
    · have := e.mpr h; omega
    · exact h.elim
theorem pl_Mi_q {R : Nat → Nat → Prop} {k : Nat} {Q Q' : Nat → Prop} {v : Nat → Nat} (hQ : ∀ s, s < 256 → (Q s ↔ Q' s)) (h : pl_Mi R k Q v) : pl_Mi R k Q' v := by
  intro s hs
  rw [← hQ s hs]
  exact h s hs
theorem pl_Mi_ex {R : Nat → Nat → Prop} {k : Nat} {Q : Nat → Prop} {v : Nat → Nat} (h : pl_Mi R k Q v) {s : Nat} (hs : s < 256) : v s = k ↔ pl_Ex R k s := by
  obtain ⟨h1, _, _⟩ := h s hs
  constructor
  · intro e
    refine ⟨(h1 k (Nat.le_refl k)).mp (by omega), fun j hj hR => ?_⟩
    have := (h1 j (by omega)).mpr hR
    omega
  · rintro ⟨hR, hn⟩
    have a := (h1 k (Nat.le_refl k)).mpr hR
    by_cases e : v s = k
    · exact e
    · exact absurd ((h1 (v s) a).mp (Nat.le_refl _)) (hn (v s) (by omega))
/-- a store: only where more stands there -/
theorem pl_Mi_put {R : Nat → Nat → Prop} {k : Nat} {Q : Nat → Prop} {v : Nat → Nat} (hR : ∀ j s, s < 256 → j ≤ k → R j s → R k s) (h : pl_Mi R k Q v) {a : Nat} (ha : a < 256) (hv : k + 1 < v a) :
    pl_Mi R k (fun s => Q s ∨ s = a) (fun s => if s = a then k + 1 else v s) := by
  intro s hs
  obtain ⟨h1, h2, h3⟩ := h s hs
  by_cases e : s = a
  · subst e
    dsimp only
    rw [if_pos rfl]
    refine ⟨fun j hj => ?_, ⟨fun _ => Or.inr (Or.inr rfl), fun _ => Nat.le_refl _⟩, Or.inl (Nat.le_refl _)⟩
    constructor
    · intro h; omega
    · intro h; have := (h1 j hj).mpr h; omega
  · dsimp only
    rw [if_neg e]
    refine ⟨h1, h2.trans ?_, h3⟩
    constructor
    · rintro (h | h)
      · exact Or.inl h
      · exact Or.inr (Or.inl h)
    · rintro (h | h | h)
      · exact Or.inl h
      · exact Or.inr h
      · exact absurd h e
theorem pl_Mi_skip {R : Nat → Nat → Prop} {k : Nat} {Q : Nat → Prop} {v : Nat → Nat} (h : pl_Mi R k Q v) {a : Nat} (ha : a < 256) (hv : v a ≤ k + 1) : pl_Mi R k (fun s => Q s ∨ s = a) v := by
  intro s hs
  obtain ⟨h1, h2, h3⟩ := h s hs
  refine ⟨h1, h2.trans ?_, h3⟩
  constructor
  · rintro (h | h)
    · exact Or.inl h
    · exact Or.inr (Or.inl h)
  · rintro (h' | h' | h')
    · exact Or.inl h'
    · exact Or.inr h'
    · subst h'; exact (h s hs).2.1.mp hv
theorem pl_Mi_end (hT : ∀ s, s < 256 → T s s) {k : Nat} {v : Nat → Nat} (hk : k < 8) (h : pl_Mi (pl_R T P) k (fun s => ∃ t, t < 256 ∧ pl_Ex (pl_R T P) k t ∧ T t s) v) : pl_Me (pl_R T P) (k + 1) v := by
  intro s hs
  obtain ⟨h1, h2, h3⟩ := h s hs
  refine ⟨fun j hj => ?_, h3⟩
  by_cases e : j = k + 1
  · subst e
    rw [h2]
    constructor
    · rintro (h | ⟨t, ht, hE, hst⟩)
      · exact pl_R_le hT hs (Nat.le_succ k) h
      · exact ⟨t, ht, hE.1, hst⟩
    · rintro ⟨t, ht, hR, hst⟩
      by_cases hE : pl_Ex (pl_R T P) k t
      · exact Or.inr ⟨t, ht, hE, hst⟩
      · by_cases hj : ∃ j, j < k ∧ pl_R T P j t
        · obtain ⟨j, hj, hRj⟩ := hj
          have a : pl_R T P (j + 1) s := ⟨t, ht, hRj, hst⟩
          exact Or.inl (pl_R_le hT hs hj a)
        · exact absurd ⟨hR, fun j hj' hRj => hj ⟨j, hj', hRj⟩⟩ hE
  · exact h1 j (by omega)
/-- the least number of layers, over the states below t -/
def pl_Le (R : Nat → Nat → Prop) (G : Nat → Prop) (t l : Nat) : Prop := l ≤ 9 ∧ ∀ j, j ≤ 8 → (l ≤ j ↔ ∃ s, s < t ∧ G s ∧ R j s)
theorem pl_Le_0 {R : Nat → Nat → Prop} {G : Nat → Prop} : pl_Le R G 0 9 := by
  refine ⟨Nat.le_refl 9, fun j hj => ⟨fun h => by omega, ?_⟩⟩
  rintro ⟨s, hs, _⟩
  exact absurd hs (Nat.not_lt_zero s)
theorem pl_Le_no {R : Nat → Nat → Prop} {G : Nat → Prop} {t l : Nat} (h : pl_Le R G t l) (n : ∀ j, j ≤ 8 → G t → R j t → l ≤ j) : pl_Le R G (t + 1) l := by
  refine ⟨h.1, fun j hj => (h.2 j hj).trans ⟨?_, ?_⟩⟩
  · rintro ⟨s, hs, hG, hR⟩
    exact ⟨s, by omega, hG, hR⟩
  · rintro ⟨s, hs, hG, hR⟩
    by_cases e : s = t
    · subst e; exact (h.2 j hj).mp (n j hj hG hR)
    · exact ⟨s, by omega, hG, hR⟩
theorem pl_Le_yes {R : Nat → Nat → Prop} {G : Nat → Prop} {t l : Nat} {v : Nat → Nat} (hM : pl_Me R 8 v) (h : pl_Le R G t l) (ht : t < 256) (hG : G t) (hv : v t < l) : pl_Le R G (t + 1) (v t) := by
  have h9 := h.1
  refine ⟨by omega, fun j hj => ?_⟩
  have e := (hM t ht).1 j hj
  constructor
  · intro a
    exact ⟨t, Nat.lt_succ_self t, hG, e.mp a⟩
  · rintro ⟨s, hs, hGs, hR⟩
    by_cases es : s = t
    · subst es; exact e.mpr hR
    · have := (h.2 j hj).mpr ⟨s, by omega, hGs, hR⟩
      omega
/-- what the reference's search over k finds is the least number -/
theorem pl_Le_first {R : Nat → Nat → Prop} {G : Nat → Prop} {l k : Nat} (h : pl_Le R G 256 l) (hk : k ≤ 8) (hy : ∃ s, s < 256 ∧ G s ∧ R k s) (hn : ∀ j, j < k → ¬ ∃ s, s < 256 ∧ G s ∧ R j s) : l = k := by
  have a := (h.2 k hk).mpr hy
  by_cases e : l = k
  · exact e
  · exact absurd ((h.2 l (by omega)).mp (Nat.le_refl l)) (hn l (by omega))
theorem pl_Le_none {R : Nat → Nat → Prop} {G : Nat → Prop} {l : Nat} (h : pl_Le R G 256 l) (hn : ∀ j, j < 9 → ¬ ∃ s, s < 256 ∧ G s ∧ R j s) : l = 9 := by
  by_cases e : l = 9
  · exact e
  · have := h.1
    exact absurd ((h.2 l (by omega)).mp (Nat.le_refl l)) (hn l (by omega))
end
end
section
/-! numbers: what both sides compute, in naturals -/
theorem pl_or (a b : Nat) : nI a ||| nI b = nI (a ||| b) := by
  apply Int32.toBitVec_inj.1
  show BitVec.ofNat 32 a ||| BitVec.ofNat 32 b = BitVec.ofNat 32 (a ||| b)
  apply BitVec.eq_of_getLsbD_eq
  intro i hi
  simp [hi]
theorem pl_m1 : (-1 : Int32) = nI 4294967295 := by decide +kernel
theorem pl_nt (a : Nat) : nI a ^^^ (-1) = nI (a ^^^ 4294967295) := by rw [pl_m1, nx_xor]
theorem pl_bit {m i : Nat} (hm : m < 2 ^ 31) (hi : i < 32) : ((nI m >>> (nI i &&& 31)) &&& 1) = nI (m / 2 ^ i % 2) := by
  rw [pk_shrN hm _ i (s_l i hi), pk_andN (m := 1) (Nat.lt_of_le_of_lt (Nat.div_le_self _ _) (by omega)) 1 (by decide)]
theorem pl_p2 {c : Nat} (hc : c < 31) : (1 : Int32) <<< (nI c &&& 31) = nI (2 ^ c) := by
  have h : (2 : Nat) ^ c < 2 ^ 31 := Nat.pow_lt_pow_right (by decide) hc
  have e := pk_shlN (n := 1) (nI c &&& 31) c (s_l c (by omega)) (by omega)
  rw [Nat.one_mul] at e
  exact e
theorem pl_p7 {c : Nat} (hc : c ≤ 7) : 2 ^ c ≤ 128 := Nat.pow_le_pow_right (n := 2) (by decide) hc
theorem pl_gt {p : Int32} {a : Nat} (ha : a + 1 < 2 ^ 31) (h : nI (a + 1) ≤ p) : nI a < p := by
  rw [Int32.lt_iff_toInt_lt, nI_toInt (by omega)]
  rw [Int32.le_iff_toInt_le, nI_toInt ha] at h
  omega
theorem pl_nn {p : Int32} {a : Nat} (ha : a < 2 ^ 31) (h : nI a ≤ p) : ¬ p < 0 := by
  rw [Int32.lt_iff_toInt_lt]
  rw [Int32.le_iff_toInt_le, nI_toInt ha] at h
  show ¬ p.toInt < 0
  omega
theorem pl_up {a : Nat → Int32} {k : Nat} {x : Int32} (hk : k < 2 ^ 31) : upd a (nI k).toNatClampNeg x = upd a k x := by rw [nI_clamp hk]
theorem pl_nar0 : vp_nar .boolean 0 = 0 := by show (0 : Int32) &&& 1 = 0; decide
theorem pl_nar1 : vp_nar .boolean 1 = 1 := by show (1 : Int32) &&& 1 = 1; decide
theorem pl_fit0 : narrow .boolean (.int (0 : Int32)) = .int 0 := by show Value.int ((0 : Int32) &&& 1) = .int 0; rw [show (0 : Int32) &&& 1 = 0 by decide]
theorem pl_fit1 : narrow .boolean (.int (1 : Int32)) = .int 1 := by show Value.int ((1 : Int32) &&& 1) = .int 1; rw [show (1 : Int32) &&& 1 = 1 by decide]
theorem pl_an {a b : Nat} (h : a < 256) : a &&& b < 2 ^ 31 := Nat.lt_of_le_of_lt Nat.and_le_left (by omega)
theorem pl_an' {a b : Nat} (h : b < 256) : a &&& b < 2 ^ 31 := Nat.lt_of_le_of_lt Nat.and_le_right (by omega)
/-- an array of ints whose values are these numbers -/
def pl_N (d : Nat → Nat) : Nat → Int32 := fun i => nI (d i)
theorem pl_Ng (d : Nat → Nat) {i : Nat} (hi : i < 2 ^ 31) : pl_N d (nI i).toNatClampNeg = nI (d i) := by rw [nI_clamp hi]; rfl
def pl_S (d : Nat → Nat) (k x : Nat) : Nat → Nat := fun i => if i = k then x else d i
theorem pl_Nu (d : Nat → Nat) {k x : Nat} (hk : k < 2 ^ 31) : upd (pl_N d) (nI k).toNatClampNeg (nI x) = pl_N (pl_S d k x) := by
  rw [nI_clamp hk]
  funext i
  show (if i = k then nI x else nI (d i)) = nI (if i = k then x else d i)
  split <;> rfl
theorem pl_Slt {d : Nat → Nat} (hd : ∀ i, d i < 256) {k x : Nat} (hx : x < 256) : ∀ i, pl_S d k x i < 256 := by
  intro i
  show (if i = k then x else d i) < 256
  split
  · exact hx
  · exact hd i
theorem pl_0lt : ∀ i : Nat, (fun _ => 0 : Nat → Nat) i < 256 := fun _ => by show 0 < 256; decide
theorem pl_clX {dn dg dl : Nat → Nat} {i j : Nat} (hi : i < 7) (hj : j < 7) : (pl_N dl (nI i).toNatClampNeg) &&& ((pl_N dn (nI j).toNatClampNeg) ||| (pl_N dg (nI j).toNatClampNeg)) = nI (dl i &&& (dn j ||| dg j)) := by
  rw [pl_Ng dl (by omega), pl_Ng dn (by omega), pl_Ng dg (by omega), pl_or, nx_and]
end
section
/-! the class: its small methods and the joining of the action sets -/
section
variable {dn dg dl : Nat → Nat} {c : Nat} {s0 : Int32} {aN aG aL sn sg sl sc lt : Nat → Int32}
theorem pl_xFS_no {post : Int32 → Prop} {p : Int32} (h : p < 0 ∨ nI 256 ≤ p) (hp : post 0) : wpX_isFactSet post p := by
  by_cases h0 : p < 0
  · exact br_t h0 hp
  · exact br_f h0 (br_t (h.resolve_left h0) hp)
theorem pl_xFS_ok {post : Int32 → Prop} {g : Nat} (hg : g < 256) (hp : post 1) : wpX_isFactSet post (nI g) :=
  br_f (nI_pos (by omega)) (br_f (nI_ge (b := 256) hg (by decide)) hp)
theorem pl_xLC_no {post : Int32 → Prop} {p : Int32} (h : p < 0 ∨ nI 9 ≤ p) (hp : post 0) : wpX_isLayerCount post p := by
  by_cases h0 : p < 0
  · exact br_t h0 hp
  · exact br_f h0 (br_t (pl_gt (a := 8) (by decide) (h.resolve_left h0)) hp)
theorem pl_xLC_ok {post : Int32 → Prop} {k : Nat} (hk : k < 9) (hp : post 1) : wpX_isLayerCount post (nI k) :=
  br_f (nI_pos (by omega)) (br_f (nI_nlt (a := 8) (by omega) (by decide)) hp)
theorem pl_xIF_no {post : Int32 → Prop} {p : Int32} (h : p < 0 ∨ nI 8 ≤ p) (hp : post 0) : wpX_isFact post p := by
  by_cases h0 : p < 0
  · exact br_t h0 hp
  · exact br_f h0 (br_t (h.resolve_left h0) hp)
theorem pl_xIF_ok {post : Int32 → Prop} {f : Nat} (hf : f < 8) (hp : post 1) : wpX_isFact post (nI f) :=
  br_f (nI_pos (by omega)) (br_f (nI_ge (b := 8) hf (by decide)) hp)
theorem pl_xIA_no {post : Int32 → Prop} {p : Int32} (h : p < 0 ∨ nI c ≤ p) (hp : post 0) : wpX_isAction post (nI c, s0, aN, aG, aL, sn, sg, sl, sc, lt) p := by
  by_cases h0 : p < 0
  · exact br_t h0 hp
  · exact br_f h0 (br_t (h.resolve_left h0) hp)
theorem pl_xIA_ok {post : Int32 → Prop} {i : Nat} (hc : c ≤ 7) (hi : i < c) (hp : post 1) : wpX_isAction post (nI c, s0, aN, aG, aL, sn, sg, sl, sc, lt) (nI i) :=
  br_f (nI_pos (by omega)) (br_f (nI_ge hi (by omega)) hp)
theorem pl_xES {post : Int32 → Prop} {i j : Nat} (hl : ∀ i, dl i < 256) (hi : i < 7) (hj : j < 7) (h1 : pl_cl dn dg dl i j → post 1) (h0 : ¬ pl_cl dn dg dl i j → post 0) :
    wpX_eitherSpoils post (nI c, s0, pl_N dn, pl_N dg, pl_N dl, sn, sg, sl, sc, lt) (nI i) (nI j) := by
  have vi := vp_in_nI hi (by decide : 7 < 2 ^ 31)
  have vj := vp_in_nI hj (by decide : 7 < 2 ^ 31)
  refine ⟨vi, vj, vj, pk_eq (dl i &&& (dn j ||| dg j)) 0 (fun e1 => ⟨vj, vi, vi, pk_eq (dl j &&& (dn i ||| dg i)) 0 (fun e2 => h0 ?_) (fun e2 => h1 (Or.inr e2)) (pl_clX hj hi) rfl (pl_an (hl j)) (by decide)⟩) (fun e1 => h1 (Or.inl e1)) (pl_clX hi hj) rfl (pl_an (hl i)) (by decide)⟩
  rintro (h | h)
  · exact h e1
  · exact h e2
theorem pl_xHA {post : Int32 → Prop} {m i : Nat} (hm : m < 2 ^ 31) (hi : i < 32) (h1 : m / 2 ^ i % 2 = 1 → post 1) (h0 : ¬ m / 2 ^ i % 2 = 1 → post 0) : wpX_hasAction post (nI m) (nI i) :=
  pk_eq (m / 2 ^ i % 2) 0 (fun e => h0 (by omega)) (fun e => h1 (by omega)) (pl_bit hm hi) rfl (by omega) (by decide)
theorem pl_Uy {d : Nat → Nat} {m i : Nat} (hi : i < 7) (e : m / 2 ^ i % 2 = 1) : nI (pl_U d m i) ||| pl_N d (nI i).toNatClampNeg = nI (pl_U d m (i + 1)) := by
  rw [pl_Ng d (by omega), pl_or, pl_U, if_pos e]
theorem pl_Un {d : Nat → Nat} {m i : Nat} (e : ¬ m / 2 ^ i % 2 = 1) : pl_U d m (i + 1) = pl_U d m i := by rw [pl_U, if_neg e]
theorem pl_xJo1 {post : SX → Prop} {m : Nat} (hc : c ≤ 7) (hm : m < 128)
    (hp : post (nI c, s0, pl_N dn, pl_N dg, pl_N dl, upd sn m (nI (pl_U dn m c)), upd sg m (nI (pl_U dg m c)), upd sl m (nI (pl_U dl m c)), sc, lt)) :
    ∀ d i, i + d = c → wX_joinActionsOf_10 post (nI m) (nI c) s0 (pl_N dn) (pl_N dg) (pl_N dl) sn sg sl sc lt (d + 1) (nI (pl_U dn m i)) (nI (pl_U dg m i)) (nI (pl_U dl m i)) (nI i) := by
  have vm := vp_in_nI hm (by decide : 128 < 2 ^ 31)
  intro d
  induction d with
  | zero =>
    intro i hi
    obtain rfl : i = c := hi
    exact br_t (nI_le (Nat.le_refl _) (by omega)) ⟨vm, nm_r (pl_up (by omega)) ⟨vm, nm_r (pl_up (by omega)) ⟨vm, nm_r (pl_up (by omega)) hp⟩⟩⟩
  | succ d ih =>
    intro i hi
    have vi := vp_in_nI (show i < 7 by omega) (by decide : 7 < 2 ^ 31)
    have ih := ih (i + 1) (by omega)
    refine br_f (nI_ge (by omega) (by omega)) (pl_xHA (by omega) (by omega) (fun e => br_f (by decide) ⟨vi, nm_r (pl_Uy (by omega) e) ⟨vi, nm_r (pl_Uy (by omega) e) ⟨vi, nm_r (pl_Uy (by omega) e) (nm_r (nI_1 i) ih)⟩⟩⟩) (fun e => br_t rfl (nm_r (nI_1 i) ?_)))
    rw [pl_Un e, pl_Un e, pl_Un e] at ih
    exact ih
theorem pl_xJo {post : SX → Prop} {m : Nat} (hc : c ≤ 7) (hm : m < 128)
    (hp : post (nI c, s0, pl_N dn, pl_N dg, pl_N dl, upd sn m (nI (pl_U dn m c)), upd sg m (nI (pl_U dg m c)), upd sl m (nI (pl_U dl m c)), sc, lt)) :
    wpX_joinActionsOf post (nI c, s0, pl_N dn, pl_N dg, pl_N dl, sn, sg, sl, sc, lt) (nI m) :=
  ⟨c + 1, pl_xJo1 hc hm hp c 0 (Nat.zero_add c)⟩
theorem pl_xTC1 {post : Int32 → Prop} {J2 : Int32 → Prop} {m i : Nat} (hl : ∀ i, dl i < 256) (hc : c ≤ 7) (hm : m < 128) (hi : i < c) :
    ∀ d j, j + d = c → (∀ j', j ≤ j' → j' < c → m / 2 ^ i % 2 = 1 → m / 2 ^ j' % 2 = 1 → pl_cl dn dg dl i j' → post 1) →
      ((∀ j', j ≤ j' → j' < c → m / 2 ^ i % 2 = 1 → m / 2 ^ j' % 2 = 1 → ¬ pl_cl dn dg dl i j') → J2 (nI (i + 1))) →
      wX_someTwoClash_14 post J2 (nI m) (nI i) (nI c) s0 (pl_N dn) (pl_N dg) (pl_N dl) sn sg sl sc lt (d + 1) (nI j) := by
  intro d
  induction d with
  | zero =>
    intro j hj h1 h0
    obtain rfl : j = c := hj
    exact br_t (nI_le (Nat.le_refl _) (by omega)) (nm_r (nI_1 i) (h0 fun j' a b => absurd b (by omega)))
  | succ d ih =>
    intro j hj h1 h0
    have go : (m / 2 ^ i % 2 = 1 → m / 2 ^ j % 2 = 1 → ¬ pl_cl dn dg dl i j) → wX_someTwoClash_14 post J2 (nI m) (nI i) (nI c) s0 (pl_N dn) (pl_N dg) (pl_N dl) sn sg sl sc lt (d + 1) (nI (j + 1)) := by
      intro hn
      refine ih (j + 1) (by omega) (fun j' a b => h1 j' (by omega) b) (fun hh => h0 fun j' a b => ?_)
      by_cases e : j' = j
      · subst e; exact hn
      · exact hh j' (by omega) b
    exact br_f (nI_ge (by omega) (by omega)) (pl_xHA (by omega) (by omega)
      (fun e1 => br_f (by decide) (pl_xHA (by omega) (by omega)
        (fun e2 => br_f (by decide) (pl_xES hl (by omega) (by omega)
          (fun e3 => br_f (by decide) (h1 j (Nat.le_refl j) (by omega) e1 e2 e3))
          (fun e3 => br_t rfl (nm_r (nI_1 j) (go fun _ _ => e3)))))
        (fun e2 => br_t rfl (nm_r (nI_1 j) (go fun _ z => absurd z e2)))))
      (fun e1 => br_t rfl (nm_r (nI_1 j) (go fun z => absurd z e1))))
theorem pl_xTC2 {post : Int32 → Prop} {m : Nat} (hl : ∀ i, dl i < 256) (hc : c ≤ 7) (hm : m < 128) (h1 : pl_C dn dg dl c m → post 1) (h0 : ¬ pl_C dn dg dl c m → post 0) :
    ∀ d i, i + d = c → (∀ i' j', i' < i → i' < j' → j' < c → m / 2 ^ i' % 2 = 1 → m / 2 ^ j' % 2 = 1 → ¬ pl_cl dn dg dl i' j') →
      wX_someTwoClash_2 post (nI m) (nI c) s0 (pl_N dn) (pl_N dg) (pl_N dl) sn sg sl sc lt (d + 1) (nI i) := by
  intro d
  induction d with
  | zero =>
    intro i hi hn
    obtain rfl : i = c := hi
    refine br_t (nI_le (Nat.le_refl _) (by omega)) (h0 ?_)
    rintro ⟨i', j', a, b, e1, e2, e3⟩
    exact hn i' j' (by omega) a b e1 e2 e3
  | succ d ih =>
    intro i hi hn
    refine br_f (nI_ge (by omega) (by omega)) (nm_r (nI_1 i) ⟨(c - (i + 1)) + 1, pl_xTC1 hl hc hm (by omega) (c - (i + 1)) (i + 1) (by omega) ?_ ?_⟩)
    · intro j' a b e1 e2 e3
      exact h1 ⟨i, j', by omega, b, e1, e2, e3⟩
    · intro hh
      refine ih (i + 1) (by omega) fun i' j' a b cc e1 e2 => ?_
      by_cases e : i' = i
      · subst e; exact hh j' (by omega) cc e1 e2
      · exact hn i' j' (by omega) b cc e1 e2
theorem pl_xTC {post : Int32 → Prop} {m : Nat} (hl : ∀ i, dl i < 256) (hc : c ≤ 7) (hm : m < 128) (h1 : pl_C dn dg dl c m → post 1) (h0 : ¬ pl_C dn dg dl c m → post 0) :
    wpX_someTwoClash post (nI c, s0, pl_N dn, pl_N dg, pl_N dl, sn, sg, sl, sc, lt) (nI m) :=
  ⟨c + 1, pl_xTC2 hl hc hm h1 h0 c 0 (Nat.zero_add c) fun i' j' a => absurd a (Nat.not_lt_zero i')⟩
/-- what joinActionSets has filled in, of the sets below e -/
def pl_J (dn dg dl : Nat → Nat) (c e : Nat) (sn sg sl sc : Nat → Int32) : Prop := ∀ m, m < e → sn m = nI (pl_U dn m c) ∧ sg m = nI (pl_U dg m c) ∧ sl m = nI (pl_U dl m c) ∧ (sc m = 0 ↔ ¬ pl_C dn dg dl c m)
theorem pl_J_s {e : Nat} {x : Int32} (h : pl_J dn dg dl c e sn sg sl sc) (hx : x = 0 ↔ ¬ pl_C dn dg dl c e) :
    pl_J dn dg dl c (e + 1) (upd sn e (nI (pl_U dn e c))) (upd sg e (nI (pl_U dg e c))) (upd sl e (nI (pl_U dl e c))) (upd sc e x) := by
  intro m hm
  by_cases em : m = e
  · subst em
    rw [pk_us, pk_us, pk_us, pk_us]
    exact ⟨rfl, rfl, rfl, hx⟩
  · rw [pk_un em, pk_un em, pk_un em, pk_un em]
    exact h m (by omega)
theorem pl_xJS1 {post : SX → Prop} (hl : ∀ i, dl i < 256) (hc : c ≤ 7)
    (hp : ∀ sn sg sl sc, pl_J dn dg dl c (2 ^ c) sn sg sl sc → post (nI c, s0, pl_N dn, pl_N dg, pl_N dl, sn, sg, sl, sc, lt)) :
    ∀ d m sn sg sl sc, m + d = 2 ^ c → pl_J dn dg dl c m sn sg sl sc → wX_joinActionSets_2 post (d + 1) (nI m) (nI c) s0 (pl_N dn) (pl_N dg) (pl_N dl) sn sg sl sc lt := by
  have h7 := pl_p7 hc
  intro d
  induction d with
  | zero =>
    intro m sn sg sl sc hm hJ
    have hm : m = 2 ^ c := hm
    subst hm
    exact br_t (by rw [pl_p2 (by omega)]; exact nI_le (Nat.le_refl _) (by omega)) (hp _ _ _ _ hJ)
  | succ d ih =>
    intro m sn sg sl sc hm hJ
    have vm := vp_in_nI (show m < 128 by omega) (by decide : 128 < 2 ^ 31)
    exact br_f (by rw [pl_p2 (by omega)]; exact nI_ge (by omega) (by omega)) (pl_xJo hc (by omega) (pl_xTC hl hc (by omega)
      (fun z => ⟨vm, nm_r (pl_up (by omega)) (nm_r (nI_1 m) (ih (m + 1) _ _ _ _ (by omega) (pl_J_s hJ (by rw [pl_nar1]; exact ⟨fun a => absurd a (by decide), fun a => absurd z a⟩))))⟩)
      (fun z => ⟨vm, nm_r (pl_up (by omega)) (nm_r (nI_1 m) (ih (m + 1) _ _ _ _ (by omega) (pl_J_s hJ (by rw [pl_nar0]; exact ⟨fun _ => z, fun _ => rfl⟩))))⟩)))
theorem pl_xJS {post : SX → Prop} (hl : ∀ i, dl i < 256) (hc : c ≤ 7)
    (hp : ∀ sn sg sl sc, pl_J dn dg dl c (2 ^ c) sn sg sl sc → post (nI c, s0, pl_N dn, pl_N dg, pl_N dl, sn, sg, sl, sc, lt)) :
    wpX_joinActionSets post (nI c, s0, pl_N dn, pl_N dg, pl_N dl, sn, sg, sl, sc, lt) :=
  ⟨2 ^ c + 1, pl_xJS1 hl hc hp (2 ^ c) 0 sn sg sl sc (Nat.zero_add _) fun m hm => absurd hm (Nat.not_lt_zero m)⟩
theorem pl_xFo1 {post : SX → Prop} (hp : ∀ lt, (∀ s, s < 256 → lt s = nI 9) → post (nI c, s0, aN, aG, aL, sn, sg, sl, sc, lt)) :
    ∀ d i lt, i + d = 256 → (∀ s, s < i → lt s = nI 9) → wX_forgetStates_2 post (nI c) s0 (d + 1) (nI i) aN aG aL sn sg sl sc lt := by
  intro d
  induction d with
  | zero =>
    intro i lt hi h
    obtain rfl : i = 256 := hi
    exact br_t (nI_le (a := 256) (Nat.le_refl _) (by decide)) (hp lt h)
  | succ d ih =>
    intro i lt hi h
    refine br_f (nI_ge (b := 256) (by omega) (by decide)) ⟨vp_in_nI (by omega) (by decide), nm_r (pl_up (by omega)) (nm_r (nI_1 i) (ih (i + 1) _ (by omega) fun s hs => ?_))⟩
    by_cases e : s = i
    · subst e; exact pk_us
    · rw [pk_un e]; exact h s (by omega)
theorem pl_xFo {post : SX → Prop} (hp : ∀ lt, (∀ s, s < 256 → lt s = nI 9) → post (nI c, s0, aN, aG, aL, sn, sg, sl, sc, lt)) :
    wpX_forgetStates post (nI c, s0, aN, aG, aL, sn, sg, sl, sc, lt) :=
  ⟨257, pl_xFo1 hp 256 0 lt rfl fun s hs => absurd hs (Nat.not_lt_zero s)⟩
theorem pl_xCB {post : Int32 → Prop} {m s : Nat} (hc : c ≤ 7) (hn : ∀ i, dn i < 256) (hs : s < 256) (hm : m < 2 ^ c) (hJ : pl_J dn dg dl c (2 ^ c) sn sg sl sc) (h1 : pl_ok dn dg dl c m s → post 1) (h0 : ¬ pl_ok dn dg dl c m s → post 0) :
    wpX_canBeLayer post (nI c, s0, aN, aG, aL, sn, sg, sl, sc, lt) (nI m) (nI s) := by
  have h7 := pl_p7 hc
  have vm := vp_in_nI (show m < 128 by omega) (by decide : 128 < 2 ^ 31)
  have cl : (nI m).toNatClampNeg = m := nI_clamp (by omega)
  have U := pl_U_lt hn m c
  obtain ⟨e1, e2, e3, e4⟩ := hJ m hm
  refine ⟨vm, br_c (fun z => ⟨vm, ?_⟩) (fun z => h0 ?_)⟩
  · rw [cl] at z
    exact pk_eq (s &&& pl_U dn m c) (pl_U dn m c) (fun e => br_f (by decide) (h1 ⟨e4.mp z, e⟩)) (fun e => br_t rfl (h0 fun k => e k.2)) (by rw [cl, e1, nx_and]) (by rw [cl, e1]) (pl_an hs) (by omega)
  · rw [cl] at z
    exact fun k => z (e4.mpr k.1)
theorem pl_xSA {post : Int32 → Prop} {m s : Nat} (hc : c ≤ 7) (hm : m < 2 ^ c) (hJ : pl_J dn dg dl c (2 ^ c) sn sg sl sc) (hp : post (nI (pl_af dg dl c m s))) :
    wpX_stateAfter post (nI c, s0, aN, aG, aL, sn, sg, sl, sc, lt) (nI m) (nI s) := by
  have h7 := pl_p7 hc
  have vm := vp_in_nI (show m < 128 by omega) (by decide : 128 < 2 ^ 31)
  obtain ⟨e1, e2, e3, e4⟩ := hJ m hm
  refine ⟨vm, vm, ?_⟩
  show post ((nI s &&& (sl (nI m).toNatClampNeg ^^^ (-1))) ||| sg (nI m).toNatClampNeg)
  rw [nI_clamp (by omega), e3, e2, pl_nt, nx_and, pl_or]
  exact hp
end
end
section
/-! the class: the spread over the states, and what is read off it -/
/-- layersTo holds these numbers -/
def pl_L (lt : Nat → Int32) (v : Nat → Nat) : Prop := ∀ s, s < 256 → lt s = nI (v s)
theorem pl_L_up {lt : Nat → Int32} {v : Nat → Nat} {a x : Nat} (h : pl_L lt v) : pl_L (upd lt a (nI x)) (fun s => if s = a then x else v s) := by
  intro s hs
  by_cases e : s = a
  · subst e
    dsimp only
    rw [pk_us, if_pos rfl]
  · dsimp only
    rw [pk_un e, if_neg e]
    exact h s hs
theorem pl_L_g {lt : Nat → Int32} {v : Nat → Nat} {s : Nat} (h : pl_L lt v) (hs : s < 256) : lt (nI s).toNatClampNeg = nI (v s) := by
  rw [nI_clamp (by omega)]
  exact h s hs
theorem pl_ex_s {D : Nat → Prop} {m : Nat} : (∃ x, x < m + 1 ∧ D x) ↔ (∃ x, x < m ∧ D x) ∨ D m := by
  constructor
  · rintro ⟨x, hx, h⟩
    by_cases e : x = m
    · subst e; exact Or.inr h
    · exact Or.inl ⟨x, by omega, h⟩
  · rintro (⟨x, hx, h⟩ | h)
    · exact ⟨x, by omega, h⟩
    · exact ⟨m, Nat.lt_succ_self m, h⟩
section
variable {dn dg dl : Nat → Nat} {c : Nat} {s0 : Int32} {aN aG aL sn sg sl sc lt : Nat → Int32} {P : Nat → Prop}
theorem pl_xRF1 {post : SX → Prop} {R : Nat → Nat → Prop} {Q : Nat → Prop} {t k : Nat} (hc : c ≤ 7) (hn : ∀ i, dn i < 256) (hg : ∀ i, dg i < 256) (ht : t < 256) (hk : k < 8)
    (hR : ∀ j s, s < 256 → j ≤ k → R j s → R k s) (hJ : pl_J dn dg dl c (2 ^ c) sn sg sl sc)
    (hp : ∀ lt v, pl_L lt v → pl_Mi R k (fun s => Q s ∨ pl_T dn dg dl c t s) v → post (nI c, s0, aN, aG, aL, sn, sg, sl, sc, lt)) :
    ∀ d m lt v, m + d = 2 ^ c → pl_L lt v → pl_Mi R k (fun s => Q s ∨ ∃ m', m' < m ∧ pl_ok dn dg dl c m' t ∧ pl_af dg dl c m' t = s) v →
      wX_reachFrom_2 post (nI t) (nI (k + 1)) (nI c) s0 (d + 1) (nI m) aN aG aL sn sg sl sc lt := by
  have h7 := pl_p7 hc
  intro d
  induction d with
  | zero =>
    intro m lt v hm hL hM
    have hm : m = 2 ^ c := hm
    subst hm
    exact br_t (by rw [pl_p2 (by omega)]; exact nI_le (Nat.le_refl _) (by omega)) (hp lt v hL hM)
  | succ d ih =>
    intro m lt v hm hL hM
    refine br_f (by rw [pl_p2 (by omega)]; exact nI_ge (by omega) (by omega)) (pl_xCB hc hn ht (by omega) hJ (fun ok => br_f (by decide) (pl_xSA hc (by omega) hJ ?_)) (fun no => br_t rfl (nm_r (nI_1 m) (ih (m + 1) lt v (by omega) hL (pl_Mi_q (fun s hs => ?_) hM)))))
    · have ha : pl_af dg dl c m t < 256 := pl_af_lt hg ht
      have va := vp_in_nI ha (by decide : 256 < 2 ^ 31)
      have h9 := (hM _ ha).2.2
      have q : ∀ s, s < 256 → (((Q s ∨ ∃ m', m' < m ∧ pl_ok dn dg dl c m' t ∧ pl_af dg dl c m' t = s) ∨ s = pl_af dg dl c m t) ↔ (Q s ∨ ∃ m', m' < m + 1 ∧ pl_ok dn dg dl c m' t ∧ pl_af dg dl c m' t = s)) := by
        intro s hs
        rw [pl_ex_s (D := fun m' => pl_ok dn dg dl c m' t ∧ pl_af dg dl c m' t = s), or_assoc]
        have e : s = pl_af dg dl c m t ↔ (pl_ok dn dg dl c m t ∧ pl_af dg dl c m t = s) := ⟨fun e => ⟨ok, e.symm⟩, fun e => e.2.symm⟩
        rw [e]
      exact ⟨va, pk_le (v (pl_af dg dl c m t)) (k + 1)
        (fun e => nm_r (nI_1 m) (ih (m + 1) lt v (by omega) hL (pl_Mi_q q (pl_Mi_skip hM ha e))))
        (fun e => ⟨va, nm_r (pl_up (by omega)) (nm_r (nI_1 m) (ih (m + 1) _ _ (by omega) (pl_L_up hL) (pl_Mi_q q (pl_Mi_put hR hM ha e))))⟩)
        (pl_L_g hL ha) rfl (by omega) (by omega)⟩
    · rw [pl_ex_s (D := fun m' => pl_ok dn dg dl c m' t ∧ pl_af dg dl c m' t = s)]
      exact or_congr Iff.rfl ⟨Or.inl, fun z => z.elim id fun y => absurd y.1 no⟩
theorem pl_xRF {post : SX → Prop} {R : Nat → Nat → Prop} {Q : Nat → Prop} {t k : Nat} {v : Nat → Nat} (hc : c ≤ 7) (hn : ∀ i, dn i < 256) (hg : ∀ i, dg i < 256) (ht : t < 256) (hk : k < 8)
    (hR : ∀ j s, s < 256 → j ≤ k → R j s → R k s) (hJ : pl_J dn dg dl c (2 ^ c) sn sg sl sc) (hL : pl_L lt v) (hM : pl_Mi R k Q v)
    (hp : ∀ lt v, pl_L lt v → pl_Mi R k (fun s => Q s ∨ pl_T dn dg dl c t s) v → post (nI c, s0, aN, aG, aL, sn, sg, sl, sc, lt)) :
    wpX_reachFrom post (nI c, s0, aN, aG, aL, sn, sg, sl, sc, lt) (nI t) (nI k + 1) := by
  rw [nI_1 k]
  refine ⟨2 ^ c + 1, pl_xRF1 hc hn hg ht hk hR hJ hp (2 ^ c) 0 lt v (Nat.zero_add _) hL (pl_Mi_q (fun s hs => ?_) hM)⟩
  constructor
  · exact Or.inl
  · rintro (h | ⟨m', h, _⟩)
    · exact h
    · exact absurd h (Nat.not_lt_zero m')
theorem pl_xSp1 {post : SX → Prop} {J2 : Int32 → Int32 → Int32 → (Nat → Int32) → (Nat → Int32) → (Nat → Int32) → (Nat → Int32) → (Nat → Int32) → (Nat → Int32) → (Nat → Int32) → (Nat → Int32) → Prop} {k : Nat}
    (hc : c ≤ 7) (hn : ∀ i, dn i < 256) (hg : ∀ i, dg i < 256) (hk : k < 8) (hJ : pl_J dn dg dl c (2 ^ c) sn sg sl sc)
    (hp : ∀ lt v, pl_L lt v → pl_Mi (pl_R (pl_T dn dg dl c) P) k (fun s => ∃ t, t < 256 ∧ pl_Ex (pl_R (pl_T dn dg dl c) P) k t ∧ pl_T dn dg dl c t s) v → J2 (nI (k + 1)) (nI c) s0 aN aG aL sn sg sl sc lt) :
    ∀ d t lt v, t + d = 256 → pl_L lt v → pl_Mi (pl_R (pl_T dn dg dl c) P) k (fun s => ∃ t', t' < t ∧ pl_Ex (pl_R (pl_T dn dg dl c) P) k t' ∧ pl_T dn dg dl c t' s) v →
      wX_spread_10 post J2 (nI k) (d + 1) (nI t) (nI c) s0 aN aG aL sn sg sl sc lt := by
  have hR : ∀ j s, s < 256 → j ≤ k → pl_R (pl_T dn dg dl c) P j s → pl_R (pl_T dn dg dl c) P k s := fun j s hs hj h => pl_R_le (fun s hs => pl_T_rf hs) hs hj h
  intro d
  induction d with
  | zero =>
    intro t lt v ht hL hM
    obtain rfl : t = 256 := ht
    exact br_t (nI_le (a := 256) (Nat.le_refl _) (by decide)) (nm_r (nI_1 k) (hp lt v hL hM))
  | succ d ih =>
    intro t lt v ht hL hM
    have h9 := (hM t (by omega)).2.2
    have ex := pl_Mi_ex hM (s := t) (by omega)
    refine br_f (nI_ge (b := 256) (by omega) (by decide)) ⟨vp_in_nI (by omega) (by decide), pk_eq (v t) k (fun e => pl_xRF hc hn hg (by omega) hk hR hJ hL hM fun lt v hL hM => ?_) (fun e => nm_r (nI_1 t) (ih (t + 1) lt v (by omega) hL (pl_Mi_q (fun s hs => ?_) hM))) (pl_L_g hL (by omega)) rfl (by omega) (by omega)⟩
    · refine nm_r (nI_1 t) (ih (t + 1) lt v (by omega) hL (pl_Mi_q (fun s hs => ?_) hM))
      rw [pl_ex_s (D := fun t' => pl_Ex (pl_R (pl_T dn dg dl c) P) k t' ∧ pl_T dn dg dl c t' s)]
      exact or_congr Iff.rfl ⟨fun z => ⟨ex.mp e, z⟩, fun z => z.2⟩
    · rw [pl_ex_s (D := fun t' => pl_Ex (pl_R (pl_T dn dg dl c) P) k t' ∧ pl_T dn dg dl c t' s)]
      exact ⟨Or.inl, fun z => z.elim id fun y => absurd (ex.mpr y.1) e⟩
theorem pl_xSp2 {post : SX → Prop} (hc : c ≤ 7) (hn : ∀ i, dn i < 256) (hg : ∀ i, dg i < 256) (hJ : pl_J dn dg dl c (2 ^ c) sn sg sl sc)
    (hp : ∀ lt v, pl_L lt v → pl_Me (pl_R (pl_T dn dg dl c) P) 8 v → post (nI c, s0, aN, aG, aL, sn, sg, sl, sc, lt)) :
    ∀ d k lt v, k + d = 8 → pl_L lt v → pl_Me (pl_R (pl_T dn dg dl c) P) k v → wX_spread_2 post (d + 1) (nI k) (nI c) s0 aN aG aL sn sg sl sc lt := by
  intro d
  induction d with
  | zero =>
    intro k lt v hk hL hM
    obtain rfl : k = 8 := hk
    exact br_t (nI_le (a := 8) (Nat.le_refl _) (by decide)) (hp lt v hL hM)
  | succ d ih =>
    intro k lt v hk hL hM
    refine br_f (nI_ge (b := 8) (by omega) (by decide)) ⟨257, pl_xSp1 hc hn hg (show k < 8 by omega) hJ (fun lt v hL hM => ih (k + 1) lt v (by omega) hL (pl_Mi_end (fun s hs => pl_T_rf hs) (by omega) hM)) 256 0 lt v rfl hL (pl_Mi_q (fun s hs => ?_) (pl_Mi_0 (by omega) hM))⟩
    exact ⟨fun z => z.elim, fun ⟨t', h, _⟩ => absurd h (Nat.not_lt_zero t')⟩
theorem pl_xSp {post : SX → Prop} {v : Nat → Nat} (hc : c ≤ 7) (hn : ∀ i, dn i < 256) (hg : ∀ i, dg i < 256) (hJ : pl_J dn dg dl c (2 ^ c) sn sg sl sc) (hL : pl_L lt v) (hM : pl_Me (pl_R (pl_T dn dg dl c) P) 0 v)
    (hp : ∀ lt v, pl_L lt v → pl_Me (pl_R (pl_T dn dg dl c) P) 8 v → post (nI c, s0, aN, aG, aL, sn, sg, sl, sc, lt)) :
    wpX_spread post (nI c, s0, aN, aG, aL, sn, sg, sl, sc, lt) :=
  ⟨9, pl_xSp2 hc hn hg hJ hp 8 0 lt v rfl hL hM⟩
theorem pl_Me_0 {T : Nat → Nat → Prop} {v : Nat → Nat} (h : ∀ s, s < 256 → (v s = 0 ↔ P s) ∧ (v s = 0 ∨ v s = 9)) : pl_Me (pl_R T P) 0 v := by
  intro s hs
  obtain ⟨a, b⟩ := h s hs
  refine ⟨fun j hj => ?_, by omega⟩
  obtain rfl : j = 0 := by omega
  rw [Nat.le_zero]
  exact a
theorem pl_xMS {post : SX → Prop} {s : Nat} (hc : c ≤ 7) (hs : s < 256) (hn : ∀ i, dn i < 256) (hg : ∀ i, dg i < 256) (hl : ∀ i, dl i < 256)
    (hp : ∀ sn sg sl sc lt v, pl_J dn dg dl c (2 ^ c) sn sg sl sc → pl_L lt v → pl_Me (pl_R (pl_T dn dg dl c) (fun x => x = s)) 8 v → post (nI c, nI s, pl_N dn, pl_N dg, pl_N dl, sn, sg, sl, sc, lt)) :
    wpX_measureFromStart post (nI c, nI s, pl_N dn, pl_N dg, pl_N dl, sn, sg, sl, sc, lt) := by
  unfold wpX_measureFromStart
  refine pl_xJS hl hc fun sn sg sl sc hJ => ?_
  refine pl_xFo fun lt hlt => ?_
  refine ⟨vp_in_nI hs (by decide), nm_r (pl_up (by omega)) ?_⟩
  refine pl_xSp (v := fun x => if x = s then 0 else 9) hc hn hg hJ (pl_L_up (x := 0) (v := fun _ => 9) hlt) (pl_Me_0 (P := fun x => x = s) fun x hx => ?_) fun lt v hL hM => hp sn sg sl sc lt v hJ hL hM
  split
  · exact ⟨⟨fun _ => by assumption, fun _ => rfl⟩, Or.inl rfl⟩
  · exact ⟨⟨fun z => absurd z (by decide), fun z => absurd z (by assumption)⟩, Or.inr rfl⟩
theorem pl_xLL1 {post : Int32 → Prop} {R : Nat → Nat → Prop} {g : Nat} {v : Nat → Nat} (hgl : g < 256) (hL : pl_L lt v) (hM : pl_Me R 8 v)
    (hp : ∀ l, pl_Le R (fun s => s &&& g = g) 256 l → post (nI l)) :
    ∀ d t l, t + d = 256 → pl_Le R (fun s => s &&& g = g) t l → wX_leastLayers_5 post (nI g) (nI c) s0 aN aG aL sn sg sl sc lt (d + 1) (nI l) (nI t) := by
  intro d
  induction d with
  | zero =>
    intro t l ht h
    obtain rfl : t = 256 := ht
    exact br_t (nI_le (a := 256) (Nat.le_refl _) (by decide)) (hp l h)
  | succ d ih =>
    intro t l ht h
    have h9 := h.1
    have vt := vp_in_nI (show t < 256 by omega) (by decide : 256 < 2 ^ 31)
    have h8 := (hM t (by omega)).2
    exact br_f (nI_ge (b := 256) (by omega) (by decide)) (pk_eq (t &&& g) g
      (fun e => br_f (by decide) ⟨vt, pk_le l (v t)
        (fun q => nm_r (nI_1 t) (ih (t + 1) l (by omega) (pl_Le_no h fun j hj _ hR => by have := ((hM t (by omega)).1 j hj).mpr hR; omega)))
        (fun q => ⟨vt, nm_r (pl_L_g hL (by omega)) (nm_r (nI_1 t) (ih (t + 1) (v t) (by omega) (pl_Le_yes hM h (by omega) e q)))⟩)
        rfl (pl_L_g hL (by omega)) (by omega) (by omega)⟩)
      (fun e => br_t rfl (nm_r (nI_1 t) (ih (t + 1) l (by omega) (pl_Le_no h fun j hj hG _ => absurd hG e))))
      (nx_and t g) rfl (pl_an' hgl) (by omega))
theorem pl_xLL {post : Int32 → Prop} {R : Nat → Nat → Prop} {g : Nat} {v : Nat → Nat} (hgl : g < 256) (hL : pl_L lt v) (hM : pl_Me R 8 v)
    (hp : ∀ l, pl_Le R (fun s => s &&& g = g) 256 l → post (nI l)) : wpX_leastLayers post (nI c, s0, aN, aG, aL, sn, sg, sl, sc, lt) (nI g) :=
  ⟨257, pl_xLL1 hgl hL hM hp 256 0 9 rfl pl_Le_0⟩
/-- the states that a first layer with i leaves -/
def pl_D (dn dg dl : Nat → Nat) (c s i m : Nat) : Prop := m < 2 ^ c ∧ m / 2 ^ i % 2 = 1 ∧ pl_ok dn dg dl c m s
theorem pl_xMA1 {post : SX → Prop} {s i : Nat} (hc : c ≤ 7) (hs : s < 256) (hi : i < c) (hn : ∀ i, dn i < 256) (hg : ∀ i, dg i < 256) (hJ : pl_J dn dg dl c (2 ^ c) sn sg sl sc)
    (hp : ∀ lt v, pl_L lt v → pl_Me (pl_R (pl_T dn dg dl c) (fun x => ∃ m, pl_D dn dg dl c s i m ∧ x = pl_af dg dl c m s)) 8 v → post (nI c, nI s, aN, aG, aL, sn, sg, sl, sc, lt)) :
    ∀ d m lt v, m + d = 2 ^ c → pl_L lt v → (∀ x, x < 256 → (v x = 0 ↔ ∃ m', m' < m ∧ m' / 2 ^ i % 2 = 1 ∧ pl_ok dn dg dl c m' s ∧ x = pl_af dg dl c m' s) ∧ (v x = 0 ∨ v x = 9)) →
      wX_measureAfterLayerWith_6 post (nI i) (nI c) (nI s) (d + 1) (nI m) aN aG aL sn sg sl sc lt := by
  have h7 := pl_p7 hc
  intro d
  induction d with
  | zero =>
    intro m lt v hm hL hM
    have hm : m = 2 ^ c := hm
    subst hm
    refine br_t (by rw [pl_p2 (by omega)]; exact nI_le (Nat.le_refl _) (by omega)) (pl_xSp hc hn hg hJ hL (pl_Me_0 fun x hx => ⟨(hM x hx).1.trans ?_, (hM x hx).2⟩) fun lt v hL hM => hp lt v hL hM)
    exact ⟨fun ⟨m', a, b, d, e⟩ => ⟨m', ⟨a, b, d⟩, e⟩, fun ⟨m', ⟨a, b, d⟩, e⟩ => ⟨m', a, b, d, e⟩⟩
  | succ d ih =>
    intro m lt v hm hL hM
    have skip : ¬ (m / 2 ^ i % 2 = 1 ∧ pl_ok dn dg dl c m s) → wX_measureAfterLayerWith_6 post (nI i) (nI c) (nI s) (d + 1) (nI (m + 1)) aN aG aL sn sg sl sc lt := by
      intro no
      refine ih (m + 1) lt v (by omega) hL fun x hx => ⟨(hM x hx).1.trans ?_, (hM x hx).2⟩
      rw [pl_ex_s (D := fun m' => m' / 2 ^ i % 2 = 1 ∧ pl_ok dn dg dl c m' s ∧ x = pl_af dg dl c m' s)]
      exact ⟨Or.inl, fun z => z.elim id fun y => absurd ⟨y.1, y.2.1⟩ no⟩
    refine br_f (by rw [pl_p2 (by omega)]; exact nI_ge (by omega) (by omega)) (pl_xHA (by omega) (by omega)
      (fun e1 => br_f (by decide) (pl_xCB hc hn hs (by omega) hJ (fun ok => br_f (by decide) (pl_xSA hc (by omega) hJ ?_)) (fun no => br_t rfl (nm_r (nI_1 m) (skip fun z => no z.2)))))
      (fun e1 => br_t rfl (nm_r (nI_1 m) (skip fun z => e1 z.1))))
    have ha : pl_af dg dl c m s < 256 := pl_af_lt hg hs
    refine ⟨vp_in_nI ha (by decide), nm_r (pl_up (by omega)) (nm_r (nI_1 m) (ih (m + 1) _ _ (by omega) (pl_L_up (x := 0) hL) fun x hx => ?_))⟩
    rw [pl_ex_s (D := fun m' => m' / 2 ^ i % 2 = 1 ∧ pl_ok dn dg dl c m' s ∧ x = pl_af dg dl c m' s)]
    by_cases e : x = pl_af dg dl c m s
    · rw [if_pos e]
      exact ⟨⟨fun _ => Or.inr ⟨e1, ok, e⟩, fun _ => rfl⟩, Or.inl rfl⟩
    · rw [if_neg e]
      exact ⟨(hM x hx).1.trans ⟨Or.inl, fun z => z.elim id fun y => absurd y.2.2 e⟩, (hM x hx).2⟩
theorem pl_xMA {post : SX → Prop} {s i : Nat} (hc : c ≤ 7) (hs : s < 256) (hi : i < c) (hn : ∀ i, dn i < 256) (hg : ∀ i, dg i < 256) (hJ : pl_J dn dg dl c (2 ^ c) sn sg sl sc)
    (hp : ∀ lt v, pl_L lt v → pl_Me (pl_R (pl_T dn dg dl c) (fun x => ∃ m, pl_D dn dg dl c s i m ∧ x = pl_af dg dl c m s)) 8 v → post (nI c, nI s, aN, aG, aL, sn, sg, sl, sc, lt)) :
    wpX_measureAfterLayerWith post (nI c, nI s, aN, aG, aL, sn, sg, sl, sc, lt) (nI i) := by
  unfold wpX_measureAfterLayerWith
  refine pl_xFo fun lt hlt => ⟨2 ^ c + 1, pl_xMA1 hc hs hi hn hg hJ hp (2 ^ c) 0 lt (fun _ => 9) (Nat.zero_add _) hlt fun x hx => ?_⟩
  exact ⟨⟨fun z => absurd z (show ¬ (9 : Nat) = 0 by decide), fun ⟨m', h, _⟩ => absurd h (Nat.not_lt_zero m')⟩, Or.inr rfl⟩
end
end
section
/-! the reference: its small methods, after, setOut -/
section
variable {dn dg dl : Nat → Nat} {c : Nat} {s0 : Int32} {aN aG aL had : Nat → Int32}
theorem pl_yIS_no {post : Int32 → Prop} {p : Int32} (h : p < 0 ∨ nI 256 ≤ p) (hp : post 0) : wpY_isSet post (nI c, s0, aN, aG, aL, had) p := by
  by_cases h0 : p < 0
  · exact br_t h0 hp
  · exact br_f h0 (br_t (pl_gt (a := 255) (by decide) (h.resolve_left h0)) hp)
theorem pl_yIS_ok {post : Int32 → Prop} {g : Nat} (hg : g < 256) (hp : post 1) : wpY_isSet post (nI c, s0, aN, aG, aL, had) (nI g) :=
  br_f (nI_pos (by omega)) (br_f (nI_nlt (a := 255) (by omega) (by decide)) hp)
theorem pl_yIA_no {post : Int32 → Prop} {p : Int32} (h : p < 0 ∨ nI c ≤ p) (hp : post 0) : wpY_isAction post (nI c, s0, aN, aG, aL, had) p := by
  by_cases h0 : p < 0
  · exact br_t h0 hp
  · exact br_f h0 (br_t (h.resolve_left h0) hp)
theorem pl_yIA_ok {post : Int32 → Prop} {i : Nat} (hc : c ≤ 7) (hi : i < c) (hp : post 1) : wpY_isAction post (nI c, s0, aN, aG, aL, had) (nI i) :=
  br_f (nI_pos (by omega)) (br_f (nI_ge hi (by omega)) hp)
theorem pl_yC {post : Int32 → Prop} {i j : Nat} (hl : ∀ i, dl i < 256) (hc : c ≤ 7) (hi : i < c) (hj : j < c) (hij : i ≠ j) (h1 : pl_cl dn dg dl i j → post 1) (h0 : ¬ pl_cl dn dg dl i j → post 0) :
    wpY_clash post (nI c, s0, pl_N dn, pl_N dg, pl_N dl, had) (nI i) (nI j) := by
  have vi := vp_in_nI (show i < 7 by omega) (by decide : 7 < 2 ^ 31)
  have vj := vp_in_nI (show j < 7 by omega) (by decide : 7 < 2 ^ 31)
  unfold wpY_clash
  refine pl_yIA_ok hc hi (br_f (by decide) ?_)
  refine pl_yIA_ok hc hj (br_f (by decide) ?_)
  refine br_f (fun z => hij ((nI_eq (by omega) (by omega)).mp z)) ?_
  refine ⟨vi, vj, vj, pk_eq (dl i &&& (dn j ||| dg j)) 0 (fun e1 => ⟨vj, vi, vi, pk_eq (dl j &&& (dn i ||| dg i)) 0 (fun e2 => h0 ?_) (fun e2 => h1 (Or.inr e2)) (pl_clX (by omega) (by omega)) rfl (pl_an (hl j)) (by decide)⟩) (fun e1 => h1 (Or.inl e1)) (pl_clX (by omega) (by omega)) rfl (pl_an (hl i)) (by decide)⟩
  rintro (h | h)
  · exact h e1
  · exact h e2
theorem pl_yA1 {post : Int32 → Prop} {J8 : Int32 → Int32 → Int32 → Prop} {x1 : Int32} {m i : Nat} (hl : ∀ i, dl i < 256) (hc : c ≤ 7) (hm : m < 128) (hi : i < c) (hb : m / 2 ^ i % 2 = 1) :
    ∀ d j, j + d = i → (∀ j', j ≤ j' → j' < i → m / 2 ^ j' % 2 = 1 → pl_cl dn dg dl i j' → post (-1)) →
      ((∀ j', j ≤ j' → j' < i → m / 2 ^ j' % 2 = 1 → ¬ pl_cl dn dg dl i j') → J8 (nI (pl_U dl m (i + 1))) (nI (pl_U dg m (i + 1))) (nI (i + 1))) →
      wY_after_45 post J8 x1 (nI m) (nI (pl_U dl m i)) (nI (pl_U dg m i)) (nI i) (nI c) s0 (pl_N dn) (pl_N dg) (pl_N dl) had (d + 1) (nI j) := by
  have vi := vp_in_nI (show i < 7 by omega) (by decide : 7 < 2 ^ 31)
  intro d
  induction d with
  | zero =>
    intro j hj h1 h0
    obtain rfl : j = i := hj
    exact br_t (nI_le (Nat.le_refl _) (by omega)) ⟨vi, nm_r (pl_Uy (by omega) hb) ⟨vi, nm_r (pl_Uy (by omega) hb) (nm_r (nI_1 j) (h0 fun j' a b => absurd b (by omega)))⟩⟩
  | succ d ih =>
    intro j hj h1 h0
    have go : (m / 2 ^ j % 2 = 1 → ¬ pl_cl dn dg dl i j) → wY_after_45 post J8 x1 (nI m) (nI (pl_U dl m i)) (nI (pl_U dg m i)) (nI i) (nI c) s0 (pl_N dn) (pl_N dg) (pl_N dl) had (d + 1) (nI (j + 1)) := by
      intro hn
      refine ih (j + 1) (by omega) (fun j' a b => h1 j' (by omega) b) (fun hh => h0 fun j' a b => ?_)
      by_cases e : j' = j
      · subst e; exact hn
      · exact hh j' (by omega) b
    exact br_f (nI_ge (by omega) (by omega)) (pk_eq (m / 2 ^ j % 2) 0
      (fun e => nm_r (nI_1 j) (go fun z => absurd z (by omega)))
      (fun e => pl_yC hl hc hi (by omega) (by omega)
        (fun e3 => br_f (by decide) (h1 j (Nat.le_refl j) (by omega) (by omega) e3))
        (fun e3 => br_t rfl (nm_r (nI_1 j) (go fun _ => e3))))
      (pl_bit (by omega) (by omega)) rfl (by omega) (by decide))
theorem pl_yA2 {post : Int32 → Prop} {m s : Nat} (hs : s < 256) (hn : ∀ i, dn i < 256) (hl : ∀ i, dl i < 256) (hc : c ≤ 7) (hm : m < 128) (h1 : pl_ok dn dg dl c m s → post (nI (pl_af dg dl c m s))) (h0 : ¬ pl_ok dn dg dl c m s → post (-1)) :
    ∀ d i, i + d = c → (∀ i', i' < i → m / 2 ^ i' % 2 = 1 → s &&& dn i' = dn i') → (∀ i' j', j' < i' → i' < i → m / 2 ^ i' % 2 = 1 → m / 2 ^ j' % 2 = 1 → ¬ pl_cl dn dg dl i' j') →
      wY_after_8 post (nI s) (nI m) (nI c) s0 (pl_N dn) (pl_N dg) (pl_N dl) had (d + 1) (nI (pl_U dl m i)) (nI (pl_U dg m i)) (nI i) := by
  intro d
  induction d with
  | zero =>
    intro i hi a b
    obtain rfl : i = c := hi
    refine br_t (nI_le (Nat.le_refl _) (by omega)) ?_
    rw [pl_nt, nx_and, pl_or]
    refine h1 ⟨?_, (pl_U_sub i).mpr a⟩
    rintro ⟨x, y, h, hy, b1, b2, hcl⟩
    exact b y x h hy b2 b1 (pl_cl_sy hcl)
  | succ d ih =>
    intro i hi a b
    refine br_f (nI_ge (by omega) (by omega)) (pk_eq (m / 2 ^ i % 2) 0 (fun e => nm_r (nI_1 i) ?_) (fun e => ⟨vp_in_nI (show i < 7 by omega) (by decide), pk_eq (dn i &&& (s ^^^ 4294967295)) 0 (fun e2 => ?_) (fun e2 => h0 fun k => e2 ((pl_sub (Nat.lt_trans (hn i) (by decide))).mpr ((pl_U_sub c).mp k.2 i (by omega) (by omega)))) ?_ rfl (pl_an (hn i)) (by decide)⟩) (pl_bit (by omega) (by omega)) rfl (by omega) (by decide))
    · have ih := ih (i + 1) (by omega) (fun i' hi' z => ?_) (fun i' j' hj hi' z1 z2 => ?_)
      · rw [pl_Un (by omega), pl_Un (by omega)] at ih
        exact ih
      · by_cases ei : i' = i
        · subst ei; omega
        · exact a i' (by omega) z
      · by_cases ei : i' = i
        · subst ei; omega
        · exact b i' j' hj (by omega) z1 z2
    · have e1 : m / 2 ^ i % 2 = 1 := by omega
      refine ⟨i + 1, pl_yA1 hl hc hm (by omega) e1 i 0 (Nat.zero_add i) (fun j' _ hj z1 z2 => h0 fun k => k.1 ⟨j', i, hj, by omega, z1, e1, pl_cl_sy z2⟩) (fun hh => ih (i + 1) (by omega) (fun i' hi' z => ?_) (fun i' j' hj hi' z1 z2 => ?_))⟩
      · by_cases ei : i' = i
        · subst ei; exact (pl_sub (Nat.lt_trans (hn i') (by decide))).mp e2
        · exact a i' (by omega) z
      · by_cases ei : i' = i
        · subst ei; exact hh j' (Nat.zero_le j') hj z2
        · exact b i' j' hj (by omega) z1 z2
    · rw [pl_Ng dn (by omega), pl_nt, nx_and]
theorem pl_yA {post : Int32 → Prop} {x : Int32} {m s : Nat} (hx : x = nI s) (hs : s < 256) (hn : ∀ i, dn i < 256) (hl : ∀ i, dl i < 256) (hc : c ≤ 7) (hm : m < 2 ^ c) (h1 : pl_ok dn dg dl c m s → post (nI (pl_af dg dl c m s))) (h0 : ¬ pl_ok dn dg dl c m s → post (-1)) :
    wpY_after post (nI c, s0, pl_N dn, pl_N dg, pl_N dl, had) x (nI m) := by
  subst hx
  have h7 := pl_p7 hc
  exact ⟨c + 1, pl_yA2 hs hn hl hc (by omega) h1 h0 c 0 (Nat.zero_add c) (fun i' h => absurd h (Nat.not_lt_zero i')) (fun i' j' _ h => absurd h (Nat.not_lt_zero i'))⟩
end
/-- what had holds when the states ahead of cell i have been gone out from -/
def pl_A (T : Nat → Nat → Prop) (P : Nat → Prop) (i j : Nat) : Prop := (j < 256 ∧ P j) ∨ ∃ k t, t < 256 ∧ j / 256 = k + 1 ∧ k * 256 + t < i ∧ pl_R T P k t ∧ T t (j % 256)
theorem pl_A_row {T : Nat → Nat → Prop} {P : Nat → Prop} {i j : Nat} : ∀ k, j / 256 = k → k * 256 ≤ i → (pl_A T P i j ↔ pl_R T P k (j % 256)) := by
  intro k e hi
  cases k with
  | zero =>
    have e2 : j % 256 = j := by omega
    rw [e2]
    constructor
    · rintro (⟨_, h⟩ | ⟨k, t, _, e', _⟩)
      · exact h
      · omega
    · intro h
      exact Or.inl ⟨by omega, h⟩
  | succ k =>
    constructor
    · rintro (⟨h, _⟩ | ⟨k', t, ht, e', _, hR, hT⟩)
      · omega
      · obtain rfl : k' = k := by omega
        exact ⟨t, ht, hR, hT⟩
    · rintro ⟨t, ht, hR, hT⟩
      exact Or.inr ⟨k, t, ht, e, by omega, hR, hT⟩
theorem pl_A_0 {T : Nat → Nat → Prop} {P : Nat → Prop} {j : Nat} : pl_A T P 0 j ↔ j < 256 ∧ P j := by
  constructor
  · rintro (h | ⟨k, t, _, _, h, _⟩)
    · exact h
    · exact absurd h (Nat.not_lt_zero _)
  · exact Or.inl
theorem pl_A_s {T : Nat → Nat → Prop} {P : Nat → Prop} {i j k t : Nat} (hi : i = k * 256 + t) (ht : t < 256) : pl_A T P (i + 1) j ↔ pl_A T P i j ∨ (j / 256 = k + 1 ∧ pl_R T P k t ∧ T t (j % 256)) := by
  constructor
  · rintro (h | ⟨k', t', ht', e', h, hR, hT⟩)
    · exact Or.inl (Or.inl h)
    · by_cases z : k' * 256 + t' = i
      · obtain rfl : k' = k := by omega
        obtain rfl : t' = t := by omega
        exact Or.inr ⟨e', hR, hT⟩
      · exact Or.inl (Or.inr ⟨k', t', ht', e', by omega, hR, hT⟩)
  · rintro ((h | ⟨k', t', ht', e', h, hR, hT⟩) | ⟨e', hR, hT⟩)
    · exact Or.inl h
    · exact Or.inr ⟨k', t', ht', e', by omega, hR, hT⟩
    · exact Or.inr ⟨k, t, ht, e', by omega, hR, hT⟩
theorem pl_rem {i : Nat} (hi : i < 2 ^ 31) : nI i - nI i / 256 * 256 = nI (i % 256) := pk_rem (d := 256) hi (by decide) (by decide)
theorem pl_div {i : Nat} (hi : i < 2 ^ 31) : nI i / 256 = nI (i / 256) := pk_div (d := 256) hi (by decide) (by decide)
theorem pl_m256 (k : Nat) : nI k * 256 = nI (k * 256) := pk_mul k 256
theorem pl_a256 (k : Nat) : nI k + 256 = nI (k + 256) := nI_add k 256
theorem pl_row {i a : Nat} (hi : i < 2 ^ 31) : ((nI i / 256) * 256 + 256) + nI a = nI (i / 256 * 256 + 256 + a) := by
  rw [pl_div hi, pl_m256, pl_a256, nI_add]
section
variable {dn dg dl : Nat → Nat} {c : Nat} {s0 : Int32} {had : Nat → Int32} {P : Nat → Prop}
theorem pl_yS1 {post : SY → Prop} {J33 : Int32 → (Nat → Int32) → (Nat → Int32) → (Nat → Int32) → (Nat → Int32) → Prop} {i k t : Nat} (hc : c ≤ 7) (hn : ∀ i, dn i < 256) (hg : ∀ i, dg i < 256) (hl : ∀ i, dl i < 256)
    (hi : i = k * 256 + t) (ht : t < 256) (h2 : i < 2048) (hR : pl_R (pl_T dn dg dl c) P k t)
    (hp : ∀ had : Nat → Int32, (∀ j, j < 2304 → (¬ had j = 0 ↔ pl_A (pl_T dn dg dl c) P (i + 1) j)) → J33 (nI (i + 1)) (pl_N dn) (pl_N dg) (pl_N dl) had) :
    ∀ d m (had : Nat → Int32), m + d = 2 ^ c → (∀ j, j < 2304 → (¬ had j = 0 ↔ pl_A (pl_T dn dg dl c) P i j ∨ ∃ m', m' < m ∧ pl_ok dn dg dl c m' t ∧ j = (k + 1) * 256 + pl_af dg dl c m' t)) →
      wY_setOut_42 post J33 (nI i) (nI c) s0 (d + 1) (nI m) (pl_N dn) (pl_N dg) (pl_N dl) had := by
  have h7 := pl_p7 hc
  have hq : i % 256 = t := by omega
  have hd : i / 256 = k := by omega
  have hA : pl_A (pl_T dn dg dl c) P i i := (pl_A_row k hd (by omega)).mpr (by rw [hq]; exact hR)
  have vi := vp_in_nI (show i < 2304 by omega) (by decide : 2304 < 2 ^ 31)
  intro d
  induction d with
  | zero =>
    intro m had hm hH
    have hm : m = 2 ^ c := hm
    subst hm
    have hz : ¬ had (nI i).toNatClampNeg = 0 := by rw [nI_clamp (by omega)]; exact (hH i (by omega)).mpr (Or.inl hA)
    refine ⟨vi, br_f hz (br_t (by rw [pl_p2 (by omega)]; exact nI_le (Nat.le_refl _) (by omega)) (nm_r (nI_1 i) (hp had fun j hj => (hH j hj).trans ?_)))⟩
    rw [pl_A_s hi ht]
    refine or_congr Iff.rfl ⟨?_, ?_⟩
    · rintro ⟨m', hm', ok, e⟩
      have ha : pl_af dg dl c m' t < 256 := pl_af_lt hg ht
      exact ⟨by omega, hR, m', hm', ok, by omega⟩
    · rintro ⟨e, _, m', hm', ok, e'⟩
      exact ⟨m', hm', ok, by omega⟩
  | succ d ih =>
    intro m had hm hH
    have hz : ¬ had (nI i).toNatClampNeg = 0 := by rw [nI_clamp (by omega)]; exact (hH i (by omega)).mpr (Or.inl hA)
    refine ⟨vi, br_f hz (br_f (by rw [pl_p2 (by omega)]; exact nI_ge (by omega) (by omega)) ⟨by decide, pl_yA (s := t) (by rw [pl_rem (by omega), hq]) ht hn hl hc (by omega) (fun ok => ?_) (fun no => ?_)⟩)⟩
    · have ha : pl_af dg dl c m t < 256 := pl_af_lt hg ht
      have ex := pl_row (i := i) (a := pl_af dg dl c m t) (by omega)
      rw [hd] at ex
      refine br_f (nI_pos (by omega)) ⟨by decide, pk_in (k * 256 + 256 + pl_af dg dl c m t) 2304 (by omega) ex (by decide), nm_r (e' := upd had (k * 256 + 256 + pl_af dg dl c m t) (vp_nar .boolean 1)) (by rw [ex, nI_clamp (by omega)]) (nm_r (nI_1 m) (ih (m + 1) _ (by omega) fun j hj => ?_))⟩
      rw [pl_ex_s (D := fun m' => pl_ok dn dg dl c m' t ∧ j = (k + 1) * 256 + pl_af dg dl c m' t)]
      by_cases e : j = k * 256 + 256 + pl_af dg dl c m t
      · rw [e, pk_us, pl_nar1]
        exact ⟨fun _ => Or.inr (Or.inr ⟨ok, by omega⟩), fun _ => by decide⟩
      · rw [pk_un e, hH j hj]
        refine or_congr Iff.rfl ⟨Or.inl, fun z => z.elim id fun y => absurd y.2 (by omega)⟩
    · refine br_t (by decide) (nm_r (nI_1 m) (ih (m + 1) had (by omega) fun j hj => (hH j hj).trans (or_congr Iff.rfl ?_)))
      rw [pl_ex_s (D := fun m' => pl_ok dn dg dl c m' t ∧ j = (k + 1) * 256 + pl_af dg dl c m' t)]
      exact ⟨Or.inl, fun z => z.elim id fun y => absurd y.1 no⟩
/-- had, when setOut is through -/
def pl_Hd (had : Nat → Int32) (R : Nat → Nat → Prop) : Prop := ∀ j, j < 2304 → (¬ had j = 0 ↔ R (j / 256) (j % 256))
theorem pl_yS2 {post : SY → Prop} (hc : c ≤ 7) (hn : ∀ i, dn i < 256) (hg : ∀ i, dg i < 256) (hl : ∀ i, dl i < 256)
    (hp : ∀ had, pl_Hd had (pl_R (pl_T dn dg dl c) P) → post (nI c, s0, pl_N dn, pl_N dg, pl_N dl, had)) :
    ∀ d i (had : Nat → Int32), i + d = 2048 → (∀ j, j < 2304 → (¬ had j = 0 ↔ pl_A (pl_T dn dg dl c) P i j)) →
      wY_setOut_33 post (nI c) s0 (d + 1) (nI i) (pl_N dn) (pl_N dg) (pl_N dl) had := by
  intro d
  induction d with
  | zero =>
    intro i had hi hH
    obtain rfl : i = 2048 := hi
    exact br_t (nI_le (a := 2048) (Nat.le_refl _) (by decide)) (hp had fun j hj => (hH j hj).trans (pl_A_row (j / 256) rfl (by omega)))
  | succ d ih =>
    intro i had hi hH
    refine br_f (nI_ge (b := 2048) (by omega) (by decide)) ?_
    have hq : i = i / 256 * 256 + i % 256 := by omega
    have row := pl_A_row (T := pl_T dn dg dl c) (P := P) (i := i) (j := i) (i / 256) rfl (by omega)
    by_cases hR : pl_R (pl_T dn dg dl c) P (i / 256) (i % 256)
    · refine ⟨2 ^ c + 1, pl_yS1 hc hn hg hl hq (by omega) (by omega) hR (fun had hH => ih (i + 1) had (by omega) hH) (2 ^ c) 0 had (Nat.zero_add _) fun j hj => (hH j hj).trans ⟨Or.inl, ?_⟩⟩
      rintro (h | ⟨m', h, _⟩)
      · exact h
      · exact absurd h (Nat.not_lt_zero m')
    · have hz : had (nI i).toNatClampNeg = 0 := by
        rw [nI_clamp (by omega)]
        exact Classical.byContradiction fun z => hR (row.mp ((hH i (by omega)).mp z))
      refine ⟨1, vp_in_nI (show i < 2304 by omega) (by decide), br_t hz (nm_r (nI_1 i) (ih (i + 1) had (by omega) fun j hj => (hH j hj).trans ?_))⟩
      rw [pl_A_s hq (by omega)]
      exact ⟨Or.inl, fun z => z.elim id fun y => absurd y.2.1 hR⟩
theorem pl_yS3 {post : SY → Prop} {s : Nat} (hs : s < 256) (hc : c ≤ 7) (hn : ∀ i, dn i < 256) (hg : ∀ i, dg i < 256) (hl : ∀ i, dl i < 256)
    (hp : ∀ had, pl_Hd had (pl_R (pl_T dn dg dl c) (fun x => x = s)) → post (nI c, s0, pl_N dn, pl_N dg, pl_N dl, had)) :
    ∀ d i (had : Nat → Int32), i + d = 2304 → (∀ j, j < i → (¬ had j = 0 ↔ j = s)) → wY_setOut_2 post (nI s) (nI c) s0 (d + 1) (nI i) (pl_N dn) (pl_N dg) (pl_N dl) had := by
  intro d
  induction d with
  | zero =>
    intro i had hi hH
    obtain rfl : i = 2304 := hi
    refine br_t (nI_le (a := 2304) (Nat.le_refl _) (by decide)) ⟨2049, pl_yS2 hc hn hg hl hp 2048 0 had rfl fun j hj => (hH j hj).trans ?_⟩
    rw [pl_A_0]
    exact ⟨fun e => ⟨by omega, e⟩, fun e => e.2⟩
  | succ d ih =>
    intro i had hi hH
    have vi := vp_in_nI (show i < 2304 by omega) (by decide : 2304 < 2 ^ 31)
    refine br_f (nI_ge (b := 2304) (by omega) (by decide)) (pk_eq i s (fun e => ⟨vi, nm_r (pl_up (by omega)) (nm_r (nI_1 i) (ih (i + 1) _ (by omega) fun j hj => ?_))⟩) (fun e => ⟨vi, nm_r (pl_up (by omega)) (nm_r (nI_1 i) (ih (i + 1) _ (by omega) fun j hj => ?_))⟩) rfl rfl (by omega) (by omega))
    · by_cases z : j = i
      · rw [z, pk_us, pl_nar1]
        exact ⟨fun _ => e, fun _ => by decide⟩
      · rw [pk_un z]
        exact hH j (by omega)
    · by_cases z : j = i
      · rw [z, pk_us, pl_nar0]
        exact ⟨fun h => absurd rfl h, fun h => absurd h e⟩
      · rw [pk_un z]
        exact hH j (by omega)
theorem pl_yS {post : SY → Prop} {s : Nat} (hs : s < 256) (hc : c ≤ 7) (hn : ∀ i, dn i < 256) (hg : ∀ i, dg i < 256) (hl : ∀ i, dl i < 256)
    (hp : ∀ had, pl_Hd had (pl_R (pl_T dn dg dl c) (fun x => x = s)) → post (nI c, s0, pl_N dn, pl_N dg, pl_N dl, had)) :
    wpY_setOut post (nI c, s0, pl_N dn, pl_N dg, pl_N dl, had) (nI s) :=
  ⟨2305, pl_yS3 hs hc hn hg hl hp 2304 0 had rfl fun j hj => absurd hj (Nat.not_lt_zero j)⟩
end
end
section
/-! the reference: what it reads off had; within on both sides; begins -/
section
variable {dn dg dl : Nat → Nat} {c : Nat} {s0 : Int32} {aN aG aL had : Nat → Int32}
theorem pl_ySv1 {post : Int32 → Prop} {R : Nat → Nat → Prop} {g k : Nat} (hg : g < 256) (hk : k ≤ 8) (hH : pl_Hd had R) (h1 : (∃ s, s < 256 ∧ s &&& g = g ∧ R k s) → post 1) (h0 : ¬ (∃ s, s < 256 ∧ s &&& g = g ∧ R k s) → post 0) :
    ∀ d t, t + d = 256 → (∀ t', t' < t → ¬ (t' &&& g = g ∧ R k t')) → wY_served_2 post (nI g) (nI k) (nI c) s0 aN aG aL had (d + 1) (nI t) := by
  intro d
  induction d with
  | zero =>
    intro t ht hn
    obtain rfl : t = 256 := ht
    refine br_t (nI_le (a := 256) (Nat.le_refl _) (by decide)) (h0 ?_)
    rintro ⟨s, hs, h⟩
    exact hn s hs h
  | succ d ih =>
    intro t ht hn
    have ex : nI k * 256 + nI t = nI (k * 256 + t) := by rw [pl_m256, nI_add]
    have hj := hH (k * 256 + t) (by omega)
    rw [show (k * 256 + t) / 256 = k by omega, show (k * 256 + t) % 256 = t by omega] at hj
    have go : ¬ (t &&& g = g ∧ R k t) → wY_served_2 post (nI g) (nI k) (nI c) s0 aN aG aL had (d + 1) (nI (t + 1)) := by
      intro hno
      refine ih (t + 1) (by omega) fun t' ht' => ?_
      by_cases e : t' = t
      · subst e; exact hno
      · exact hn t' (by omega)
    have cl : (nI k * 256 + nI t).toNatClampNeg = k * 256 + t := pk_cl _ ex (by omega)
    refine br_f (nI_ge (b := 256) (by omega) (by decide)) ⟨pk_in (k * 256 + t) 2304 (by omega) ex (by decide), br_c (fun z => nm_r (nI_1 t) (go fun y => ?_)) (fun z => ?_)⟩
    · rw [cl] at z
      exact hj.mpr y.2 z
    · rw [cl] at z
      exact pk_eq (g &&& (t ^^^ 4294967295)) 0 (fun e => h1 ⟨t, by omega, (pl_sub (by omega)).mp e, hj.mp z⟩) (fun e => nm_r (nI_1 t) (go fun y => e ((pl_sub (by omega)).mpr y.1))) (by rw [pl_nt, nx_and]) rfl (pl_an hg) (by decide)
theorem pl_ySv {post : Int32 → Prop} {R : Nat → Nat → Prop} {x y : Int32} {g k : Nat} (hx : x = nI g) (hy : y = nI k) (hg : g < 256) (hk : k ≤ 8) (hH : pl_Hd had R) (h1 : (∃ s, s < 256 ∧ s &&& g = g ∧ R k s) → post 1) (h0 : ¬ (∃ s, s < 256 ∧ s &&& g = g ∧ R k s) → post 0) :
    wpY_served post (nI c, s0, aN, aG, aL, had) x y := by
  subst hx hy
  exact ⟨257, pl_ySv1 hg hk hH h1 h0 256 0 rfl fun t' h => absurd h (Nat.not_lt_zero t')⟩
theorem pl_yF1 {post : Int32 → SY → Prop} {R : Nat → Nat → Prop} {g : Nat} (hg : g < 256) (hH : pl_Hd had R)
    (h9 : (∀ j, j < 9 → ¬ ∃ s, s < 256 ∧ s &&& g = g ∧ R j s) → post (-3) (nI c, s0, aN, aG, aL, had))
    (h8 : ∀ k, k ≤ 8 → (∃ s, s < 256 ∧ s &&& g = g ∧ R k s) → (∀ j, j < k → ¬ ∃ s, s < 256 ∧ s &&& g = g ∧ R j s) → post (nI k) (nI c, s0, aN, aG, aL, had)) :
    ∀ d k, k + d = 9 → (∀ j, j < k → ¬ ∃ s, s < 256 ∧ s &&& g = g ∧ R j s) → wY_fewest_20 post (nI g) (nI c) s0 aN aG aL had (d + 1) (nI k) := by
  intro d
  induction d with
  | zero =>
    intro k hk hn
    obtain rfl : k = 9 := hk
    exact br_t (nI_lt (a := 8) (b := 9) (by decide) (by decide)) (h9 hn)
  | succ d ih =>
    intro k hk hn
    refine br_f (nI_nlt (a := 8) (by omega) (by decide)) (pl_ySv rfl rfl hg (by omega) hH (fun y => br_f (by decide) (h8 k (by omega) y hn)) (fun y => br_t rfl (nm_r (nI_1 k) (ih (k + 1) (by omega) fun j hj => ?_))))
    by_cases e : j = k
    · subst e; exact y
    · exact hn j (by omega)
theorem pl_yF_no {post : Int32 → SY → Prop} {p : Int32} (h : p < 0 ∨ nI 256 ≤ p) (hp : post (-1) (nI c, s0, aN, aG, aL, had)) : wpY_fewest post (nI c, s0, aN, aG, aL, had) p := by
  unfold wpY_fewest
  exact pl_yIS_no h (br_t rfl hp)
theorem pl_yF {post : Int32 → SY → Prop} {g s : Nat} (hgl : g < 256) (hs : s < 256) (hc : c ≤ 7) (hn : ∀ i, dn i < 256) (hg : ∀ i, dg i < 256) (hl : ∀ i, dl i < 256)
    (h9 : ∀ had, (∀ j, j < 9 → ¬ ∃ x, x < 256 ∧ x &&& g = g ∧ pl_R (pl_T dn dg dl c) (fun y => y = s) j x) → post (-3) (nI c, nI s, pl_N dn, pl_N dg, pl_N dl, had))
    (h8 : ∀ had k, k ≤ 8 → (∃ x, x < 256 ∧ x &&& g = g ∧ pl_R (pl_T dn dg dl c) (fun y => y = s) k x) → (∀ j, j < k → ¬ ∃ x, x < 256 ∧ x &&& g = g ∧ pl_R (pl_T dn dg dl c) (fun y => y = s) j x) → post (nI k) (nI c, nI s, pl_N dn, pl_N dg, pl_N dl, had)) :
    wpY_fewest post (nI c, nI s, pl_N dn, pl_N dg, pl_N dl, had) (nI g) := by
  unfold wpY_fewest
  refine pl_yIS_ok hgl (br_f (by decide) ?_)
  refine pl_yS hs hc hn hg hl fun had hH => ?_
  exact ⟨10, pl_yF1 hgl hH (h9 had) (h8 had) 9 0 rfl fun j h => absurd h (Nat.not_lt_zero j)⟩
theorem pl_w_s {R : Nat → Prop} {f : Nat → Nat} {i w : Nat} (h : ∀ b, w.testBit b = true ↔ ∃ j, j < i ∧ R j ∧ (f j).testBit b = true) (hR : R i) : ∀ b, (w ||| f i).testBit b = true ↔ ∃ j, j < i + 1 ∧ R j ∧ (f j).testBit b = true := by
  intro b
  rw [pl_ex_s (D := fun j => R j ∧ (f j).testBit b = true), Nat.testBit_or, Bool.or_eq_true, h b]
  exact or_congr Iff.rfl ⟨fun z => ⟨hR, z⟩, fun z => z.2⟩
theorem pl_w_n {R : Nat → Prop} {f : Nat → Nat} {i w : Nat} (h : ∀ b, w.testBit b = true ↔ ∃ j, j < i ∧ R j ∧ (f j).testBit b = true) (hR : ¬ R i) : ∀ b, w.testBit b = true ↔ ∃ j, j < i + 1 ∧ R j ∧ (f j).testBit b = true := by
  intro b
  rw [pl_ex_s (D := fun j => R j ∧ (f j).testBit b = true), h b]
  exact ⟨Or.inl, fun z => z.elim id fun y => absurd y.1 hR⟩
theorem pl_w_0 {R : Nat → Prop} {f : Nat → Nat} : ∀ b, (0 : Nat).testBit b = true ↔ ∃ j, j < 0 ∧ R j ∧ (f j).testBit b = true := by
  intro b
  rw [Nat.zero_testBit]
  exact ⟨fun z => absurd z (by decide), fun ⟨j, h, _⟩ => absurd h (Nat.not_lt_zero j)⟩
theorem pl_yW1 {post : Int32 → SY → Prop} {R : Nat → Nat → Prop} {k : Nat} (hk : k ≤ 8) (hH : pl_Hd had R)
    (hp : ∀ w, (∀ b, w.testBit b = true ↔ ∃ j, j < 256 * (k + 1) ∧ R (j / 256) (j % 256) ∧ (j % 256).testBit b = true) → post (nI w) (nI c, s0, aN, aG, aL, had)) :
    ∀ d i w, i + d = 256 * (k + 1) → (∀ b, w.testBit b = true ↔ ∃ j, j < i ∧ R (j / 256) (j % 256) ∧ (j % 256).testBit b = true) → wY_within_24 post (nI k) (nI c) s0 aN aG aL had (d + 1) (nI w) (nI i) := by
  have ex : (256 : Int32) * (nI k + 1) = nI (256 * (k + 1)) := by
    rw [nI_1 k]
    exact pk_mul 256 (k + 1)
  intro d
  induction d with
  | zero =>
    intro i w hi hw
    have hi : i = 256 * (k + 1) := hi
    subst hi
    exact br_t (by rw [ex]; exact nI_le (Nat.le_refl _) (by omega)) (hp w hw)
  | succ d ih =>
    intro i w hi hw
    have hj := hH i (by omega)
    have cl : (nI i).toNatClampNeg = i := nI_clamp (by omega)
    refine br_f (by rw [ex]; exact nI_ge (by omega) (by omega)) ⟨vp_in_nI (show i < 2304 by omega) (by decide), br_c (fun z => nm_r (nI_1 i) (ih (i + 1) w (by omega) (pl_w_n (R := fun j => R (j / 256) (j % 256)) (f := fun j => j % 256) hw fun y => ?_))) (fun z => ⟨by decide, nm_r (e' := nI (w ||| i % 256)) (by rw [pl_rem (by omega), pl_or]) (nm_r (nI_1 i) (ih (i + 1) _ (by omega) (pl_w_s (R := fun j => R (j / 256) (j % 256)) (f := fun j => j % 256) hw ?_)))⟩)⟩
    · rw [cl] at z
      exact hj.mpr y z
    · rw [cl] at z
      exact hj.mp z
theorem pl_w_eq {T : Nat → Nat → Prop} {P : Nat → Prop} (hT : ∀ s, s < 256 → T s s) {k w w' : Nat} (h : ∀ b, w.testBit b = true ↔ ∃ t, t < 256 ∧ pl_R T P k t ∧ t.testBit b = true)
    (h' : ∀ b, w'.testBit b = true ↔ ∃ j, j < 256 * (k + 1) ∧ pl_R T P (j / 256) (j % 256) ∧ (j % 256).testBit b = true) : w' = w := by
  apply Nat.eq_of_testBit_eq
  intro b
  rw [Bool.eq_iff_iff, h b, h' b]
  constructor
  · rintro ⟨j, hj, hR, hb⟩
    exact ⟨j % 256, by omega, pl_R_le hT (by omega) (by omega) hR, hb⟩
  · rintro ⟨t, ht, hR, hb⟩
    refine ⟨k * 256 + t, by omega, ?_, ?_⟩
    · rw [show (k * 256 + t) / 256 = k by omega, show (k * 256 + t) % 256 = t by omega]; exact hR
    · rw [show (k * 256 + t) % 256 = t by omega]; exact hb
theorem pl_xW1 {sn sg sl sc lt : Nat → Int32} {post : Int32 → SX → Prop} {R : Nat → Nat → Prop} {v : Nat → Nat} {k : Nat} (hk : k ≤ 8) (hL : pl_L lt v) (hM : pl_Me R 8 v)
    (hp : ∀ w, (∀ b, w.testBit b = true ↔ ∃ t, t < 256 ∧ R k t ∧ t.testBit b = true) → post (nI w) (nI c, s0, aN, aG, aL, sn, sg, sl, sc, lt)) :
    ∀ d t w, t + d = 256 → (∀ b, w.testBit b = true ↔ ∃ j, j < t ∧ R k j ∧ j.testBit b = true) → wX_within_17 post (nI k) (nI c) s0 aN aG aL sn sg sl sc lt (d + 1) (nI w) (nI t) := by
  intro d
  induction d with
  | zero =>
    intro t w ht hw
    obtain rfl : t = 256 := ht
    exact br_t (nI_le (a := 256) (Nat.le_refl _) (by decide)) (hp w hw)
  | succ d ih =>
    intro t w ht hw
    have h8 := (hM t (by omega)).2
    have hk2 := (hM t (by omega)).1 k hk
    exact br_f (nI_ge (b := 256) (by omega) (by decide)) ⟨vp_in_nI (show t < 256 by omega) (by decide), pk_lt k (v t)
      (fun e => nm_r (nI_1 t) (ih (t + 1) w (by omega) (pl_w_n (R := R k) (f := fun j => j) hw fun y => absurd (hk2.mpr y) (by omega))))
      (fun e => nm_r (pl_or w t) (nm_r (nI_1 t) (ih (t + 1) _ (by omega) (pl_w_s (R := R k) (f := fun j => j) hw (hk2.mp e)))))
      rfl (pl_L_g hL (by omega)) (by omega) (by omega)⟩
theorem pl_yB1 {post : Int32 → SY → Prop} {s g i l : Nat} (hgl : g < 256) (hs : s < 256) (hc : c ≤ 7) (hi : i < c) (hl1 : 1 ≤ l) (hl8 : l ≤ 8) (hn : ∀ i, dn i < 256) (hg : ∀ i, dg i < 256) (hl : ∀ i, dl i < 256)
    (h1 : ∀ had, (∃ m, pl_D dn dg dl c s i m ∧ ∃ x, x < 256 ∧ x &&& g = g ∧ pl_R (pl_T dn dg dl c) (fun y => y = pl_af dg dl c m s) (l - 1) x) → post 1 (nI c, nI s, pl_N dn, pl_N dg, pl_N dl, had))
    (h0 : ∀ had, ¬ (∃ m, pl_D dn dg dl c s i m ∧ ∃ x, x < 256 ∧ x &&& g = g ∧ pl_R (pl_T dn dg dl c) (fun y => y = pl_af dg dl c m s) (l - 1) x) → post 0 (nI c, nI s, pl_N dn, pl_N dg, pl_N dl, had)) :
    ∀ d m had, m + d = 2 ^ c → (∀ m', m' < m → ¬ (pl_D dn dg dl c s i m' ∧ ∃ x, x < 256 ∧ x &&& g = g ∧ pl_R (pl_T dn dg dl c) (fun y => y = pl_af dg dl c m' s) (l - 1) x)) →
      wY_begins_24 post (nI g) (nI i) (nI l) (d + 1) (nI m) (nI c) (nI s) (pl_N dn) (pl_N dg) (pl_N dl) had := by
  have h7 := pl_p7 hc
  have el : nI l - 1 = nI (l - 1) := pk_sub (b := 1) hl1
  intro d
  induction d with
  | zero =>
    intro m had hm hno
    have hm : m = 2 ^ c := hm
    subst hm
    refine br_t (by rw [pl_p2 (by omega)]; exact nI_le (Nat.le_refl _) (by omega)) (h0 had ?_)
    rintro ⟨m', hD, hx⟩
    exact hno m' hD.1 ⟨hD, hx⟩
  | succ d ih =>
    intro m had hm hno
    have go : ∀ had, ¬ (pl_D dn dg dl c s i m ∧ ∃ x, x < 256 ∧ x &&& g = g ∧ pl_R (pl_T dn dg dl c) (fun y => y = pl_af dg dl c m s) (l - 1) x) →
        wY_begins_24 post (nI g) (nI i) (nI l) (d + 1) (nI (m + 1)) (nI c) (nI s) (pl_N dn) (pl_N dg) (pl_N dl) had := by
      intro had hh
      refine ih (m + 1) had (by omega) fun m' hm' => ?_
      by_cases e : m' = m
      · subst e; exact hh
      · exact hno m' (by omega)
    refine br_f (by rw [pl_p2 (by omega)]; exact nI_ge (by omega) (by omega)) (pk_eq (m / 2 ^ i % 2) 0 (fun e => br_t (by decide) (nm_r (nI_1 m) (go had fun y => absurd y.1.2.1 (by omega)))) (fun e => pl_yA rfl hs hn hl hc (by omega) (fun ok => ?_) (fun no => br_t (by decide) (nm_r (nI_1 m) (go had fun y => no y.1.2.2)))) (pl_bit (by omega) (by omega)) rfl (by omega) (by decide))
    have ha : pl_af dg dl c m s < 256 := pl_af_lt hg hs
    have hD : pl_D dn dg dl c s i m := ⟨by omega, by omega, ok⟩
    refine br_f (nI_pos (by omega)) (pl_yS ha hc hn hg hl fun had hH => ?_)
    exact pl_ySv rfl el hgl (by omega) hH (fun y => br_f (by decide) (h1 had ⟨m, hD, y⟩)) (fun y => br_t rfl (nm_r (nI_1 m) (go had fun z => y z.2)))
/-- the plan's first layer: what the class compares and what the reference looks for are one -/
theorem pl_begins {s g i l l' : Nat} (hs : s < 256) (hl1 : 1 ≤ l) (hl8 : l ≤ 8)
    (h : pl_Le (pl_R (pl_T dn dg dl c) (fun x => x = s)) (fun s => s &&& g = g) 256 l)
    (h' : pl_Le (pl_R (pl_T dn dg dl c) (fun x => ∃ m, pl_D dn dg dl c s i m ∧ x = pl_af dg dl c m s)) (fun s => s &&& g = g) 256 l') :
    l' = l - 1 ↔ ∃ m, pl_D dn dg dl c s i m ∧ ∃ x, x < 256 ∧ x &&& g = g ∧ pl_R (pl_T dn dg dl c) (fun y => y = pl_af dg dl c m s) (l - 1) x := by
  have low : l - 1 ≤ l' := by
    by_cases z : l - 1 ≤ l'
    · exact z
    · obtain ⟨x, hx, hG, hR⟩ := (h'.2 l' (by omega)).mp (Nat.le_refl l')
      have hR2 : pl_R (pl_T dn dg dl c) (fun x => x = s) (l' + 1) x := pl_R_sh (fun y hy => by
        obtain ⟨m, hD, e⟩ := hy
        exact ⟨s, hs, rfl, m, hD.1, hD.2.2, e.symm⟩) l' x hR
      have := (h.2 (l' + 1) (by omega)).mpr ⟨x, hx, hG, hR2⟩
      omega
  have key := h'.2 (l - 1) (by omega)
  constructor
  · intro e
    obtain ⟨x, hx, hG, hR⟩ := key.mp (by omega)
    obtain ⟨m, hD, hR⟩ := (pl_R_un (pl_D dn dg dl c s i) (fun m => pl_af dg dl c m s) (l - 1) x).mp hR
    exact ⟨m, hD, x, hx, hG, hR⟩
  · rintro ⟨m, hD, x, hx, hG, hR⟩
    have := key.mpr ⟨x, hx, hG, (pl_R_un (pl_D dn dg dl c s i) (fun m => pl_af dg dl c m s) (l - 1) x).mpr ⟨m, hD, hR⟩⟩
    omega
end
end
section
/-! the relation: the same actions, the same state; the scratch arrays of both sides are free -/
def i_Rel (k : Nat) (u : SX) (v : SY) : Prop := ∃ (dn dg dl : Nat → Nat) (c s : Nat) (sn sg sl sc lt had : Nat → Int32), c ≤ 7 ∧ s < 256 ∧ (∀ i, dn i < 256) ∧ (∀ i, dg i < 256) ∧ (∀ i, dl i < 256) ∧
  u = (nI c, nI s, pl_N dn, pl_N dg, pl_N dl, sn, sg, sl, sc, lt) ∧ v = (nI c, nI s, pl_N dn, pl_N dg, pl_N dl, had)
theorem i_up {k : Nat} {u : SX} {v : SY} (h : i_Rel k u v) : i_Rel (k + 4) u v := h
theorem i_vc0 : wpX_init (fun u => wpY_init (fun v => i_Rel 0 u v)) :=
  ⟨fun _ => 0, fun _ => 0, fun _ => 0, 0, 0, _, _, _, _, _, _, by decide, by decide, pl_0lt, pl_0lt, pl_0lt, rfl, rfl⟩
theorem pl_dec (p : Int32) (n : Nat) (hn : n < 2 ^ 31) : (p < 0 ∨ nI n ≤ p) ∨ ∃ j, j < n ∧ p = nI j := by
  rcases pk_ix p hn with h | h | h
  · exact Or.inl (Or.inl h)
  · exact Or.inl (Or.inr h)
  · exact Or.inr h
section
variable {dn dg dl : Nat → Nat} {c s : Nat} {sn sg sl sc lt had : Nat → Int32}
theorem pl_rel {k : Nat} (hc : c ≤ 7) (hs : s < 256) (hn : ∀ i, dn i < 256) (hg : ∀ i, dg i < 256) (hl : ∀ i, dl i < 256) :
    i_Rel k (nI c, nI s, pl_N dn, pl_N dg, pl_N dl, sn, sg, sl, sc, lt) (nI c, nI s, pl_N dn, pl_N dg, pl_N dl, had) :=
  ⟨dn, dg, dl, c, s, sn, sg, sl, sc, lt, had, hc, hs, hn, hg, hl, rfl, rfl⟩
/-- drop's shift, on both sides at once -/
theorem pl_drop {e : Nat} (he : e < 7) {s0 : Int32} {sn sg sl sc lt had : Nat → Int32} : ∀ d j (dn dg dl : Nat → Nat), j + d = e → (∀ i, dn i < 256) → (∀ i, dg i < 256) → (∀ i, dl i < 256) →
    ∃ dn' dg' dl' : Nat → Nat, (∀ i, dn' i < 256) ∧ (∀ i, dg' i < 256) ∧ (∀ i, dl' i < 256) ∧
      (∀ post : Int32 → SX → Prop, post (nI e) (nI e, s0, pl_N dn', pl_N dg', pl_N dl', sn, sg, sl, sc, lt) → wX_drop_12 post (nI (e + 1)) s0 (d + 1) (nI j) (pl_N dn) (pl_N dg) (pl_N dl) sn sg sl sc lt) ∧
      (∀ post : Int32 → SY → Prop, post (nI e) (nI e, s0, pl_N dn', pl_N dg', pl_N dl', had) → wY_drop_22 post (nI e) s0 (d + 1) (nI j) (pl_N dn) (pl_N dg) (pl_N dl) had) := by
  intro d
  induction d with
  | zero =>
    intro j dn dg dl hj hn hg hl
    obtain rfl : j = e := hj
    refine ⟨dn, dg, dl, hn, hg, hl, fun post hp => ?_, fun post hp => ?_⟩
    · exact br_t (by rw [nI_pred]; exact nI_le (Nat.le_refl _) (by omega)) (nm_r (nI_pred j) hp)
    · exact br_t (nI_le (Nat.le_refl _) (by omega)) hp
  | succ d ih =>
    intro j dn dg dl hj hn hg hl
    have vj := vp_in_nI (show j < 7 by omega) (by decide : 7 < 2 ^ 31)
    have vj1 : vp_in (nI j + 1) 7 := by rw [nI_1]; exact vp_in_nI (show j + 1 < 7 by omega) (by decide)
    have st : ∀ f : Nat → Nat, upd (pl_N f) (nI j).toNatClampNeg (pl_N f (nI j + 1).toNatClampNeg) = pl_N (pl_S f j (f (j + 1))) := by
      intro f
      rw [nI_1, pl_Ng f (by omega), pl_Nu f (by omega)]
    obtain ⟨dn', dg', dl', hn', hg', hl', hX, hY⟩ := ih (j + 1) (pl_S dn j (dn (j + 1))) (pl_S dg j (dg (j + 1))) (pl_S dl j (dl (j + 1))) (by omega) (pl_Slt hn (hn _)) (pl_Slt hg (hg _)) (pl_Slt hl (hl _))
    refine ⟨dn', dg', dl', hn', hg', hl', fun post hp => ?_, fun post hp => ?_⟩
    · exact br_f (by rw [nI_pred]; exact nI_ge (by omega) (by omega)) ⟨vj1, vj, nm_r (st dn) ⟨vj1, vj, nm_r (st dg) ⟨vj1, vj, nm_r (st dl) (nm_r (nI_1 j) (hX post hp))⟩⟩⟩
    · exact br_f (nI_ge (by omega) (by omega)) ⟨vj1, vj, nm_r (st dn) ⟨vj1, vj, nm_r (st dg) ⟨vj1, vj, nm_r (st dl) (nm_r (nI_1 j) (hY post hp))⟩⟩⟩
end
end
section
/-! what is owed, a method each -/
theorem i_vc_action {k : Nat} {u : SX} {v : SY} (I : i_Rel k u v) (hk : k + 4 ≤ 2048) (v1 : Int32) (v2 : Int32) (v3 : Int32) : wpX_action (fun r u' => wpY_action (fun r' v' => r' = r ∧ i_Rel (k + 4) u' v') v v1 v2 v3) u v1 v2 v3 := by
  obtain ⟨dn, dg, dl, c, s, sn, sg, sl, sc, lt, had, hc, hs, hn, hg, hl, rfl, rfl⟩ := I
  by_cases h7 : c = 7
  · subst h7
    exact br_f (nI_nlt (a := 7) (b := 7) (by decide) (by decide)) (br_t rfl ⟨rfl, pl_rel hc hs hn hg hl⟩)
  · have n7 : ¬ nI c = 7 := fun z => h7 ((nI_eq (b := 7) (by omega) (by decide)).mp z)
    have vc := vp_in_nI (show c < 7 by omega) (by decide : 7 < 2 ^ 31)
    refine br_t (nI_lt (b := 7) (by omega) (by decide)) ?_
    rcases pl_dec v1 256 (by decide) with h | ⟨g1, h1, rfl⟩
    · exact pl_xFS_no h (br_t rfl (br_f n7 (pl_yIS_no h (br_t rfl ⟨rfl, pl_rel hc hs hn hg hl⟩))))
    refine pl_xFS_ok h1 (br_f (by decide) ?_)
    rcases pl_dec v2 256 (by decide) with h | ⟨g2, h2, rfl⟩
    · exact pl_xFS_no h (br_t rfl (br_f n7 (pl_yIS_ok h1 (br_f (by decide) (pl_yIS_no h (br_t rfl ⟨rfl, pl_rel hc hs hn hg hl⟩))))))
    refine pl_xFS_ok h2 (br_f (by decide) ?_)
    rcases pl_dec v3 256 (by decide) with h | ⟨g3, h3, rfl⟩
    · exact pl_xFS_no h (br_t rfl (br_f n7 (pl_yIS_ok h1 (br_f (by decide) (pl_yIS_ok h2 (br_f (by decide) (pl_yIS_no h (br_t rfl ⟨rfl, pl_rel hc hs hn hg hl⟩))))))))
    refine pl_xFS_ok h3 (br_f (by decide) ⟨vc, nm_r (pl_Nu dn (by omega)) ⟨vc, nm_r (pl_Nu dg (by omega)) ⟨vc, nm_r (pl_Nu dl (by omega)) (nm_r (nI_1 c) ?_)⟩⟩⟩)
    exact br_f n7 (pl_yIS_ok h1 (br_f (by decide) (pl_yIS_ok h2 (br_f (by decide) (pl_yIS_ok h3 (br_f (by decide) ⟨vc, nm_r (pl_Nu dn (by omega)) ⟨vc, nm_r (pl_Nu dg (by omega)) ⟨vc, nm_r (pl_Nu dl (by omega)) (nm_r (nI_1 c) ⟨rfl, pl_rel (by omega) hs (pl_Slt hn h1) (pl_Slt hg h2) (pl_Slt hl h3)⟩)⟩⟩⟩))))))
theorem i_vc_drop {k : Nat} {u : SX} {v : SY} (I : i_Rel k u v) (hk : k + 4 ≤ 2048) (v1 : Int32) : wpX_drop (fun r u' => wpY_drop (fun r' v' => r' = r ∧ i_Rel (k + 4) u' v') v v1) u v1 := by
  obtain ⟨dn, dg, dl, c, s, sn, sg, sl, sc, lt, had, hc, hs, hn, hg, hl, rfl, rfl⟩ := I
  unfold wpX_drop wpY_drop
  rcases pl_dec v1 c (by omega) with h | ⟨i, hi, rfl⟩
  · exact pl_xIA_no h (br_t rfl (pl_yIA_no h (br_t rfl ⟨rfl, pl_rel hc hs hn hg hl⟩)))
  · obtain ⟨e, rfl⟩ : ∃ e, c = e + 1 := ⟨c - 1, by omega⟩
    obtain ⟨dn', dg', dl', hn', hg', hl', hX, hY⟩ := pl_drop (e := e) (by omega) (s0 := nI s) (sn := sn) (sg := sg) (sl := sl) (sc := sc) (lt := lt) (had := had) (e - i) i dn dg dl (by omega) hn hg hl
    exact pl_xIA_ok hc hi (br_f (by decide) ⟨_, hX _ (pl_yIA_ok hc hi (br_f (by decide) (nm_r (nI_pred e) ⟨_, hY _ ⟨rfl, pl_rel (by omega) hs hn' hg' hl'⟩⟩)))⟩)
theorem i_vc_start {k : Nat} {u : SX} {v : SY} (I : i_Rel k u v) (hk : k + 4 ≤ 2048) (v1 : Int32) : wpX_start (fun r u' => wpY_start (fun r' v' => r' = r ∧ i_Rel (k + 4) u' v') v v1) u v1 := by
  obtain ⟨dn, dg, dl, c, s, sn, sg, sl, sc, lt, had, hc, hs, hn, hg, hl, rfl, rfl⟩ := I
  unfold wpX_start wpY_start
  rcases pl_dec v1 256 (by decide) with h | ⟨g, h1, rfl⟩
  · exact pl_xFS_no h (br_t rfl (pl_yIS_no h (br_t rfl ⟨rfl, pl_rel hc hs hn hg hl⟩)))
  · exact pl_xFS_ok h1 (br_f (by decide) (pl_yIS_ok h1 (br_f (by decide) ⟨rfl, pl_rel hc h1 hn hg hl⟩)))
theorem i_vc_clash {k : Nat} {u : SX} {v : SY} (I : i_Rel k u v) (hk : k + 4 ≤ 2048) (v1 : Int32) (v2 : Int32) : wpX_clash (fun r => wpY_clash (fun r' => r' = r ∧ i_Rel (k + 4) u v) v v1 v2) u v1 v2 := by
  obtain ⟨dn, dg, dl, c, s, sn, sg, sl, sc, lt, had, hc, hs, hn, hg, hl, rfl, rfl⟩ := I
  have J : i_Rel (k + 4) (nI c, nI s, pl_N dn, pl_N dg, pl_N dl, sn, sg, sl, sc, lt) (nI c, nI s, pl_N dn, pl_N dg, pl_N dl, had) := pl_rel hc hs hn hg hl
  unfold wpX_clash
  rcases pl_dec v1 c (by omega) with h | ⟨i, hi, rfl⟩
  · refine pl_xIA_no h (br_t rfl ?_)
    unfold wpY_clash
    exact pl_yIA_no h (br_t rfl ⟨rfl, J⟩)
  refine pl_xIA_ok hc hi (br_f (by decide) ?_)
  rcases pl_dec v2 c (by omega) with h | ⟨j, hj, rfl⟩
  · refine pl_xIA_no h (br_t rfl ?_)
    unfold wpY_clash
    exact pl_yIA_ok hc hi (br_f (by decide) (pl_yIA_no h (br_t rfl ⟨rfl, J⟩)))
  refine pl_xIA_ok hc hj (br_f (by decide) ?_)
  by_cases e : i = j
  · subst e
    refine br_t rfl ?_
    unfold wpY_clash
    exact pl_yIA_ok hc hi (br_f (by decide) (pl_yIA_ok hc hi (br_f (by decide) (br_t rfl ⟨rfl, J⟩))))
  · refine br_f (fun z => e ((nI_eq (by omega) (by omega)).mp z)) (pl_xES hl (by omega) (by omega) (fun z => br_f (by decide) ?_) (fun z => br_t rfl ?_))
    · exact pl_yC hl hc hi hj e (fun _ => ⟨rfl, J⟩) (fun y => absurd z y)
    · exact pl_yC hl hc hi hj e (fun y => absurd y z) (fun _ => ⟨rfl, J⟩)
theorem i_vc_fewest {k : Nat} {u : SX} {v : SY} (I : i_Rel k u v) (hk : k + 4 ≤ 2048) (v1 : Int32) : wpX_fewest (fun r u' => wpY_fewest (fun r' v' => r' = r ∧ i_Rel (k + 4) u' v') v v1) u v1 := by
  obtain ⟨dn, dg, dl, c, s, sn, sg, sl, sc, lt, had, hc, hs, hn, hg, hl, rfl, rfl⟩ := I
  unfold wpX_fewest
  rcases pl_dec v1 256 (by decide) with h | ⟨g, h1, rfl⟩
  · exact pl_xFS_no h (br_t rfl (pl_yF_no h ⟨rfl, pl_rel hc hs hn hg hl⟩))
  refine pl_xFS_ok h1 (br_f (by decide) ?_)
  refine pl_xMS hc hs hn hg hl fun sn sg sl sc lt v hJ hL hM => ?_
  refine pl_xLL h1 hL hM fun l hl' => ?_
  have h9 := hl'.1
  refine pk_eq l 9 (fun e => ?_) (fun e => ?_) rfl rfl (by omega) (by decide)
  · refine pl_yF h1 hs hc hn hg hl (fun had _ => ⟨rfl, pl_rel hc hs hn hg hl⟩) (fun had k hk y z => ?_)
    exact absurd (pl_Le_first hl' hk y z) (by omega)
  · refine pl_yF h1 hs hc hn hg hl (fun had z => absurd (pl_Le_none hl' z) e) (fun had k hk y z => ?_)
    rw [pl_Le_first hl' hk y z]
    exact ⟨rfl, pl_rel hc hs hn hg hl⟩
theorem i_vc_within {k : Nat} {u : SX} {v : SY} (I : i_Rel k u v) (hk : k + 4 ≤ 2048) (v1 : Int32) : wpX_within (fun r u' => wpY_within (fun r' v' => r' = r ∧ i_Rel (k + 4) u' v') v v1) u v1 := by
  obtain ⟨dn, dg, dl, c, s, sn, sg, sl, sc, lt, had, hc, hs, hn, hg, hl, rfl, rfl⟩ := I
  unfold wpX_within
  rcases pl_dec v1 9 (by decide) with h | ⟨n, h1, rfl⟩
  · refine pl_xLC_no h (br_t rfl ?_)
    by_cases h0 : v1 < 0
    · exact br_t h0 ⟨rfl, pl_rel hc hs hn hg hl⟩
    · have h9 : (8 : Int32) < v1 := pl_gt (a := 8) (by decide) (h.resolve_left h0)
      exact br_f h0 (br_f (fun z => absurd h9 (Int32.not_lt.mpr z)) ⟨rfl, pl_rel hc hs hn hg hl⟩)
  refine pl_xLC_ok h1 (br_f (by decide) ?_)
  refine pl_xMS hc hs hn hg hl fun sn sg sl sc lt v hJ hL hM => ?_
  refine ⟨257, pl_xW1 (show n ≤ 8 by omega) hL hM (fun w hw => ?_) 256 0 0 rfl (pl_w_0 (f := fun j => j))⟩
  refine br_f (nI_pos (by omega)) (br_t (nI_le (b := 8) (by omega) (by decide)) (pl_yS hs hc hn hg hl fun had hH => ?_))
  refine ⟨256 * (n + 1) + 1, pl_yW1 (show n ≤ 8 by omega) hH (fun w' hw' => ?_) (256 * (n + 1)) 0 0 (Nat.zero_add _) (pl_w_0 (f := fun j => j % 256))⟩
  rw [pl_w_eq (fun s hs => pl_T_rf hs) hw hw']
  exact ⟨rfl, pl_rel hc hs hn hg hl⟩
theorem i_vc_together {k : Nat} {u : SX} {v : SY} (I : i_Rel k u v) (hk : k + 4 ≤ 2048) (v1 : Int32) (v2 : Int32) (v3 : Int32) : wpX_together (fun r u' => wpY_together (fun r' v' => r' = r ∧ i_Rel (k + 4) u' v') v v1 v2 v3) u v1 v2 v3 := by
  obtain ⟨dn, dg, dl, c, s, sn, sg, sl, sc, lt, had, hc, hs, hn, hg, hl, rfl, rfl⟩ := I
  have J : i_Rel (k + 4) (nI c, nI s, pl_N dn, pl_N dg, pl_N dl, sn, sg, sl, sc, lt) (nI c, nI s, pl_N dn, pl_N dg, pl_N dl, had) := pl_rel hc hs hn hg hl
  unfold wpX_together
  rcases pl_dec v1 8 (by decide) with h | ⟨f, hf, rfl⟩
  · refine pl_xIF_no h (br_t rfl ?_)
    by_cases h0 : v1 < 0
    · exact br_t h0 ⟨rfl, J⟩
    · exact br_f h0 (br_t (pl_gt (a := 7) (by decide) (h.resolve_left h0)) ⟨rfl, J⟩)
  have f0 : ¬ nI f < 0 := nI_pos (by omega)
  have f7 : ¬ (7 : Int32) < nI f := nI_nlt (a := 7) (by omega) (by decide)
  refine pl_xIF_ok hf (br_f (by decide) ?_)
  rcases pl_dec v2 8 (by decide) with h | ⟨f', hf', rfl⟩
  · refine pl_xIF_no h (br_t rfl (br_f f0 (br_f f7 ?_)))
    by_cases h0 : v2 < 0
    · exact br_t h0 ⟨rfl, J⟩
    · exact br_f h0 (br_t (pl_gt (a := 7) (by decide) (h.resolve_left h0)) ⟨rfl, J⟩)
  have f0' : ¬ nI f' < 0 := nI_pos (by omega)
  have f7' : ¬ (7 : Int32) < nI f' := nI_nlt (a := 7) (by omega) (by decide)
  refine pl_xIF_ok hf' (br_f (by decide) ?_)
  rcases pl_dec v3 9 (by decide) with h | ⟨n, h1, rfl⟩
  · refine pl_xLC_no h (br_t rfl (br_f f0 (br_f f7 (br_f f0' (br_f f7' ?_)))))
    by_cases h0 : v3 < 0
    · exact br_t h0 ⟨rfl, J⟩
    · have h9 : (8 : Int32) < v3 := pl_gt (a := 8) (by decide) (h.resolve_left h0)
      exact br_f h0 (br_f (fun z => absurd h9 (Int32.not_lt.mpr z)) ⟨rfl, J⟩)
  refine pl_xLC_ok h1 (br_f (by decide) ?_)
  refine pl_xMS hc hs hn hg hl fun sn sg sl sc lt v hJ hL hM => ?_
  have eb : ((1 : Int32) <<< (nI f &&& 31)) ||| ((1 : Int32) <<< (nI f' &&& 31)) = nI (2 ^ f ||| 2 ^ f') := by rw [pl_p2 (by omega), pl_p2 (by omega), pl_or]
  have hb : 2 ^ f ||| 2 ^ f' < 256 := Nat.or_lt_two_pow (n := 8) (Nat.pow_lt_pow_right (by decide) hf) (Nat.pow_lt_pow_right (by decide) hf')
  refine nm_r eb (pl_xLL hb hL hM fun l hl' => ?_)
  have h9 := hl'.1
  have key := hl'.2 n (by omega)
  refine pk_lt n l (fun e => ?_) (fun e => ?_) rfl rfl (by omega) (by omega)
  · refine br_f f0 (br_f f7 (br_f f0' (br_f f7' (br_f (nI_pos (by omega)) (br_t (nI_le (b := 8) (by omega) (by decide)) (pl_yS hs hc hn hg hl fun had hH => ?_))))))
    exact pl_ySv eb rfl hb (by omega) hH (fun y => absurd (key.mpr y) (by omega)) (fun y => ⟨pl_fit0, rfl, pl_rel hc hs hn hg hl⟩)
  · refine br_f f0 (br_f f7 (br_f f0' (br_f f7' (br_f (nI_pos (by omega)) (br_t (nI_le (b := 8) (by omega) (by decide)) (pl_yS hs hc hn hg hl fun had hH => ?_))))))
    exact pl_ySv eb rfl hb (by omega) hH (fun y => ⟨pl_fit1, rfl, pl_rel hc hs hn hg hl⟩) (fun y => absurd (key.mp e) y)
theorem i_vc_begins {k : Nat} {u : SX} {v : SY} (I : i_Rel k u v) (hk : k + 4 ≤ 2048) (v1 : Int32) (v2 : Int32) : wpX_begins (fun r u' => wpY_begins (fun r' v' => r' = r ∧ i_Rel (k + 4) u' v') v v1 v2) u v1 v2 := by
  obtain ⟨dn, dg, dl, c, s, sn, sg, sl, sc, lt, had, hc, hs, hn, hg, hl, rfl, rfl⟩ := I
  unfold wpX_begins
  rcases pl_dec v1 256 (by decide) with h | ⟨g, h1, rfl⟩
  · refine pl_xFS_no h (br_t rfl ?_)
    unfold wpY_begins
    exact pl_yF_no h (br_t (by decide) ⟨rfl, pl_rel hc hs hn hg hl⟩)
  refine pl_xFS_ok h1 (br_f (by decide) ?_)
  rcases pl_dec v2 c (by omega) with h | ⟨i, hi, rfl⟩
  · refine pl_xIA_no h (br_t rfl ?_)
    unfold wpY_begins
    refine pl_yF h1 hs hc hn hg hl (fun had _ => br_t (by decide) ⟨rfl, pl_rel hc hs hn hg hl⟩) (fun had n _ _ _ => ?_)
    exact br_c (fun _ => ⟨rfl, pl_rel hc hs hn hg hl⟩) (fun _ => pl_yIA_no h (br_t rfl ⟨rfl, pl_rel hc hs hn hg hl⟩))
  refine pl_xIA_ok hc hi (br_f (by decide) ?_)
  refine pl_xMS hc hs hn hg hl fun sn sg sl sc lt v hJ hL hM => ?_
  refine pl_xLL h1 hL hM fun l hl' => ?_
  have h9 := hl'.1
  refine pk_eq l 0 (fun e => ?_) (fun e => ?_) rfl rfl (by omega) (by decide)
  · unfold wpY_begins
    refine pl_yF h1 hs hc hn hg hl (fun had _ => br_t (by decide) ⟨rfl, pl_rel hc hs hn hg hl⟩) (fun had n hn8 y z => ?_)
    have en := pl_Le_first hl' hn8 y z
    exact br_t (nI_lt (b := 1) (by omega) (by decide)) ⟨rfl, pl_rel hc hs hn hg hl⟩
  refine pk_eq l 9 (fun e9 => ?_) (fun e9 => ?_) rfl rfl (by omega) (by decide)
  · unfold wpY_begins
    refine pl_yF h1 hs hc hn hg hl (fun had _ => br_t (by decide) ⟨rfl, pl_rel hc hs hn hg hl⟩) (fun had n hn8 y z => ?_)
    exact absurd (pl_Le_first hl' hn8 y z) (by omega)
  refine pl_xMA hc hs hi hn hg hJ fun lt v hL hM => ?_
  refine pl_xLL h1 hL hM fun l' hl2 => ?_
  have h9' := hl2.1
  have key := pl_begins hs (by omega) (by omega) hl' hl2
  have el : nI l - 1 = nI (l - 1) := pk_sub (b := 1) (by omega)
  refine pk_eq l' (l - 1) (fun q => ?_) (fun q => ?_) rfl el (by omega) (by omega)
  · unfold wpY_begins
    refine pl_yF h1 hs hc hn hg hl (fun had z => absurd (pl_Le_none hl' z) e9) (fun had n hn8 y z => ?_)
    rw [← pl_Le_first hl' hn8 y z]
    refine br_f (nI_nlt (b := 1) (by omega) (by omega)) (pl_yIA_ok hc hi (br_f (by decide) ⟨2 ^ c + 1, ?_⟩))
    exact pl_yB1 h1 hs hc hi (by omega) (by omega) hn hg hl (fun had _ => ⟨rfl, pl_rel hc hs hn hg hl⟩) (fun had no => absurd (key.mp q) no) (2 ^ c) 0 had (Nat.zero_add _) fun m' h => absurd h (Nat.not_lt_zero m')
  · unfold wpY_begins
    refine pl_yF h1 hs hc hn hg hl (fun had z => absurd (pl_Le_none hl' z) e9) (fun had n hn8 y z => ?_)
    rw [← pl_Le_first hl' hn8 y z]
    refine br_f (nI_nlt (b := 1) (by omega) (by omega)) (pl_yIA_ok hc hi (br_f (by decide) ⟨2 ^ c + 1, ?_⟩))
    exact pl_yB1 h1 hs hc hi (by omega) (by omega) hn hg hl (fun had y => absurd (key.mpr y) q) (fun had no => ⟨rfl, pl_rel hc hs hn hg hl⟩) (2 ^ c) 0 had (Nat.zero_add _) fun m' h => absurd h (Nat.not_lt_zero m')
theorem i_vc_advance {k : Nat} {u : SX} {v : SY} (I : i_Rel k u v) (hk : k + 4 ≤ 2048) (v1 : Int32) : wpX_advance (fun r u' => wpY_advance (fun r' v' => r' = r ∧ i_Rel (k + 4) u' v') v v1) u v1 := by
  obtain ⟨dn, dg, dl, c, s, sn, sg, sl, sc, lt, had, hc, hs, hn, hg, hl, rfl, rfl⟩ := I
  have h7 := pl_p7 hc
  have e2 : (1 : Int32) <<< (nI c &&& 31) = nI (2 ^ c) := pl_p2 (by omega)
  rcases pl_dec v1 (2 ^ c) (by omega) with h | ⟨m, hm, rfl⟩
  · by_cases h0 : v1 < 0
    · exact br_t h0 (br_t h0 ⟨rfl, pl_rel hc hs hn hg hl⟩)
    · have hno : ¬ v1 < (1 : Int32) <<< (nI c &&& 31) := by rw [e2]; exact Int32.not_lt.mpr (h.resolve_left h0)
      exact br_f h0 (br_f hno (br_f h0 (br_f hno ⟨rfl, pl_rel hc hs hn hg hl⟩)))
  · have h0 : ¬ nI m < 0 := nI_pos (by omega)
    have hy : nI m < (1 : Int32) <<< (nI c &&& 31) := by rw [e2]; exact nI_lt hm (by omega)
    refine br_f h0 (br_t hy (pl_xJS hl hc fun sn sg sl sc hJ => ?_))
    refine pl_xCB hc hn hs hm hJ (fun ok => br_f (by decide) (pl_xSA hc hm hJ ?_)) (fun no => br_t rfl ?_)
    · have ha : pl_af dg dl c m s < 256 := pl_af_lt hg hs
      exact br_f h0 (br_t hy (pl_yA rfl hs hn hl hc hm (fun _ => br_t (nI_pos' (by omega)) ⟨rfl, pl_rel hc ha hn hg hl⟩) (fun no => absurd ok no)))
    · exact br_f h0 (br_t hy (pl_yA rfl hs hn hl hc hm (fun ok => absurd ok no) (fun _ => br_f (by decide) ⟨rfl, pl_rel hc hs hn hg hl⟩)))
theorem i_vc_state {k : Nat} {u : SX} {v : SY} (I : i_Rel k u v) (hk : k + 4 ≤ 2048) : wpX_state (fun r => wpY_state (fun r' => r' = r ∧ i_Rel (k + 4) u v) v) u := by
  obtain ⟨dn, dg, dl, c, s, sn, sg, sl, sc, lt, had, hc, hs, hn, hg, hl, rfl, rfl⟩ := I
  exact ⟨rfl, pl_rel hc hs hn hg hl⟩
end
