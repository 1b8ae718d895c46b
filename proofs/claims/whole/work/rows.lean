section
/-! rows pasted from the kit's rows (PURE-ROWS, BITS) -/
theorem pk_us {f : Nat → Int32} {k : Nat} {x : Int32} : upd f k x k = x := if_pos rfl
theorem pk_un {f : Nat → Int32} {k j : Nat} {x : Int32} (h : j ≠ k) : upd f k x j = f j := if_neg h
theorem pk_sub {a b : Nat} (h : b ≤ a) : nI a - nI b = nI (a - b) := by
  obtain ⟨c, rfl⟩ : ∃ c, a = c + b := ⟨a - b, by omega⟩
  rw [← nI_add, Int32.add_sub_cancel, Nat.add_sub_cancel]
theorem pk_mul (a b : Nat) : nI a * nI b = nI (a * b) := (Int32.ofNat_mul a b).symm
theorem pk_div {a d : Nat} (ha : a < 2 ^ 31) (h0 : 0 < d) (hd : d < 2 ^ 31) : nI a / nI d = nI (a / d) := by
  apply Int32.toInt_inj.mp
  rw [lg_idiv_nonneg (by rw [nI_toInt ha]; omega) (by rw [nI_toInt hd]; omega), nI_toInt ha, nI_toInt hd, nI_toInt (Nat.lt_of_le_of_lt (Nat.div_le_self a d) ha)]
  first | rfl | exact (Int.natCast_ediv _ _).symm
theorem pk_rem {a d : Nat} (ha : a < 2 ^ 31) (h0 : 0 < d) (hd : d < 2 ^ 31) : nI a - nI a / nI d * nI d = nI (a % d) := by
  rw [pk_div ha h0 hd, pk_mul, pk_sub (Nat.div_mul_le_self a d)]
  exact congrArg nI (by have := Nat.div_add_mod' a d; omega)
theorem pk_ix (x : Int32) {n : Nat} (hn : n < 2 ^ 31) : x < 0 ∨ nI n ≤ x ∨ ∃ j : Nat, j < n ∧ x = nI j := by
  by_cases h : x < 0
  · exact Or.inl h
  · obtain ⟨j, hj, rfl⟩ := nI_of h
    by_cases h2 : j < n
    · exact Or.inr (Or.inr ⟨j, h2, rfl⟩)
    · exact Or.inr (Or.inl (nI_le (by omega) hj))
theorem pk_le {x y : Int32} {A B : Prop} (a b : Nat) (f : a ≤ b → A) (g : b < a → B) (hx : x = nI a := by rfl) (hy : y = nI b := by rfl) (ha : a < 2 ^ 31 := by omega) (hb : b < 2 ^ 31 := by omega) : (x ≤ y → A) ∧ (¬ x ≤ y → B) := by
  subst hx hy
  rw [nI_leI ha hb]
  exact ⟨f, fun z => g (by omega)⟩
theorem pk_lt {x y : Int32} {A B : Prop} (a b : Nat) (f : a < b → A) (g : b ≤ a → B) (hx : x = nI a := by rfl) (hy : y = nI b := by rfl) (ha : a < 2 ^ 31 := by omega) (hb : b < 2 ^ 31 := by omega) : (x < y → A) ∧ (¬ x < y → B) := by
  subst hx hy
  rw [nI_ltI ha hb]
  exact ⟨f, fun z => g (by omega)⟩
theorem pk_eq {x y : Int32} {A B : Prop} (a b : Nat) (f : a = b → A) (g : a ≠ b → B) (hx : x = nI a := by rfl) (hy : y = nI b := by rfl) (ha : a < 2 ^ 31 := by omega) (hb : b < 2 ^ 31 := by omega) : (x = y → A) ∧ (¬ x = y → B) := by
  subst hx hy
  rw [nI_eq ha hb]
  exact ⟨f, g⟩
theorem pk_in {x : Int32} (n N : Nat) (h : n < N) (hx : x = nI n := by rfl) (hN : N < 2 ^ 31 := by omega) : vp_in x N := by
  subst hx
  exact vp_in_nI h hN
theorem pk_cl {x : Int32} (n : Nat) (hx : x = nI n := by rfl) (h : n < 2 ^ 31 := by omega) : x.toNatClampNeg = n := by
  subst hx
  exact nI_clamp h
theorem pk_tn {n : Nat} (h : n < 2 ^ 32) : (nI n).toBitVec.toNat = n := Nat.mod_eq_of_lt h
theorem pk_and (x : Int32) {m : Int32} (k : Nat) (hm : m.toBitVec.toNat = 2 ^ k - 1) : x &&& m = nI (x.toBitVec.toNat % 2 ^ k) := by
  apply Int32.toBitVec_inj.mp
  apply BitVec.eq_of_toNat_eq
  rw [Int32.toBitVec_and, BitVec.toNat_and, hm, Nat.and_two_pow_sub_one_eq_mod]
  show _ = (BitVec.ofNat 32 _).toNat
  rw [BitVec.toNat_ofNat]
  exact (Nat.mod_eq_of_lt (Nat.lt_of_le_of_lt (Nat.mod_le _ _) x.toBitVec.isLt)).symm
theorem pk_andN {n : Nat} (h : n < 2 ^ 32) {m : Int32} (k : Nat) (hm : m.toBitVec.toNat = 2 ^ k - 1) : nI n &&& m = nI (n % 2 ^ k) := by
  rw [pk_and _ k hm, pk_tn h]
theorem pk_shl (a s : Int32) (k : Nat) (hs : (s.toBitVec.smod 32).toNat = k) : (a <<< s).toBitVec.toNat = a.toBitVec.toNat * 2 ^ k % 2 ^ 32 := by
  show (a.toBitVec <<< (s.toBitVec.smod 32).toNat).toNat = _
  rw [hs, BitVec.toNat_shiftLeft, Nat.shiftLeft_eq]
theorem pk_shlN {n : Nat} (s : Int32) (k : Nat) (hs : (s.toBitVec.smod 32).toNat = k) (h : n * 2 ^ k < 2 ^ 32) : nI n <<< s = nI (n * 2 ^ k) := by
  apply Int32.toBitVec_inj.mp
  apply BitVec.eq_of_toNat_eq
  have hn : n < 2 ^ 32 := Nat.lt_of_le_of_lt (Nat.le_mul_of_pos_right n (Nat.two_pow_pos k)) h
  rw [pk_shl _ _ k hs, pk_tn hn, pk_tn h, Nat.mod_eq_of_lt h]
theorem pk_shr (a s : Int32) (k : Nat) (hs : (s.toBitVec.smod 32).toNat = k) : (a >>> s).toInt = a.toInt >>> k := by
  show (a.toBitVec.sshiftRight (s.toBitVec.smod 32).toNat).toInt = _
  rw [hs, BitVec.toInt_sshiftRight]
  rfl
theorem pk_shrN {n : Nat} (h : n < 2 ^ 31) (s : Int32) (k : Nat) (hs : (s.toBitVec.smod 32).toNat = k) : nI n >>> s = nI (n / 2 ^ k) := by
  apply Int32.toInt_inj.mp
  have h2 : n / 2 ^ k ≤ n := Nat.div_le_self _ _
  rw [pk_shr _ _ k hs, nI_toInt h, nI_toInt (by omega), Int.shiftRight_eq_div_pow]
  rfl
theorem s_l : ∀ n, n < 32 → ((nI n &&& 31).toBitVec.smod 32).toNat = n := by decide +kernel
theorem nx_and (a b : Nat) : nI a &&& nI b = nI (a &&& b) := by
  apply Int32.toBitVec_inj.1
  show BitVec.ofNat 32 a &&& BitVec.ofNat 32 b = BitVec.ofNat 32 (a &&& b)
  apply BitVec.eq_of_getLsbD_eq
  intro i hi
  simp [hi]
theorem nx_xor (a b : Nat) : nI a ^^^ nI b = nI (a ^^^ b) := by
  apply Int32.toBitVec_inj.1
  show BitVec.ofNat 32 a ^^^ BitVec.ofNat 32 b = BitVec.ofNat 32 (a ^^^ b)
  apply BitVec.eq_of_getLsbD_eq
  intro i hi
  simp [hi]
end
section
/-! The pure picture. Actions: three rows of sets below 256 (dn needs, dg gains, dl losses), c of them;
    a layer is a number m below 2^c; a state is a number below 256. -/
def pl_U (d : Nat → Nat) (m : Nat) : Nat → Nat
  | 0 => 0
  | i + 1 => if m / 2 ^ i % 2 = 1 then pl_U d m i ||| d i else pl_U d m i
def pl_cl (dn dg dl : Nat → Nat) (i j : Nat) : Prop := ¬ (dl i &&& (dn j ||| dg j)) = 0 ∨ ¬ (dl j &&& (dn i ||| dg i)) = 0
theorem pl_cl_sy {dn dg dl : Nat → Nat} {i j : Nat} (h : pl_cl dn dg dl i j) : pl_cl dn dg dl j i := Or.symm h
/-- some two actions of m, both below i, clash -/
def pl_C (dn dg dl : Nat → Nat) (c m : Nat) : Prop := ∃ i j, i < j ∧ j < c ∧ m / 2 ^ i % 2 = 1 ∧ m / 2 ^ j % 2 = 1 ∧ pl_cl dn dg dl i j
def pl_ok (dn dg dl : Nat → Nat) (c m s : Nat) : Prop := ¬ pl_C dn dg dl c m ∧ s &&& pl_U dn m c = pl_U dn m c
def pl_af (dg dl : Nat → Nat) (c m s : Nat) : Nat := (s &&& (pl_U dl m c ^^^ 4294967295)) ||| pl_U dg m c
def pl_T (dn dg dl : Nat → Nat) (c s t : Nat) : Prop := ∃ m, m < 2 ^ c ∧ pl_ok dn dg dl c m s ∧ pl_af dg dl c m s = t
/-- what just k layers reach from a state of P -/
def pl_R (T : Nat → Nat → Prop) (P : Nat → Prop) : Nat → Nat → Prop
  | 0, s => P s
  | k + 1, s => ∃ t, t < 256 ∧ pl_R T P k t ∧ T t s
theorem pl_U_lt {d : Nat → Nat} (h : ∀ i, d i < 256) (m : Nat) : ∀ i, pl_U d m i < 256 := by
  intro i
  induction i with
  | zero => show 0 < 256; decide
  | succ i ih =>
    rw [pl_U]
    split
    · exact Nat.or_lt_two_pow (n := 8) ih (h i)
    · exact ih
theorem pl_sub {n s : Nat} (hn : n < 4294967296) : n &&& (s ^^^ 4294967295) = 0 ↔ s &&& n = n := by
  have key : ∀ i, (n &&& (s ^^^ 4294967295)).testBit i = (n.testBit i && !s.testBit i) := by
    intro i
    rw [Nat.testBit_and, Nat.testBit_xor, show (4294967295 : Nat) = 2 ^ 32 - 1 from rfl, Nat.testBit_two_pow_sub_one]
    by_cases hi : i < 32
    · cases s.testBit i <;> cases n.testBit i <;> simp [hi]
    · have z : n.testBit i = false := Nat.testBit_lt_two_pow (Nat.lt_of_lt_of_le hn (show 2 ^ 32 ≤ 2 ^ i from Nat.pow_le_pow_right (by decide) (by omega)))
      simp [z]
  constructor
  · intro h
    apply Nat.eq_of_testBit_eq
    intro i
    have k := key i
    rw [h, Nat.zero_testBit] at k
    rw [Nat.testBit_and]
    cases hs : s.testBit i <;> cases hb : n.testBit i <;> simp [hs, hb] at k ⊢
  · intro h
    apply Nat.eq_of_testBit_eq
    intro i
    rw [key i, Nat.zero_testBit]
    have k : (s &&& n).testBit i = n.testBit i := by rw [h]
    rw [Nat.testBit_and] at k
    cases hs : s.testBit i <;> cases hb : n.testBit i <;> simp [hs, hb] at k ⊢
theorem pl_and_or {s a b : Nat} : s &&& (a ||| b) = a ||| b ↔ s &&& a = a ∧ s &&& b = b := by
  constructor
  · intro h
    have k : ∀ i, (s.testBit i && (a.testBit i || b.testBit i)) = (a.testBit i || b.testBit i) := by
      intro i
      rw [← Nat.testBit_or, ← Nat.testBit_and, h]
    constructor
    · apply Nat.eq_of_testBit_eq
      intro i
      have k := k i
      rw [Nat.testBit_and]
      cases hs : s.testBit i <;> cases ha : a.testBit i <;> cases hb : b.testBit i <;> simp [hs, ha, hb] at k ⊢
    · apply Nat.eq_of_testBit_eq
      intro i
      have k := k i
      rw [Nat.testBit_and]
      cases hs : s.testBit i <;> cases ha : a.testBit i <;> cases hb : b.testBit i <;> simp [hs, ha, hb] at k ⊢
  · rintro ⟨ha, hb⟩
    rw [Nat.and_or_distrib_left, ha, hb]
theorem pl_U_sub {d : Nat → Nat} {s m : Nat} : ∀ i, s &&& pl_U d m i = pl_U d m i ↔ ∀ j, j < i → m / 2 ^ j % 2 = 1 → s &&& d j = d j := by
  intro i
  induction i with
  | zero => exact ⟨fun _ j hj => absurd hj (Nat.not_lt_zero j), fun _ => Nat.and_zero s⟩
  | succ i ih =>
    rw [pl_U]
    by_cases z : m / 2 ^ i % 2 = 1
    · rw [if_pos z, pl_and_or, ih]
      constructor
      · rintro ⟨h1, h2⟩ j hj hm
        by_cases e : j = i
        · rw [e]; exact h2
        · exact h1 j (by omega) hm
      · intro h
        exact ⟨fun j hj hm => h j (by omega) hm, h i (by omega) z⟩
    · rw [if_neg z, ih]
      constructor
      · intro h1 j hj hm
        by_cases e : j = i
        · rw [e] at hm; exact absurd hm z
        · exact h1 j (by omega) hm
      · intro h j hj hm
        exact h j (by omega) hm
theorem pl_U_0 (d : Nat → Nat) : ∀ i, pl_U d 0 i = 0 := by
  intro i
  induction i with
  | zero => rfl
  | succ i ih => rw [pl_U, if_neg (by rw [Nat.zero_div]; decide), ih]
theorem pl_af_lt {dg dl : Nat → Nat} (hg : ∀ i, dg i < 256) {c m s : Nat} (hs : s < 256) : pl_af dg dl c m s < 256 :=
  Nat.or_lt_two_pow (n := 8) (Nat.lt_of_le_of_lt Nat.and_le_left hs) (pl_U_lt hg m c)
/-- the empty layer -/
theorem pl_T_rf {dn dg dl : Nat → Nat} {c s : Nat} (hs : s < 256) : pl_T dn dg dl c s s := by
  refine ⟨0, Nat.two_pow_pos c, ⟨?_, ?_⟩, ?_⟩
  · rintro ⟨i, j, _, _, h, _⟩
    rw [Nat.zero_div] at h
    exact absurd h (by decide)
  · rw [pl_U_0]; exact Nat.and_zero s
  · unfold pl_af
    rw [pl_U_0, pl_U_0, Nat.zero_xor, Nat.or_zero, show (4294967295 : Nat) = 2 ^ 32 - 1 from rfl, Nat.and_two_pow_sub_one_eq_mod]
    exact Nat.mod_eq_of_lt (by omega)
theorem pl_T_lt {dn dg dl : Nat → Nat} (hg : ∀ i, dg i < 256) {c s t : Nat} (hs : s < 256) (h : pl_T dn dg dl c s t) : t < 256 := by
  obtain ⟨m, _, _, e⟩ := h
  rw [← e]
  exact pl_af_lt hg hs
section
variable {T : Nat → Nat → Prop} {P : Nat → Prop}
theorem pl_R_up (hT : ∀ s, s < 256 → T s s) {j s : Nat} (hs : s < 256) : ∀ d, pl_R T P j s → pl_R T P (j + d) s := by
  intro d
  induction d with
  | zero => exact id
  | succ d ih => exact fun h => ⟨s, hs, ih h, hT s hs⟩
theorem pl_R_le (hT : ∀ s, s < 256 → T s s) {j k s : Nat} (hs : s < 256) (hjk : j ≤ k) (h : pl_R T P j s) : pl_R T P k s := by
  have e := pl_R_up hT hs (k - j) h
  rwa [Nat.add_sub_cancel' hjk] at e
theorem pl_R_lt (hT : ∀ s t, s < 256 → T s t → t < 256) (hP : ∀ s, P s → s < 256) : ∀ k s, pl_R T P k s → s < 256 := by
  intro k
  cases k with
  | zero => exact hP
  | succ k => rintro s ⟨t, ht, _, h⟩; exact hT t s ht h
theorem pl_R_un {α : Type} (D : α → Prop) (g : α → Nat) : ∀ k s, pl_R T (fun s => ∃ x, D x ∧ s = g x) k s ↔ ∃ x, D x ∧ pl_R T (fun s => s = g x) k s := by
  intro k
  induction k with
  | zero => exact fun s => Iff.rfl
  | succ k ih =>
    intro s
    constructor
    · rintro ⟨t, ht, h, hst⟩
      obtain ⟨x, hx, h'⟩ := (ih t).mp h
      exact ⟨x, hx, t, ht, h', hst⟩
    · rintro ⟨x, hx, t, ht, h, hst⟩
      exact ⟨t, ht, (ih t).mpr ⟨x, hx, h⟩, hst⟩
theorem pl_R_sh {P' : Nat → Prop} (h0 : ∀ s, P' s → ∃ x, x < 256 ∧ P x ∧ T x s) : ∀ k s, pl_R T P' k s → pl_R T P (k + 1) s := by
  intro k
  induction k with
  | zero => exact fun s h => h0 s h
  | succ k ih => rintro s ⟨t, ht, h, hst⟩; exact ⟨t, ht, ih t h, hst⟩
/-- v measures, up to k layers -/
def pl_Me (R : Nat → Nat → Prop) (k : Nat) (v : Nat → Nat) : Prop := ∀ s, s < 256 → (∀ j, j ≤ k → (v s ≤ j ↔ R j s)) ∧ (v s ≤ k ∨ v s = 9)
/-- the same within the turn k of the outer loop: Q is what has been reached in it -/
def pl_Mi (R : Nat → Nat → Prop) (k : Nat) (Q : Nat → Prop) (v : Nat → Nat) : Prop := ∀ s, s < 256 → (∀ j, j ≤ k → (v s ≤ j ↔ R j s)) ∧ (v s ≤ k + 1 ↔ R k s ∨ Q s) ∧ (v s ≤ k + 1 ∨ v s = 9)
def pl_Ex (R : Nat → Nat → Prop) (k t : Nat) : Prop := R k t ∧ ∀ j, j < k → ¬ R j t
theorem pl_Mi_0 {R : Nat → Nat → Prop} {k : Nat} {v : Nat → Nat} (hk : k < 8) (h : pl_Me R k v) : pl_Mi R k (fun _ => False) v := by
  intro s hs
  obtain ⟨h1, h2⟩ := h s hs
  refine ⟨h1, ?_, by omega⟩
  have e := h1 k (Nat.le_refl k)
  constructor
  · intro h; exact Or.inl (e.mp (by omega))
  · rintro (h | h)
    · have := e.mpr h; omega
    · exact h.elim
theorem pl_Mi_q {R : Nat → Nat → Prop} {k : Nat} {Q Q' : Nat → Prop} {v : Nat → Nat} (hQ : ∀ s, s < 256 → (Q s ↔ Q' s)) (h : pl_Mi R k Q v) : pl_Mi R k Q' v := by
  intro s hs
  rw [← hQ s hs]
  exact h s hs
theorem pl_Mi_ex {R : Nat → Nat → Prop} {k : Nat} {Q : Nat → Prop} {v : Nat → Nat} (h : pl_Mi R k Q v) {s : Nat} (hs : s < 256) : v s = k ↔ pl_Ex R k s := by
  obtain ⟨h1, _, _⟩ := h s hs
  constructor
  · intro e
    refine ⟨(h1 k (Nat.le_refl k)).mp (by omega), fun j hj hR => ?_⟩
    have := (h1 j (by omega)).mpr hR
    omega
  · rintro ⟨hR, hn⟩
    have a := (h1 k (Nat.le_refl k)).mpr hR
    by_cases e : v s = k
    · exact e
    · exact absurd ((h1 (v s) a).mp (Nat.le_refl _)) (hn (v s) (by omega))
/-- a store: only where more stands there -/
theorem pl_Mi_put {R : Nat → Nat → Prop} {k : Nat} {Q : Nat → Prop} {v : Nat → Nat} (hR : ∀ j s, s < 256 → j ≤ k → R j s → R k s) (h : pl_Mi R k Q v) {a : Nat} (ha : a < 256) (hv : k + 1 < v a) :
    pl_Mi R k (fun s => Q s ∨ s = a) (fun s => if s = a then k + 1 else v s) := by
  intro s hs
  obtain ⟨h1, h2, h3⟩ := h s hs
  by_cases e : s = a
  · subst e
    dsimp only
    rw [if_pos rfl]
    refine ⟨fun j hj => ?_, ⟨fun _ => Or.inr (Or.inr rfl), fun _ => Nat.le_refl _⟩, Or.inl (Nat.le_refl _)⟩
    constructor
    · intro h; omega
    · intro h; have := (h1 j hj).mpr h; omega
  · dsimp only
    rw [if_neg e]
    refine ⟨h1, h2.trans ?_, h3⟩
    constructor
    · rintro (h | h)
      · exact Or.inl h
      · exact Or.inr (Or.inl h)
    · rintro (h | h | h)
      · exact Or.inl h
      · exact Or.inr h
      · exact absurd h e
theorem pl_Mi_skip {R : Nat → Nat → Prop} {k : Nat} {Q : Nat → Prop} {v : Nat → Nat} (h : pl_Mi R k Q v) {a : Nat} (ha : a < 256) (hv : v a ≤ k + 1) : pl_Mi R k (fun s => Q s ∨ s = a) v := by
  intro s hs
  obtain ⟨h1, h2, h3⟩ := h s hs
  refine ⟨h1, h2.trans ?_, h3⟩
  constructor
  · rintro (h | h)
    · exact Or.inl h
    · exact Or.inr (Or.inl h)
  · rintro (h' | h' | h')
    · exact Or.inl h'
    · exact Or.inr h'
    · subst h'; exact (h s hs).2.1.mp hv
theorem pl_Mi_end (hT : ∀ s, s < 256 → T s s) {k : Nat} {v : Nat → Nat} (hk : k < 8) (h : pl_Mi (pl_R T P) k (fun s => ∃ t, t < 256 ∧ pl_Ex (pl_R T P) k t ∧ T t s) v) : pl_Me (pl_R T P) (k + 1) v := by
  intro s hs
  obtain ⟨h1, h2, h3⟩ := h s hs
  refine ⟨fun j hj => ?_, h3⟩
  by_cases e : j = k + 1
  · subst e
    rw [h2]
    constructor
    · rintro (h | ⟨t, ht, hE, hst⟩)
      · exact pl_R_le hT hs (Nat.le_succ k) h
      · exact ⟨t, ht, hE.1, hst⟩
    · rintro ⟨t, ht, hR, hst⟩
      by_cases hE : pl_Ex (pl_R T P) k t
      · exact Or.inr ⟨t, ht, hE, hst⟩
      · by_cases hj : ∃ j, j < k ∧ pl_R T P j t
        · obtain ⟨j, hj, hRj⟩ := hj
          have a : pl_R T P (j + 1) s := ⟨t, ht, hRj, hst⟩
          exact Or.inl (pl_R_le hT hs hj a)
        · exact absurd ⟨hR, fun j hj' hRj => hj ⟨j, hj', hRj⟩⟩ hE
  · exact h1 j (by omega)
/-- the least number of layers, over the states below t -/
def pl_Le (R : Nat → Nat → Prop) (G : Nat → Prop) (t l : Nat) : Prop := l ≤ 9 ∧ ∀ j, j ≤ 8 → (l ≤ j ↔ ∃ s, s < t ∧ G s ∧ R j s)
theorem pl_Le_0 {R : Nat → Nat → Prop} {G : Nat → Prop} : pl_Le R G 0 9 := by
  refine ⟨Nat.le_refl 9, fun j hj => ⟨fun h => by omega, ?_⟩⟩
  rintro ⟨s, hs, _⟩
  exact absurd hs (Nat.not_lt_zero s)
theorem pl_Le_no {R : Nat → Nat → Prop} {G : Nat → Prop} {t l : Nat} (h : pl_Le R G t l) (n : ∀ j, j ≤ 8 → G t → R j t → l ≤ j) : pl_Le R G (t + 1) l := by
  refine ⟨h.1, fun j hj => (h.2 j hj).trans ⟨?_, ?_⟩⟩
  · rintro ⟨s, hs, hG, hR⟩
    exact ⟨s, by omega, hG, hR⟩
  · rintro ⟨s, hs, hG, hR⟩
    by_cases e : s = t
    · subst e; exact (h.2 j hj).mp (n j hj hG hR)
    · exact ⟨s, by omega, hG, hR⟩
theorem pl_Le_yes {R : Nat → Nat → Prop} {G : Nat → Prop} {t l : Nat} {v : Nat → Nat} (hM : pl_Me R 8 v) (h : pl_Le R G t l) (ht : t < 256) (hG : G t) (hv : v t < l) : pl_Le R G (t + 1) (v t) := by
  have h9 := h.1
  refine ⟨by omega, fun j hj => ?_⟩
  have e := (hM t ht).1 j hj
  constructor
  · intro a
    exact ⟨t, Nat.lt_succ_self t, hG, e.mp a⟩
  · rintro ⟨s, hs, hGs, hR⟩
    by_cases es : s = t
    · subst es; exact e.mpr hR
    · have := (h.2 j hj).mpr ⟨s, by omega, hGs, hR⟩
      omega
/-- what the reference's search over k finds is the least number -/
theorem pl_Le_first {R : Nat → Nat → Prop} {G : Nat → Prop} {l k : Nat} (h : pl_Le R G 256 l) (hk : k ≤ 8) (hy : ∃ s, s < 256 ∧ G s ∧ R k s) (hn : ∀ j, j < k → ¬ ∃ s, s < 256 ∧ G s ∧ R j s) : l = k := by
  have a := (h.2 k hk).mpr hy
  by_cases e : l = k
  · exact e
  · exact absurd ((h.2 l (by omega)).mp (Nat.le_refl l)) (hn l (by omega))
theorem pl_Le_none {R : Nat → Nat → Prop} {G : Nat → Prop} {l : Nat} (h : pl_Le R G 256 l) (hn : ∀ j, j < 9 → ¬ ∃ s, s < 256 ∧ G s ∧ R j s) : l = 9 := by
  by_cases e : l = 9
  · exact e
  · have := h.1
    exact absurd ((h.2 l (by omega)).mp (Nat.le_refl l)) (hn l (by omega))
end
end
section
/-! numbers: what both sides compute, in naturals -/
theorem pl_or (a b : Nat) : nI a ||| nI b = nI (a ||| b) := by
  apply Int32.toBitVec_inj.1
  show BitVec.ofNat 32 a ||| BitVec.ofNat 32 b = BitVec.ofNat 32 (a ||| b)
  apply BitVec.eq_of_getLsbD_eq
  intro i hi
  simp [hi]
theorem pl_m1 : (-1 : Int32) = nI 4294967295 := by decide +kernel
theorem pl_nt (a : Nat) : nI a ^^^ (-1) = nI (a ^^^ 4294967295) := by rw [pl_m1, nx_xor]
theorem pl_bit {m i : Nat} (hm : m < 2 ^ 31) (hi : i < 32) : ((nI m >>> (nI i &&& 31)) &&& 1) = nI (m / 2 ^ i % 2) := by
  rw [pk_shrN hm _ i (s_l i hi), pk_andN (m := 1) (Nat.lt_of_le_of_lt (Nat.div_le_self _ _) (by omega)) 1 (by decide)]
theorem pl_p2 {c : Nat} (hc : c < 31) : (1 : Int32) <<< (nI c &&& 31) = nI (2 ^ c) := by
  have h : (2 : Nat) ^ c < 2 ^ 31 := Nat.pow_lt_pow_right (by decide) hc
  have e := pk_shlN (n := 1) (nI c &&& 31) c (s_l c (by omega)) (by omega)
  rw [Nat.one_mul] at e
  exact e
theorem pl_p7 {c : Nat} (hc : c ≤ 7) : 2 ^ c ≤ 128 := Nat.pow_le_pow_right (n := 2) (by decide) hc
theorem pl_gt {p : Int32} {a : Nat} (ha : a + 1 < 2 ^ 31) (h : nI (a + 1) ≤ p) : nI a < p := by
  rw [Int32.lt_iff_toInt_lt, nI_toInt (by omega)]
  rw [Int32.le_iff_toInt_le, nI_toInt ha] at h
  omega
theorem pl_nn {p : Int32} {a : Nat} (ha : a < 2 ^ 31) (h : nI a ≤ p) : ¬ p < 0 := by
  rw [Int32.lt_iff_toInt_lt]
  rw [Int32.le_iff_toInt_le, nI_toInt ha] at h
  show ¬ p.toInt < 0
  omega
theorem pl_up {a : Nat → Int32} {k : Nat} {x : Int32} (hk : k < 2 ^ 31) : upd a (nI k).toNatClampNeg x = upd a k x := by rw [nI_clamp hk]
theorem pl_nar0 : vp_nar .boolean 0 = 0 := by show (0 : Int32) &&& 1 = 0; decide
theorem pl_nar1 : vp_nar .boolean 1 = 1 := by show (1 : Int32) &&& 1 = 1; decide
theorem pl_fit0 : narrow .boolean (.int (0 : Int32)) = .int 0 := by show Value.int ((0 : Int32) &&& 1) = .int 0; rw [show (0 : Int32) &&& 1 = 0 by decide]
theorem pl_fit1 : narrow .boolean (.int (1 : Int32)) = .int 1 := by show Value.int ((1 : Int32) &&& 1) = .int 1; rw [show (1 : Int32) &&& 1 = 1 by decide]
theorem pl_an {a b : Nat} (h : a < 256) : a &&& b < 2 ^ 31 := Nat.lt_of_le_of_lt Nat.and_le_left (by omega)
theorem pl_an' {a b : Nat} (h : b < 256) : a &&& b < 2 ^ 31 := Nat.lt_of_le_of_lt Nat.and_le_right (by omega)
/-- an array of ints whose values are these numbers -/
def pl_N (d : Nat → Nat) : Nat → Int32 := fun i => nI (d i)
theorem pl_Ng (d : Nat → Nat) {i : Nat} (hi : i < 2 ^ 31) : pl_N d (nI i).toNatClampNeg = nI (d i) := by rw [nI_clamp hi]; rfl
def pl_S (d : Nat → Nat) (k x : Nat) : Nat → Nat := fun i => if i = k then x else d i
theorem pl_Nu (d : Nat → Nat) {k x : Nat} (hk : k < 2 ^ 31) : upd (pl_N d) (nI k).toNatClampNeg (nI x) = pl_N (pl_S d k x) := by
  rw [nI_clamp hk]
  funext i
  show (if i = k then nI x else nI (d i)) = nI (if i = k then x else d i)
  split <;> rfl
theorem pl_Slt {d : Nat → Nat} (hd : ∀ i, d i < 256) {k x : Nat} (hx : x < 256) : ∀ i, pl_S d k x i < 256 := by
  intro i
  show (if i = k then x else d i) < 256
  split
  · exact hx
  · exact hd i
theorem pl_0lt : ∀ i : Nat, (fun _ => 0 : Nat → Nat) i < 256 := fun _ => by show 0 < 256; decide
theorem pl_clX {dn dg dl : Nat → Nat} {i j : Nat} (hi : i < 7) (hj : j < 7) : (pl_N dl (nI i).toNatClampNeg) &&& ((pl_N dn (nI j).toNatClampNeg) ||| (pl_N dg (nI j).toNatClampNeg)) = nI (dl i &&& (dn j ||| dg j)) := by
  rw [pl_Ng dl (by omega), pl_Ng dn (by omega), pl_Ng dg (by omega), pl_or, nx_and]
end
section
/-! the class: its small methods and the joining of the action sets -/
section
variable {dn dg dl : Nat → Nat} {c : Nat} {s0 : Int32} {aN aG aL sn sg sl sc lt : Nat → Int32}
theorem pl_xFS_no {post : Int32 → Prop} {p : Int32} (h : p < 0 ∨ nI 256 ≤ p) (hp : post 0) : wpX_isFactSet post p := by
  by_cases h0 : p < 0
  · exact br_t h0 hp
  · exact br_f h0 (br_t (h.resolve_left h0) hp)
theorem pl_xFS_ok {post : Int32 → Prop} {g : Nat} (hg : g < 256) (hp : post 1) : wpX_isFactSet post (nI g) :=
  br_f (nI_pos (by omega)) (br_f (nI_ge (b := 256) hg (by decide)) hp)
theorem pl_xLC_no {post : Int32 → Prop} {p : Int32} (h : p < 0 ∨ nI 9 ≤ p) (hp : post 0) : wpX_isLayerCount post p := by
  by_cases h0 : p < 0
  · exact br_t h0 hp
  · exact br_f h0 (br_t (pl_gt (a := 8) (by decide) (h.resolve_left h0)) hp)
theorem pl_xLC_ok {post : Int32 → Prop} {k : Nat} (hk : k < 9) (hp : post 1) : wpX_isLayerCount post (nI k) :=
  br_f (nI_pos (by omega)) (br_f (nI_nlt (a := 8) (by omega) (by decide)) hp)
theorem pl_xIF_no {post : Int32 → Prop} {p : Int32} (h : p < 0 ∨ nI 8 ≤ p) (hp : post 0) : wpX_isFact post p := by
  by_cases h0 : p < 0
  · exact br_t h0 hp
  · exact br_f h0 (br_t (h.resolve_left h0) hp)
theorem pl_xIF_ok {post : Int32 → Prop} {f : Nat} (hf : f < 8) (hp : post 1) : wpX_isFact post (nI f) :=
  br_f (nI_pos (by omega)) (br_f (nI_ge (b := 8) hf (by decide)) hp)
theorem pl_xIA_no {post : Int32 → Prop} {p : Int32} (h : p < 0 ∨ nI c ≤ p) (hp : post 0) : wpX_isAction post (nI c, s0, aN, aG, aL, sn, sg, sl, sc, lt) p := by
  by_cases h0 : p < 0
  · exact br_t h0 hp
  · exact br_f h0 (br_t (h.resolve_left h0) hp)
theorem pl_xIA_ok {post : Int32 → Prop} {i : Nat} (hc : c ≤ 7) (hi : i < c) (hp : post 1) : wpX_isAction post (nI c, s0, aN, aG, aL, sn, sg, sl, sc, lt) (nI i) :=
  br_f (nI_pos (by omega)) (br_f (nI_ge hi (by omega)) hp)
theorem pl_xES {post : Int32 → Prop} {i j : Nat} (hl : ∀ i, dl i < 256) (hi : i < 7) (hj : j < 7) (h1 : pl_cl dn dg dl i j → post 1) (h0 : ¬ pl_cl dn dg dl i j → post 0) :
    wpX_eitherSpoils post (nI c, s0, pl_N dn, pl_N dg, pl_N dl, sn, sg, sl, sc, lt) (nI i) (nI j) := by
  have vi := vp_in_nI hi (by decide : 7 < 2 ^ 31)
  have vj := vp_in_nI hj (by decide : 7 < 2 ^ 31)
  refine ⟨vi, vj, vj, pk_eq (dl i &&& (dn j ||| dg j)) 0 (fun e1 => ⟨vj, vi, vi, pk_eq (dl j &&& (dn i ||| dg i)) 0 (fun e2 => h0 ?_) (fun e2 => h1 (Or.inr e2)) (pl_clX hj hi) rfl (pl_an (hl j)) (by decide)⟩) (fun e1 => h1 (Or.inl e1)) (pl_clX hi hj) rfl (pl_an (hl i)) (by decide)⟩
  rintro (h | h)
  · exact h e1
  · exact h e2
theorem pl_xHA {post : Int32 → Prop} {m i : Nat} (hm : m < 2 ^ 31) (hi : i < 32) (h1 : m / 2 ^ i % 2 = 1 → post 1) (h0 : ¬ m / 2 ^ i % 2 = 1 → post 0) : wpX_hasAction post (nI m) (nI i) :=
  pk_eq (m / 2 ^ i % 2) 0 (fun e => h0 (by omega)) (fun e => h1 (by omega)) (pl_bit hm hi) rfl (by omega) (by decide)
theorem pl_Uy {d : Nat → Nat} {m i : Nat} (hi : i < 7) (e : m / 2 ^ i % 2 = 1) : nI (pl_U d m i) ||| pl_N d (nI i).toNatClampNeg = nI (pl_U d m (i + 1)) := by
  rw [pl_Ng d (by omega), pl_or, pl_U, if_pos e]
theorem pl_Un {d : Nat → Nat} {m i : Nat} (e : ¬ m / 2 ^ i % 2 = 1) : pl_U d m (i + 1) = pl_U d m i := by rw [pl_U, if_neg e]
theorem pl_xJo1 {post : SX → Prop} {m : Nat} (hc : c ≤ 7) (hm : m < 128)
    (hp : post (nI c, s0, pl_N dn, pl_N dg, pl_N dl, upd sn m (nI (pl_U dn m c)), upd sg m (nI (pl_U dg m c)), upd sl m (nI (pl_U dl m c)), sc, lt)) :
    ∀ d i, i + d = c → wX_joinActionsOf_10 post (nI m) (nI c) s0 (pl_N dn) (pl_N dg) (pl_N dl) sn sg sl sc lt (d + 1) (nI (pl_U dn m i)) (nI (pl_U dg m i)) (nI (pl_U dl m i)) (nI i) := by
  have vm := vp_in_nI hm (by decide : 128 < 2 ^ 31)
  intro d
  induction d with
  | zero =>
    intro i hi
    obtain rfl : i = c := hi
    exact br_t (nI_le (Nat.le_refl _) (by omega)) ⟨vm, nm_r (pl_up (by omega)) ⟨vm, nm_r (pl_up (by omega)) ⟨vm, nm_r (pl_up (by omega)) hp⟩⟩⟩
  | succ d ih =>
    intro i hi
    have vi := vp_in_nI (show i < 7 by omega) (by decide : 7 < 2 ^ 31)
    have ih := ih (i + 1) (by omega)
    refine br_f (nI_ge (by omega) (by omega)) (pl_xHA (by omega) (by omega) (fun e => br_f (by decide) ⟨vi, nm_r (pl_Uy (by omega) e) ⟨vi, nm_r (pl_Uy (by omega) e) ⟨vi, nm_r (pl_Uy (by omega) e) (nm_r (nI_1 i) ih)⟩⟩⟩) (fun e => br_t rfl (nm_r (nI_1 i) ?_)))
    rw [pl_Un e, pl_Un e, pl_Un e] at ih
    exact ih
theorem pl_xJo {post : SX → Prop} {m : Nat} (hc : c ≤ 7) (hm : m < 128)
    (hp : post (nI c, s0, pl_N dn, pl_N dg, pl_N dl, upd sn m (nI (pl_U dn m c)), upd sg m (nI (pl_U dg m c)), upd sl m (nI (pl_U dl m c)), sc, lt)) :
    wpX_joinActionsOf post (nI c, s0, pl_N dn, pl_N dg, pl_N dl, sn, sg, sl, sc, lt) (nI m) :=
  ⟨c + 1, pl_xJo1 hc hm hp c 0 (Nat.zero_add c)⟩
theorem pl_xTC1 {post : Int32 → Prop} {J2 : Int32 → Prop} {m i : Nat} (hl : ∀ i, dl i < 256) (hc : c ≤ 7) (hm : m < 128) (hi : i < c) :
    ∀ d j, j + d = c → (∀ j', j ≤ j' → j' < c → m / 2 ^ i % 2 = 1 → m / 2 ^ j' % 2 = 1 → pl_cl dn dg dl i j' → post 1) →
      ((∀ j', j ≤ j' → j' < c → m / 2 ^ i % 2 = 1 → m / 2 ^ j' % 2 = 1 → ¬ pl_cl dn dg dl i j') → J2 (nI (i + 1))) →
      wX_someTwoClash_14 post J2 (nI m) (nI i) (nI c) s0 (pl_N dn) (pl_N dg) (pl_N dl) sn sg sl sc lt (d + 1) (nI j) := by
  intro d
  induction d with
  | zero =>
    intro j hj h1 h0
    obtain rfl : j = c := hj
    exact br_t (nI_le (Nat.le_refl _) (by omega)) (nm_r (nI_1 i) (h0 fun j' a b => absurd b (by omega)))
  | succ d ih =>
    intro j hj h1 h0
    have go : (m / 2 ^ i % 2 = 1 → m / 2 ^ j % 2 = 1 → ¬ pl_cl dn dg dl i j) → wX_someTwoClash_14 post J2 (nI m) (nI i) (nI c) s0 (pl_N dn) (pl_N dg) (pl_N dl) sn sg sl sc lt (d + 1) (nI (j + 1)) := by
      intro hn
      refine ih (j + 1) (by omega) (fun j' a b => h1 j' (by omega) b) (fun hh => h0 fun j' a b => ?_)
      by_cases e : j' = j
      · subst e; exact hn
      · exact hh j' (by omega) b
    exact br_f (nI_ge (by omega) (by omega)) (pl_xHA (by omega) (by omega)
      (fun e1 => br_f (by decide) (pl_xHA (by omega) (by omega)
        (fun e2 => br_f (by decide) (pl_xES hl (by omega) (by omega)
          (fun e3 => br_f (by decide) (h1 j (Nat.le_refl j) (by omega) e1 e2 e3))
          (fun e3 => br_t rfl (nm_r (nI_1 j) (go fun _ _ => e3)))))
        (fun e2 => br_t rfl (nm_r (nI_1 j) (go fun _ z => absurd z e2)))))
      (fun e1 => br_t rfl (nm_r (nI_1 j) (go fun z => absurd z e1))))
theorem pl_xTC2 {post : Int32 → Prop} {m : Nat} (hl : ∀ i, dl i < 256) (hc : c ≤ 7) (hm : m < 128) (h1 : pl_C dn dg dl c m → post 1) (h0 : ¬ pl_C dn dg dl c m → post 0) :
    ∀ d i, i + d = c → (∀ i' j', i' < i → i' < j' → j' < c → m / 2 ^ i' % 2 = 1 → m / 2 ^ j' % 2 = 1 → ¬ pl_cl dn dg dl i' j') →
      wX_someTwoClash_2 post (nI m) (nI c) s0 (pl_N dn) (pl_N dg) (pl_N dl) sn sg sl sc lt (d + 1) (nI i) := by
  intro d
  induction d with
  | zero =>
    intro i hi hn
    obtain rfl : i = c := hi
    refine br_t (nI_le (Nat.le_refl _) (by omega)) (h0 ?_)
    rintro ⟨i', j', a, b, e1, e2, e3⟩
    exact hn i' j' (by omega) a b e1 e2 e3
  | succ d ih =>
    intro i hi hn
    refine br_f (nI_ge (by omega) (by omega)) (nm_r (nI_1 i) ⟨(c - (i + 1)) + 1, pl_xTC1 hl hc hm (by omega) (c - (i + 1)) (i + 1) (by omega) ?_ ?_⟩)
    · intro j' a b e1 e2 e3
      exact h1 ⟨i, j', by omega, b, e1, e2, e3⟩
    · intro hh
      refine ih (i + 1) (by omega) fun i' j' a b cc e1 e2 => ?_
      by_cases e : i' = i
      · subst e; exact hh j' (by omega) cc e1 e2
      · exact hn i' j' (by omega) b cc e1 e2
theorem pl_xTC {post : Int32 → Prop} {m : Nat} (hl : ∀ i, dl i < 256) (hc : c ≤ 7) (hm : m < 128) (h1 : pl_C dn dg dl c m → post 1) (h0 : ¬ pl_C dn dg dl c m → post 0) :
    wpX_someTwoClash post (nI c, s0, pl_N dn, pl_N dg, pl_N dl, sn, sg, sl, sc, lt) (nI m) :=
  ⟨c + 1, pl_xTC2 hl hc hm h1 h0 c 0 (Nat.zero_add c) fun i' j' a => absurd a (Nat.not_lt_zero i')⟩
/-- what joinActionSets has filled in, of the sets below e -/
def pl_J (dn dg dl : Nat → Nat) (c e : Nat) (sn sg sl sc : Nat → Int32) : Prop := ∀ m, m < e → sn m = nI (pl_U dn m c) ∧ sg m = nI (pl_U dg m c) ∧ sl m = nI (pl_U dl m c) ∧ (sc m = 0 ↔ ¬ pl_C dn dg dl c m)
theorem pl_J_s {e : Nat} {x : Int32} (h : pl_J dn dg dl c e sn sg sl sc) (hx : x = 0 ↔ ¬ pl_C dn dg dl c e) :
    pl_J dn dg dl c (e + 1) (upd sn e (nI (pl_U dn e c))) (upd sg e (nI (pl_U dg e c))) (upd sl e (nI (pl_U dl e c))) (upd sc e x) := by
  intro m hm
  by_cases em : m = e
  · subst em
    rw [pk_us, pk_us, pk_us, pk_us]
    exact ⟨rfl, rfl, rfl, hx⟩
  · rw [pk_un em, pk_un em, pk_un em, pk_un em]
    exact h m (by omega)
theorem pl_xJS1 {post : SX → Prop} (hl : ∀ i, dl i < 256) (hc : c ≤ 7)
    (hp : ∀ sn sg sl sc, pl_J dn dg dl c (2 ^ c) sn sg sl sc → post (nI c, s0, pl_N dn, pl_N dg, pl_N dl, sn, sg, sl, sc, lt)) :
    ∀ d m sn sg sl sc, m + d = 2 ^ c → pl_J dn dg dl c m sn sg sl sc → wX_joinActionSets_2 post (d + 1) (nI m) (nI c) s0 (pl_N dn) (pl_N dg) (pl_N dl) sn sg sl sc lt := by
  have h7 := pl_p7 hc
  intro d
  induction d with
  | zero =>
    intro m sn sg sl sc hm hJ
    have hm : m = 2 ^ c := hm
    subst hm
    exact br_t (by rw [pl_p2 (by omega)]; exact nI_le (Nat.le_refl _) (by omega)) (hp _ _ _ _ hJ)
  | succ d ih =>
    intro m sn sg sl sc hm hJ
    have vm := vp_in_nI (show m < 128 by omega) (by decide : 128 < 2 ^ 31)
    exact br_f (by rw [pl_p2 (by omega)]; exact nI_ge (by omega) (by omega)) (pl_xJo hc (by omega) (pl_xTC hl hc (by omega)
      (fun z => ⟨vm, nm_r (pl_up (by omega)) (nm_r (nI_1 m) (ih (m + 1) _ _ _ _ (by omega) (pl_J_s hJ (by rw [pl_nar1]; exact ⟨fun a => absurd a (by decide), fun a => absurd z a⟩))))⟩)
      (fun z => ⟨vm, nm_r (pl_up (by omega)) (nm_r (nI_1 m) (ih (m + 1) _ _ _ _ (by omega) (pl_J_s hJ (by rw [pl_nar0]; exact ⟨fun _ => z, fun _ => rfl⟩))))⟩)))
theorem pl_xJS {post : SX → Prop} (hl : ∀ i, dl i < 256) (hc : c ≤ 7)
    (hp : ∀ sn sg sl sc, pl_J dn dg dl c (2 ^ c) sn sg sl sc → post (nI c, s0, pl_N dn, pl_N dg, pl_N dl, sn, sg, sl, sc, lt)) :
    wpX_joinActionSets post (nI c, s0, pl_N dn, pl_N dg, pl_N dl, sn, sg, sl, sc, lt) :=
  ⟨2 ^ c + 1, pl_xJS1 hl hc hp (2 ^ c) 0 sn sg sl sc (Nat.zero_add _) fun m hm => absurd hm (Nat.not_lt_zero m)⟩
theorem pl_xFo1 {post : SX → Prop} (hp : ∀ lt, (∀ s, s < 256 → lt s = nI 9) → post (nI c, s0, aN, aG, aL, sn, sg, sl, sc, lt)) :
    ∀ d i lt, i + d = 256 → (∀ s, s < i → lt s = nI 9) → wX_forgetStates_2 post (nI c) s0 (d + 1) (nI i) aN aG aL sn sg sl sc lt := by
  intro d
  induction d with
  | zero =>
    intro i lt hi h
    obtain rfl : i = 256 := hi
    exact br_t (nI_le (a := 256) (Nat.le_refl _) (by decide)) (hp lt h)
  | succ d ih =>
    intro i lt hi h
    refine br_f (nI_ge (b := 256) (by omega) (by decide)) ⟨vp_in_nI (by omega) (by decide), nm_r (pl_up (by omega)) (nm_r (nI_1 i) (ih (i + 1) _ (by omega) fun s hs => ?_))⟩
    by_cases e : s = i
    · subst e; exact pk_us
    · rw [pk_un e]; exact h s (by omega)
theorem pl_xFo {post : SX → Prop} (hp : ∀ lt, (∀ s, s < 256 → lt s = nI 9) → post (nI c, s0, aN, aG, aL, sn, sg, sl, sc, lt)) :
    wpX_forgetStates post (nI c, s0, aN, aG, aL, sn, sg, sl, sc, lt) :=
  ⟨257, pl_xFo1 hp 256 0 lt rfl fun s hs => absurd hs (Nat.not_lt_zero s)⟩
theorem pl_xCB {post : Int32 → Prop} {m s : Nat} (hc : c ≤ 7) (hn : ∀ i, dn i < 256) (hs : s < 256) (hm : m < 2 ^ c) (hJ : pl_J dn dg dl c (2 ^ c) sn sg sl sc) (h1 : pl_ok dn dg dl c m s → post 1) (h0 : ¬ pl_ok dn dg dl c m s → post 0) :
    wpX_canBeLayer post (nI c, s0, aN, aG, aL, sn, sg, sl, sc, lt) (nI m) (nI s) := by
  have h7 := pl_p7 hc
  have vm := vp_in_nI (show m < 128 by omega) (by decide : 128 < 2 ^ 31)
  have cl : (nI m).toNatClampNeg = m := nI_clamp (by omega)
  have U := pl_U_lt hn m c
  obtain ⟨e1, e2, e3, e4⟩ := hJ m hm
  refine ⟨vm, br_c (fun z => ⟨vm, ?_⟩) (fun z => h0 ?_)⟩
  · rw [cl] at z
    exact pk_eq (s &&& pl_U dn m c) (pl_U dn m c) (fun e => br_f (by decide) (h1 ⟨e4.mp z, e⟩)) (fun e => br_t rfl (h0 fun k => e k.2)) (by rw [cl, e1, nx_and]) (by rw [cl, e1]) (pl_an hs) (by omega)
  · rw [cl] at z
    exact fun k => z (e4.mpr k.1)
theorem pl_xSA {post : Int32 → Prop} {m s : Nat} (hc : c ≤ 7) (hm : m < 2 ^ c) (hJ : pl_J dn dg dl c (2 ^ c) sn sg sl sc) (hp : post (nI (pl_af dg dl c m s))) :
    wpX_stateAfter post (nI c, s0, aN, aG, aL, sn, sg, sl, sc, lt) (nI m) (nI s) := by
  have h7 := pl_p7 hc
  have vm := vp_in_nI (show m < 128 by omega) (by decide : 128 < 2 ^ 31)
  obtain ⟨e1, e2, e3, e4⟩ := hJ m hm
  refine ⟨vm, vm, ?_⟩
  show post ((nI s &&& (sl (nI m).toNatClampNeg ^^^ (-1))) ||| sg (nI m).toNatClampNeg)
  rw [nI_clamp (by omega), e3, e2, pl_nt, nx_and, pl_or]
  exact hp
end
end
