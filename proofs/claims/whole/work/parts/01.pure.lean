/-! The pure picture. Actions: three rows of sets below 256 (dn needs, dg gains, dl losses), c of them;
    a layer is a number m below 2^c; a state is a number below 256. -/
def pl_U (d : Nat → Nat) (m : Nat) : Nat → Nat
  | 0 => 0
  | i + 1 => if m / 2 ^ i % 2 = 1 then pl_U d m i ||| d i else pl_U d m i
def pl_cl (dn dg dl : Nat → Nat) (i j : Nat) : Prop := ¬ (dl i &&& (dn j ||| dg j)) = 0 ∨ ¬ (dl j &&& (dn i ||| dg i)) = 0
theorem pl_cl_sy {dn dg dl : Nat → Nat} {i j : Nat} (h : pl_cl dn dg dl i j) : pl_cl dn dg dl j i := Or.symm h
/-- some two actions of m, both below i, clash -/
def pl_C (dn dg dl : Nat → Nat) (c m : Nat) : Prop := ∃ i j, i < j ∧ j < c ∧ m / 2 ^ i % 2 = 1 ∧ m / 2 ^ j % 2 = 1 ∧ pl_cl dn dg dl i j
def pl_ok (dn dg dl : Nat → Nat) (c m s : Nat) : Prop := ¬ pl_C dn dg dl c m ∧ s &&& pl_U dn m c = pl_U dn m c
def pl_af (dg dl : Nat → Nat) (c m s : Nat) : Nat := (s &&& (pl_U dl m c ^^^ 4294967295)) ||| pl_U dg m c
def pl_T (dn dg dl : Nat → Nat) (c s t : Nat) : Prop := ∃ m, m < 2 ^ c ∧ pl_ok dn dg dl c m s ∧ pl_af dg dl c m s = t
/-- what just k layers reach from a state of P -/
def pl_R (T : Nat → Nat → Prop) (P : Nat → Prop) : Nat → Nat → Prop
  | 0, s => P s
  | k + 1, s => ∃ t, t < 256 ∧ pl_R T P k t ∧ T t s
theorem pl_U_lt {d : Nat → Nat} (h : ∀ i, d i < 256) (m : Nat) : ∀ i, pl_U d m i < 256 := by
  intro i
  induction i with
  | zero => show 0 < 256; decide
  | succ i ih =>
    rw [pl_U]
    split
    · exact Nat.or_lt_two_pow (n := 8) ih (h i)
    · exact ih
theorem pl_sub {n s : Nat} (hn : n < 4294967296) : n &&& (s ^^^ 4294967295) = 0 ↔ s &&& n = n := by
  have key : ∀ i, (n &&& (s ^^^ 4294967295)).testBit i = (n.testBit i && !s.testBit i) := by
    intro i
    rw [Nat.testBit_and, Nat.testBit_xor, show (4294967295 : Nat) = 2 ^ 32 - 1 from rfl, Nat.testBit_two_pow_sub_one]
    by_cases hi : i < 32
    · cases s.testBit i <;> cases n.testBit i <;> simp [hi]
    · have z : n.testBit i = false := Nat.testBit_lt_two_pow (Nat.lt_of_lt_of_le hn (show 2 ^ 32 ≤ 2 ^ i from Nat.pow_le_pow_right (by decide) (by omega)))
      simp [z]
  constructor
  · intro h
    apply Nat.eq_of_testBit_eq
    intro i
    have k := key i
    rw [h, Nat.zero_testBit] at k
    rw [Nat.testBit_and]
    cases hs : s.testBit i <;> cases hb : n.testBit i <;> simp [hs, hb] at k ⊢
  · intro h
    apply Nat.eq_of_testBit_eq
    intro i
    rw [key i, Nat.zero_testBit]
    have k : (s &&& n).testBit i = n.testBit i := by rw [h]
    rw [Nat.testBit_and] at k
    cases hs : s.testBit i <;> cases hb : n.testBit i <;> simp [hs, hb] at k ⊢
theorem pl_and_or {s a b : Nat} : s &&& (a ||| b) = a ||| b ↔ s &&& a = a ∧ s &&& b = b := by
  constructor
  · intro h
    have k : ∀ i, (s.testBit i && (a.testBit i || b.testBit i)) = (a.testBit i || b.testBit i) := by
      intro i
      rw [← Nat.testBit_or, ← Nat.testBit_and, h]
    constructor
    · apply Nat.eq_of_testBit_eq
      intro i
      have k := k i
      rw [Nat.testBit_and]
      cases hs : s.testBit i <;> cases ha : a.testBit i <;> cases hb : b.testBit i <;> simp [hs, ha, hb] at k ⊢
    · apply Nat.eq_of_testBit_eq
      intro i
      have k := k i
      rw [Nat.testBit_and]
      cases hs : s.testBit i <;> cases ha : a.testBit i <;> cases hb : b.testBit i <;> simp [hs, ha, hb] at k ⊢
  · rintro ⟨ha, hb⟩
    rw [Nat.and_or_distrib_left, ha, hb]
theorem pl_U_sub {d : Nat → Nat} {s m : Nat} : ∀ i, s &&& pl_U d m i = pl_U d m i ↔ ∀ j, j < i → m / 2 ^ j % 2 = 1 → s &&& d j = d j := by
  intro i
  induction i with
  | zero => exact ⟨fun _ j hj => absurd hj (Nat.not_lt_zero j), fun _ => Nat.and_zero s⟩
  | succ i ih =>
    rw [pl_U]
    by_cases z : m / 2 ^ i % 2 = 1
    · rw [if_pos z, pl_and_or, ih]
      constructor
      · rintro ⟨h1, h2⟩ j hj hm
        by_cases e : j = i
        · rw [e]; exact h2
        · exact h1 j (by omega) hm
      · intro h
        exact ⟨fun j hj hm => h j (by omega) hm, h i (by omega) z⟩
    · rw [if_neg z, ih]
      constructor
      · intro h1 j hj hm
        by_cases e : j = i
        · rw [e] at hm; exact absurd hm z
        · exact h1 j (by omega) hm
      · intro h j hj hm
        exact h j (by omega) hm
theorem pl_U_0 (d : Nat → Nat) : ∀ i, pl_U d 0 i = 0 := by
  intro i
  induction i with
  | zero => rfl
  | succ i ih => rw [pl_U, if_neg (by rw [Nat.zero_div]; decide), ih]
theorem pl_af_lt {dg dl : Nat → Nat} (hg : ∀ i, dg i < 256) {c m s : Nat} (hs : s < 256) : pl_af dg dl c m s < 256 :=
  Nat.or_lt_two_pow (n := 8) (Nat.lt_of_le_of_lt Nat.and_le_left hs) (pl_U_lt hg m c)
/-- the empty layer -/
theorem pl_T_rf {dn dg dl : Nat → Nat} {c s : Nat} (hs : s < 256) : pl_T dn dg dl c s s := by
  refine ⟨0, Nat.two_pow_pos c, ⟨?_, ?_⟩, ?_⟩
  · rintro ⟨i, j, _, _, h, _⟩
    rw [Nat.zero_div] at h
    exact absurd h (by decide)
  · rw [pl_U_0]; exact Nat.and_zero s
  · unfold pl_af
    rw [pl_U_0, pl_U_0, Nat.zero_xor, Nat.or_zero, show (4294967295 : Nat) = 2 ^ 32 - 1 from rfl, Nat.and_two_pow_sub_one_eq_mod]
    exact Nat.mod_eq_of_lt (by omega)
theorem pl_T_lt {dn dg dl : Nat → Nat} (hg : ∀ i, dg i < 256) {c s t : Nat} (hs : s < 256) (h : pl_T dn dg dl c s t) : t < 256 := by
  obtain ⟨m, _, _, e⟩ := h
  rw [← e]
  exact pl_af_lt hg hs
section
variable {T : Nat → Nat → Prop} {P : Nat → Prop}
theorem pl_R_up (hT : ∀ s, s < 256 → T s s) {j s : Nat} (hs : s < 256) : ∀ d, pl_R T P j s → pl_R T P (j + d) s := by
  intro d
  induction d with
  | zero => exact id
  | succ d ih => exact fun h => ⟨s, hs, ih h, hT s hs⟩
theorem pl_R_le (hT : ∀ s, s < 256 → T s s) {j k s : Nat} (hs : s < 256) (hjk : j ≤ k) (h : pl_R T P j s) : pl_R T P k s := by
  have e := pl_R_up hT hs (k - j) h
  rwa [Nat.add_sub_cancel' hjk] at e
theorem pl_R_lt (hT : ∀ s t, s < 256 → T s t → t < 256) (hP : ∀ s, P s → s < 256) : ∀ k s, pl_R T P k s → s < 256 := by
  intro k
  cases k with
  | zero => exact hP
  | succ k => rintro s ⟨t, ht, _, h⟩; exact hT t s ht h
theorem pl_R_un {α : Type} (D : α → Prop) (g : α → Nat) : ∀ k s, pl_R T (fun s => ∃ x, D x ∧ s = g x) k s ↔ ∃ x, D x ∧ pl_R T (fun s => s = g x) k s := by
  intro k
  induction k with
  | zero => exact fun s => Iff.rfl
  | succ k ih =>
    intro s
    constructor
    · rintro ⟨t, ht, h, hst⟩
      obtain ⟨x, hx, h'⟩ := (ih t).mp h
      exact ⟨x, hx, t, ht, h', hst⟩
    · rintro ⟨x, hx, t, ht, h, hst⟩
      exact ⟨t, ht, (ih t).mpr ⟨x, hx, h⟩, hst⟩
theorem pl_R_sh {P' : Nat → Prop} (h0 : ∀ s, P' s → ∃ x, x < 256 ∧ P x ∧ T x s) : ∀ k s, pl_R T P' k s → pl_R T P (k + 1) s := by
  intro k
  induction k with
  | zero => exact fun s h => h0 s h
  | succ k ih => rintro s ⟨t, ht, h, hst⟩; exact ⟨t, ht, ih t h, hst⟩
/-- v measures, up to k layers -/
def pl_Me (R : Nat → Nat → Prop) (k : Nat) (v : Nat → Nat) : Prop := ∀ s, s < 256 → (∀ j, j ≤ k → (v s ≤ j ↔ R j s)) ∧ (v s ≤ k ∨ v s = 9)
/-- the same within the turn k of the outer loop: Q is what has been reached in it -/
def pl_Mi (R : Nat → Nat → Prop) (k : Nat) (Q : Nat → Prop) (v : Nat → Nat) : Prop := ∀ s, s < 256 → (∀ j, j ≤ k → (v s ≤ j ↔ R j s)) ∧ (v s ≤ k + 1 ↔ R k s ∨ Q s) ∧ (v s ≤ k + 1 ∨ v s = 9)
def pl_Ex (R : Nat → Nat → Prop) (k t : Nat) : Prop := R k t ∧ ∀ j, j < k → ¬ R j t
theorem pl_Mi_0 {R : Nat → Nat → Prop} {k : Nat} {v : Nat → Nat} (hk : k < 8) (h : pl_Me R k v) : pl_Mi R k (fun _ => False) v := by
  intro s hs
  obtain ⟨h1, h2⟩ := h s hs
  refine ⟨h1, ?_, by omega⟩
  have e := h1 k (Nat.le_refl k)
  constructor
  · intro h; exact Or.inl (e.mp (by omega))
  · rintro (h | h)
    · have := e.mpr h; omega
    · exact h.elim
theorem pl_Mi_q {R : Nat → Nat → Prop} {k : Nat} {Q Q' : Nat → Prop} {v : Nat → Nat} (hQ : ∀ s, s < 256 → (Q s ↔ Q' s)) (h : pl_Mi R k Q v) : pl_Mi R k Q' v := by
  intro s hs
  rw [← hQ s hs]
  exact h s hs
theorem pl_Mi_ex {R : Nat → Nat → Prop} {k : Nat} {Q : Nat → Prop} {v : Nat → Nat} (h : pl_Mi R k Q v) {s : Nat} (hs : s < 256) : v s = k ↔ pl_Ex R k s := by
  obtain ⟨h1, _, _⟩ := h s hs
  constructor
  · intro e
    refine ⟨(h1 k (Nat.le_refl k)).mp (by omega), fun j hj hR => ?_⟩
    have := (h1 j (by omega)).mpr hR
    omega
  · rintro ⟨hR, hn⟩
    have a := (h1 k (Nat.le_refl k)).mpr hR
    by_cases e : v s = k
    · exact e
    · exact absurd ((h1 (v s) a).mp (Nat.le_refl _)) (hn (v s) (by omega))
/-- a store: only where more stands there -/
theorem pl_Mi_put {R : Nat → Nat → Prop} {k : Nat} {Q : Nat → Prop} {v : Nat → Nat} (hR : ∀ j s, s < 256 → j ≤ k → R j s → R k s) (h : pl_Mi R k Q v) {a : Nat} (ha : a < 256) (hv : k + 1 < v a) :
    pl_Mi R k (fun s => Q s ∨ s = a) (fun s => if s = a then k + 1 else v s) := by
  intro s hs
  obtain ⟨h1, h2, h3⟩ := h s hs
  by_cases e : s = a
  · subst e
    dsimp only
    rw [if_pos rfl]
    refine ⟨fun j hj => ?_, ⟨fun _ => Or.inr (Or.inr rfl), fun _ => Nat.le_refl _⟩, Or.inl (Nat.le_refl _)⟩
    constructor
    · intro h; omega
    · intro h; have := (h1 j hj).mpr h; omega
  · dsimp only
    rw [if_neg e]
    refine ⟨h1, h2.trans ?_, h3⟩
    constructor
    · rintro (h | h)
      · exact Or.inl h
      · exact Or.inr (Or.inl h)
    · rintro (h | h | h)
      · exact Or.inl h
      · exact Or.inr h
      · exact absurd h e
theorem pl_Mi_skip {R : Nat → Nat → Prop} {k : Nat} {Q : Nat → Prop} {v : Nat → Nat} (h : pl_Mi R k Q v) {a : Nat} (ha : a < 256) (hv : v a ≤ k + 1) : pl_Mi R k (fun s => Q s ∨ s = a) v := by
  intro s hs
  obtain ⟨h1, h2, h3⟩ := h s hs
  refine ⟨h1, h2.trans ?_, h3⟩
  constructor
  · rintro (h | h)
    · exact Or.inl h
    · exact Or.inr (Or.inl h)
  · rintro (h' | h' | h')
    · exact Or.inl h'
    · exact Or.inr h'
    · subst h'; exact (h s hs).2.1.mp hv
theorem pl_Mi_end (hT : ∀ s, s < 256 → T s s) {k : Nat} {v : Nat → Nat} (hk : k < 8) (h : pl_Mi (pl_R T P) k (fun s => ∃ t, t < 256 ∧ pl_Ex (pl_R T P) k t ∧ T t s) v) : pl_Me (pl_R T P) (k + 1) v := by
  intro s hs
  obtain ⟨h1, h2, h3⟩ := h s hs
  refine ⟨fun j hj => ?_, h3⟩
  by_cases e : j = k + 1
  · subst e
    rw [h2]
    constructor
    · rintro (h | ⟨t, ht, hE, hst⟩)
      · exact pl_R_le hT hs (Nat.le_succ k) h
      · exact ⟨t, ht, hE.1, hst⟩
    · rintro ⟨t, ht, hR, hst⟩
      by_cases hE : pl_Ex (pl_R T P) k t
      · exact Or.inr ⟨t, ht, hE, hst⟩
      · by_cases hj : ∃ j, j < k ∧ pl_R T P j t
        · obtain ⟨j, hj, hRj⟩ := hj
          have a : pl_R T P (j + 1) s := ⟨t, ht, hRj, hst⟩
          exact Or.inl (pl_R_le hT hs hj a)
        · exact absurd ⟨hR, fun j hj' hRj => hj ⟨j, hj', hRj⟩⟩ hE
  · exact h1 j (by omega)
/-- the least number of layers, over the states below t -/
def pl_Le (R : Nat → Nat → Prop) (G : Nat → Prop) (t l : Nat) : Prop := l ≤ 9 ∧ ∀ j, j ≤ 8 → (l ≤ j ↔ ∃ s, s < t ∧ G s ∧ R j s)
theorem pl_Le_0 {R : Nat → Nat → Prop} {G : Nat → Prop} : pl_Le R G 0 9 := by
  refine ⟨Nat.le_refl 9, fun j hj => ⟨fun h => by omega, ?_⟩⟩
  rintro ⟨s, hs, _⟩
  exact absurd hs (Nat.not_lt_zero s)
theorem pl_Le_no {R : Nat → Nat → Prop} {G : Nat → Prop} {t l : Nat} (h : pl_Le R G t l) (n : ∀ j, j ≤ 8 → G t → R j t → l ≤ j) : pl_Le R G (t + 1) l := by
  refine ⟨h.1, fun j hj => (h.2 j hj).trans ⟨?_, ?_⟩⟩
  · rintro ⟨s, hs, hG, hR⟩
    exact ⟨s, by omega, hG, hR⟩
  · rintro ⟨s, hs, hG, hR⟩
    by_cases e : s = t
    · subst e; exact (h.2 j hj).mp (n j hj hG hR)
    · exact ⟨s, by omega, hG, hR⟩
theorem pl_Le_yes {R : Nat → Nat → Prop} {G : Nat → Prop} {t l : Nat} {v : Nat → Nat} (hM : pl_Me R 8 v) (h : pl_Le R G t l) (ht : t < 256) (hG : G t) (hv : v t < l) : pl_Le R G (t + 1) (v t) := by
  have h9 := h.1
  refine ⟨by omega, fun j hj => ?_⟩
  have e := (hM t ht).1 j hj
  constructor
  · intro a
    exact ⟨t, Nat.lt_succ_self t, hG, e.mp a⟩
  · rintro ⟨s, hs, hGs, hR⟩
    by_cases es : s = t
    · subst es; exact e.mpr hR
    · have := (h.2 j hj).mpr ⟨s, by omega, hGs, hR⟩
      omega
/-- what the reference's search over k finds is the least number -/
theorem pl_Le_first {R : Nat → Nat → Prop} {G : Nat → Prop} {l k : Nat} (h : pl_Le R G 256 l) (hk : k ≤ 8) (hy : ∃ s, s < 256 ∧ G s ∧ R k s) (hn : ∀ j, j < k → ¬ ∃ s, s < 256 ∧ G s ∧ R j s) : l = k := by
  have a := (h.2 k hk).mpr hy
  by_cases e : l = k
  · exact e
  · exact absurd ((h.2 l (by omega)).mp (Nat.le_refl l)) (hn l (by omega))
theorem pl_Le_none {R : Nat → Nat → Prop} {G : Nat → Prop} {l : Nat} (h : pl_Le R G 256 l) (hn : ∀ j, j < 9 → ¬ ∃ s, s < 256 ∧ G s ∧ R j s) : l = 9 := by
  by_cases e : l = 9
  · exact e
  · have := h.1
    exact absurd ((h.2 l (by omega)).mp (Nat.le_refl l)) (hn l (by omega))
end
