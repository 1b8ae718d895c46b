/-! the reference: its small methods, after, setOut -/
section
variable {dn dg dl : Nat → Nat} {c : Nat} {s0 : Int32} {aN aG aL had : Nat → Int32}
theorem pl_yIS_no {post : Int32 → Prop} {p : Int32} (h : p < 0 ∨ nI 256 ≤ p) (hp : post 0) : wpY_isSet post (nI c, s0, aN, aG, aL, had) p := by
  by_cases h0 : p < 0
  · exact br_t h0 hp
  · exact br_f h0 (br_t (pl_gt (a := 255) (by decide) (h.resolve_left h0)) hp)
theorem pl_yIS_ok {post : Int32 → Prop} {g : Nat} (hg : g < 256) (hp : post 1) : wpY_isSet post (nI c, s0, aN, aG, aL, had) (nI g) :=
  br_f (nI_pos (by omega)) (br_f (nI_nlt (a := 255) (by omega) (by decide)) hp)
theorem pl_yIA_no {post : Int32 → Prop} {p : Int32} (h : p < 0 ∨ nI c ≤ p) (hp : post 0) : wpY_isAction post (nI c, s0, aN, aG, aL, had) p := by
  by_cases h0 : p < 0
  · exact br_t h0 hp
  · exact br_f h0 (br_t (h.resolve_left h0) hp)
theorem pl_yIA_ok {post : Int32 → Prop} {i : Nat} (hc : c ≤ 7) (hi : i < c) (hp : post 1) : wpY_isAction post (nI c, s0, aN, aG, aL, had) (nI i) :=
  br_f (nI_pos (by omega)) (br_f (nI_ge hi (by omega)) hp)
theorem pl_yC {post : Int32 → Prop} {i j : Nat} (hl : ∀ i, dl i < 256) (hc : c ≤ 7) (hi : i < c) (hj : j < c) (hij : i ≠ j) (h1 : pl_cl dn dg dl i j → post 1) (h0 : ¬ pl_cl dn dg dl i j → post 0) :
    wpY_clash post (nI c, s0, pl_N dn, pl_N dg, pl_N dl, had) (nI i) (nI j) := by
  have vi := vp_in_nI (show i < 7 by omega) (by decide : 7 < 2 ^ 31)
  have vj := vp_in_nI (show j < 7 by omega) (by decide : 7 < 2 ^ 31)
  unfold wpY_clash
  refine pl_yIA_ok hc hi (br_f (by decide) ?_)
  refine pl_yIA_ok hc hj (br_f (by decide) ?_)
  refine br_f (fun z => hij ((nI_eq (by omega) (by omega)).mp z)) ?_
  refine ⟨vi, vj, vj, pk_eq (dl i &&& (dn j ||| dg j)) 0 (fun e1 => ⟨vj, vi, vi, pk_eq (dl j &&& (dn i ||| dg i)) 0 (fun e2 => h0 ?_) (fun e2 => h1 (Or.inr e2)) (pl_clX (by omega) (by omega)) rfl (pl_an (hl j)) (by decide)⟩) (fun e1 => h1 (Or.inl e1)) (pl_clX (by omega) (by omega)) rfl (pl_an (hl i)) (by decide)⟩
  rintro (h | h)
  · exact h e1
  · exact h e2
theorem pl_yA1 {post : Int32 → Prop} {J8 : Int32 → Int32 → Int32 → Prop} {x1 : Int32} {m i : Nat} (hl : ∀ i, dl i < 256) (hc : c ≤ 7) (hm : m < 128) (hi : i < c) (hb : m / 2 ^ i % 2 = 1) :
    ∀ d j, j + d = i → (∀ j', j ≤ j' → j' < i → m / 2 ^ j' % 2 = 1 → pl_cl dn dg dl i j' → post (-1)) →
      ((∀ j', j ≤ j' → j' < i → m / 2 ^ j' % 2 = 1 → ¬ pl_cl dn dg dl i j') → J8 (nI (pl_U dl m (i + 1))) (nI (pl_U dg m (i + 1))) (nI (i + 1))) →
      wY_after_45 post J8 x1 (nI m) (nI (pl_U dl m i)) (nI (pl_U dg m i)) (nI i) (nI c) s0 (pl_N dn) (pl_N dg) (pl_N dl) had (d + 1) (nI j) := by
  have vi := vp_in_nI (show i < 7 by omega) (by decide : 7 < 2 ^ 31)
  intro d
  induction d with
  | zero =>
    intro j hj h1 h0
    obtain rfl : j = i := hj
    exact br_t (nI_le (Nat.le_refl _) (by omega)) ⟨vi, nm_r (pl_Uy (by omega) hb) ⟨vi, nm_r (pl_Uy (by omega) hb) (nm_r (nI_1 j) (h0 fun j' a b => absurd b (by omega)))⟩⟩
  | succ d ih =>
    intro j hj h1 h0
    have go : (m / 2 ^ j % 2 = 1 → ¬ pl_cl dn dg dl i j) → wY_after_45 post J8 x1 (nI m) (nI (pl_U dl m i)) (nI (pl_U dg m i)) (nI i) (nI c) s0 (pl_N dn) (pl_N dg) (pl_N dl) had (d + 1) (nI (j + 1)) := by
      intro hn
      refine ih (j + 1) (by omega) (fun j' a b => h1 j' (by omega) b) (fun hh => h0 fun j' a b => ?_)
      by_cases e : j' = j
      · subst e; exact hn
      · exact hh j' (by omega) b
    exact br_f (nI_ge (by omega) (by omega)) (pk_eq (m / 2 ^ j % 2) 0
      (fun e => nm_r (nI_1 j) (go fun z => absurd z (by omega)))
      (fun e => pl_yC hl hc hi (by omega) (by omega)
        (fun e3 => br_f (by decide) (h1 j (Nat.le_refl j) (by omega) (by omega) e3))
        (fun e3 => br_t rfl (nm_r (nI_1 j) (go fun _ => e3))))
      (pl_bit (by omega) (by omega)) rfl (by omega) (by decide))
theorem pl_yA2 {post : Int32 → Prop} {m s : Nat} (hs : s < 256) (hn : ∀ i, dn i < 256) (hl : ∀ i, dl i < 256) (hc : c ≤ 7) (hm : m < 128) (h1 : pl_ok dn dg dl c m s → post (nI (pl_af dg dl c m s))) (h0 : ¬ pl_ok dn dg dl c m s → post (-1)) :
    ∀ d i, i + d = c → (∀ i', i' < i → m / 2 ^ i' % 2 = 1 → s &&& dn i' = dn i') → (∀ i' j', j' < i' → i' < i → m / 2 ^ i' % 2 = 1 → m / 2 ^ j' % 2 = 1 → ¬ pl_cl dn dg dl i' j') →
      wY_after_8 post (nI s) (nI m) (nI c) s0 (pl_N dn) (pl_N dg) (pl_N dl) had (d + 1) (nI (pl_U dl m i)) (nI (pl_U dg m i)) (nI i) := by
  intro d
  induction d with
  | zero =>
    intro i hi a b
    obtain rfl : i = c := hi
    refine br_t (nI_le (Nat.le_refl _) (by omega)) ?_
    rw [pl_nt, nx_and, pl_or]
    refine h1 ⟨?_, (pl_U_sub i).mpr a⟩
    rintro ⟨x, y, h, hy, b1, b2, hcl⟩
    exact b y x h hy b2 b1 (pl_cl_sy hcl)
  | succ d ih =>
    intro i hi a b
    refine br_f (nI_ge (by omega) (by omega)) (pk_eq (m / 2 ^ i % 2) 0 (fun e => nm_r (nI_1 i) ?_) (fun e => ⟨vp_in_nI (show i < 7 by omega) (by decide), pk_eq (dn i &&& (s ^^^ 4294967295)) 0 (fun e2 => ?_) (fun e2 => h0 fun k => e2 ((pl_sub (Nat.lt_trans (hn i) (by decide))).mpr ((pl_U_sub c).mp k.2 i (by omega) (by omega)))) ?_ rfl (pl_an (hn i)) (by decide)⟩) (pl_bit (by omega) (by omega)) rfl (by omega) (by decide))
    · have ih := ih (i + 1) (by omega) (fun i' hi' z => ?_) (fun i' j' hj hi' z1 z2 => ?_)
      · rw [pl_Un (by omega), pl_Un (by omega)] at ih
        exact ih
      · by_cases ei : i' = i
        · subst ei; omega
        · exact a i' (by omega) z
      · by_cases ei : i' = i
        · subst ei; omega
        · exact b i' j' hj (by omega) z1 z2
    · have e1 : m / 2 ^ i % 2 = 1 := by omega
      refine ⟨i + 1, pl_yA1 hl hc hm (by omega) e1 i 0 (Nat.zero_add i) (fun j' _ hj z1 z2 => h0 fun k => k.1 ⟨j', i, hj, by omega, z1, e1, pl_cl_sy z2⟩) (fun hh => ih (i + 1) (by omega) (fun i' hi' z => ?_) (fun i' j' hj hi' z1 z2 => ?_))⟩
      · by_cases ei : i' = i
        · subst ei; exact (pl_sub (Nat.lt_trans (hn i') (by decide))).mp e2
        · exact a i' (by omega) z
      · by_cases ei : i' = i
        · subst ei; exact hh j' (Nat.zero_le j') hj z2
        · exact b i' j' hj (by omega) z1 z2
    · rw [pl_Ng dn (by omega), pl_nt, nx_and]
theorem pl_yA {post : Int32 → Prop} {x : Int32} {m s : Nat} (hx : x = nI s) (hs : s < 256) (hn : ∀ i, dn i < 256) (hl : ∀ i, dl i < 256) (hc : c ≤ 7) (hm : m < 2 ^ c) (h1 : pl_ok dn dg dl c m s → post (nI (pl_af dg dl c m s))) (h0 : ¬ pl_ok dn dg dl c m s → post (-1)) :
    wpY_after post (nI c, s0, pl_N dn, pl_N dg, pl_N dl, had) x (nI m) := by
  subst hx
  have h7 := pl_p7 hc
  exact ⟨c + 1, pl_yA2 hs hn hl hc (by omega) h1 h0 c 0 (Nat.zero_add c) (fun i' h => absurd h (Nat.not_lt_zero i')) (fun i' j' _ h => absurd h (Nat.not_lt_zero i'))⟩
end
/-- what had holds when the states ahead of cell i have been gone out from -/
def pl_A (T : Nat → Nat → Prop) (P : Nat → Prop) (i j : Nat) : Prop := (j < 256 ∧ P j) ∨ ∃ k t, t < 256 ∧ j / 256 = k + 1 ∧ k * 256 + t < i ∧ pl_R T P k t ∧ T t (j % 256)
theorem pl_A_row {T : Nat → Nat → Prop} {P : Nat → Prop} {i j : Nat} : ∀ k, j / 256 = k → k * 256 ≤ i → (pl_A T P i j ↔ pl_R T P k (j % 256)) := by
  intro k e hi
  cases k with
  | zero =>
    have e2 : j % 256 = j := by omega
    rw [e2]
    constructor
    · rintro (⟨_, h⟩ | ⟨k, t, _, e', _⟩)
      · exact h
      · omega
    · intro h
      exact Or.inl ⟨by omega, h⟩
  | succ k =>
    constructor
    · rintro (⟨h, _⟩ | ⟨k', t, ht, e', _, hR, hT⟩)
      · omega
      · obtain rfl : k' = k := by omega
        exact ⟨t, ht, hR, hT⟩
    · rintro ⟨t, ht, hR, hT⟩
      exact Or.inr ⟨k, t, ht, e, by omega, hR, hT⟩
theorem pl_A_0 {T : Nat → Nat → Prop} {P : Nat → Prop} {j : Nat} : pl_A T P 0 j ↔ j < 256 ∧ P j := by
  constructor
  · rintro (h | ⟨k, t, _, _, h, _⟩)
    · exact h
    · exact absurd h (Nat.not_lt_zero _)
  · exact Or.inl
theorem pl_A_s {T : Nat → Nat → Prop} {P : Nat → Prop} {i j k t : Nat} (hi : i = k * 256 + t) (ht : t < 256) : pl_A T P (i + 1) j ↔ pl_A T P i j ∨ (j / 256 = k + 1 ∧ pl_R T P k t ∧ T t (j % 256)) := by
  constructor
  · rintro (h | ⟨k', t', ht', e', h, hR, hT⟩)
    · exact Or.inl (Or.inl h)
    · by_cases z : k' * 256 + t' = i
      · obtain rfl : k' = k := by omega
        obtain rfl : t' = t := by omega
        exact Or.inr ⟨e', hR, hT⟩
      · exact Or.inl (Or.inr ⟨k', t', ht', e', by omega, hR, hT⟩)
  · rintro ((h | ⟨k', t', ht', e', h, hR, hT⟩) | ⟨e', hR, hT⟩)
    · exact Or.inl h
    · exact Or.inr ⟨k', t', ht', e', by omega, hR, hT⟩
    · exact Or.inr ⟨k, t, ht, e', by omega, hR, hT⟩
theorem pl_rem {i : Nat} (hi : i < 2 ^ 31) : nI i - nI i / 256 * 256 = nI (i % 256) := pk_rem (d := 256) hi (by decide) (by decide)
theorem pl_div {i : Nat} (hi : i < 2 ^ 31) : nI i / 256 = nI (i / 256) := pk_div (d := 256) hi (by decide) (by decide)
theorem pl_m256 (k : Nat) : nI k * 256 = nI (k * 256) := pk_mul k 256
theorem pl_a256 (k : Nat) : nI k + 256 = nI (k + 256) := nI_add k 256
theorem pl_row {i a : Nat} (hi : i < 2 ^ 31) : ((nI i / 256) * 256 + 256) + nI a = nI (i / 256 * 256 + 256 + a) := by
  rw [pl_div hi, pl_m256, pl_a256, nI_add]
section
variable {dn dg dl : Nat → Nat} {c : Nat} {s0 : Int32} {had : Nat → Int32} {P : Nat → Prop}
theorem pl_yS1 {post : SY → Prop} {J33 : Int32 → (Nat → Int32) → (Nat → Int32) → (Nat → Int32) → (Nat → Int32) → Prop} {i k t : Nat} (hc : c ≤ 7) (hn : ∀ i, dn i < 256) (hg : ∀ i, dg i < 256) (hl : ∀ i, dl i < 256)
    (hi : i = k * 256 + t) (ht : t < 256) (h2 : i < 2048) (hR : pl_R (pl_T dn dg dl c) P k t)
    (hp : ∀ had : Nat → Int32, (∀ j, j < 2304 → (¬ had j = 0 ↔ pl_A (pl_T dn dg dl c) P (i + 1) j)) → J33 (nI (i + 1)) (pl_N dn) (pl_N dg) (pl_N dl) had) :
    ∀ d m (had : Nat → Int32), m + d = 2 ^ c → (∀ j, j < 2304 → (¬ had j = 0 ↔ pl_A (pl_T dn dg dl c) P i j ∨ ∃ m', m' < m ∧ pl_ok dn dg dl c m' t ∧ j = (k + 1) * 256 + pl_af dg dl c m' t)) →
      wY_setOut_42 post J33 (nI i) (nI c) s0 (d + 1) (nI m) (pl_N dn) (pl_N dg) (pl_N dl) had := by
  have h7 := pl_p7 hc
  have hq : i % 256 = t := by omega
  have hd : i / 256 = k := by omega
  have hA : pl_A (pl_T dn dg dl c) P i i := (pl_A_row k hd (by omega)).mpr (by rw [hq]; exact hR)
  have vi := vp_in_nI (show i < 2304 by omega) (by decide : 2304 < 2 ^ 31)
  intro d
  induction d with
  | zero =>
    intro m had hm hH
    have hm : m = 2 ^ c := hm
    subst hm
    have hz : ¬ had (nI i).toNatClampNeg = 0 := by rw [nI_clamp (by omega)]; exact (hH i (by omega)).mpr (Or.inl hA)
    refine ⟨vi, br_f hz (br_t (by rw [pl_p2 (by omega)]; exact nI_le (Nat.le_refl _) (by omega)) (nm_r (nI_1 i) (hp had fun j hj => (hH j hj).trans ?_)))⟩
    rw [pl_A_s hi ht]
    refine or_congr Iff.rfl ⟨?_, ?_⟩
    · rintro ⟨m', hm', ok, e⟩
      have ha : pl_af dg dl c m' t < 256 := pl_af_lt hg ht
      exact ⟨by omega, hR, m', hm', ok, by omega⟩
    · rintro ⟨e, _, m', hm', ok, e'⟩
      exact ⟨m', hm', ok, by omega⟩
  | succ d ih =>
    intro m had hm hH
    have hz : ¬ had (nI i).toNatClampNeg = 0 := by rw [nI_clamp (by omega)]; exact (hH i (by omega)).mpr (Or.inl hA)
    refine ⟨vi, br_f hz (br_f (by rw [pl_p2 (by omega)]; exact nI_ge (by omega) (by omega)) ⟨by decide, pl_yA (s := t) (by rw [pl_rem (by omega), hq]) ht hn hl hc (by omega) (fun ok => ?_) (fun no => ?_)⟩)⟩
    · have ha : pl_af dg dl c m t < 256 := pl_af_lt hg ht
      have ex := pl_row (i := i) (a := pl_af dg dl c m t) (by omega)
      rw [hd] at ex
      refine br_f (nI_pos (by omega)) ⟨by decide, pk_in (k * 256 + 256 + pl_af dg dl c m t) 2304 (by omega) ex (by decide), nm_r (e' := upd had (k * 256 + 256 + pl_af dg dl c m t) (vp_nar .boolean 1)) (by rw [ex, nI_clamp (by omega)]) (nm_r (nI_1 m) (ih (m + 1) _ (by omega) fun j hj => ?_))⟩
      rw [pl_ex_s (D := fun m' => pl_ok dn dg dl c m' t ∧ j = (k + 1) * 256 + pl_af dg dl c m' t)]
      by_cases e : j = k * 256 + 256 + pl_af dg dl c m t
      · rw [e, pk_us, pl_nar1]
        exact ⟨fun _ => Or.inr (Or.inr ⟨ok, by omega⟩), fun _ => by decide⟩
      · rw [pk_un e, hH j hj]
        refine or_congr Iff.rfl ⟨Or.inl, fun z => z.elim id fun y => absurd y.2 (by omega)⟩
    · refine br_t (by decide) (nm_r (nI_1 m) (ih (m + 1) had (by omega) fun j hj => (hH j hj).trans (or_congr Iff.rfl ?_)))
      rw [pl_ex_s (D := fun m' => pl_ok dn dg dl c m' t ∧ j = (k + 1) * 256 + pl_af dg dl c m' t)]
      exact ⟨Or.inl, fun z => z.elim id fun y => absurd y.1 no⟩
/-- had, when setOut is through -/
def pl_Hd (had : Nat → Int32) (R : Nat → Nat → Prop) : Prop := ∀ j, j < 2304 → (¬ had j = 0 ↔ R (j / 256) (j % 256))
theorem pl_yS2 {post : SY → Prop} (hc : c ≤ 7) (hn : ∀ i, dn i < 256) (hg : ∀ i, dg i < 256) (hl : ∀ i, dl i < 256)
    (hp : ∀ had, pl_Hd had (pl_R (pl_T dn dg dl c) P) → post (nI c, s0, pl_N dn, pl_N dg, pl_N dl, had)) :
    ∀ d i (had : Nat → Int32), i + d = 2048 → (∀ j, j < 2304 → (¬ had j = 0 ↔ pl_A (pl_T dn dg dl c) P i j)) →
      wY_setOut_33 post (nI c) s0 (d + 1) (nI i) (pl_N dn) (pl_N dg) (pl_N dl) had := by
  intro d
  induction d with
  | zero =>
    intro i had hi hH
    obtain rfl : i = 2048 := hi
    exact br_t (nI_le (a := 2048) (Nat.le_refl _) (by decide)) (hp had fun j hj => (hH j hj).trans (pl_A_row (j / 256) rfl (by omega)))
  | succ d ih =>
    intro i had hi hH
    refine br_f (nI_ge (b := 2048) (by omega) (by decide)) ?_
    have hq : i = i / 256 * 256 + i % 256 := by omega
    have row := pl_A_row (T := pl_T dn dg dl c) (P := P) (i := i) (j := i) (i / 256) rfl (by omega)
    by_cases hR : pl_R (pl_T dn dg dl c) P (i / 256) (i % 256)
    · refine ⟨2 ^ c + 1, pl_yS1 hc hn hg hl hq (by omega) (by omega) hR (fun had hH => ih (i + 1) had (by omega) hH) (2 ^ c) 0 had (Nat.zero_add _) fun j hj => (hH j hj).trans ⟨Or.inl, ?_⟩⟩
      rintro (h | ⟨m', h, _⟩)
      · exact h
      · exact absurd h (Nat.not_lt_zero m')
    · have hz : had (nI i).toNatClampNeg = 0 := by
        rw [nI_clamp (by omega)]
        exact Classical.byContradiction fun z => hR (row.mp ((hH i (by omega)).mp z))
      refine ⟨1, vp_in_nI (show i < 2304 by omega) (by decide), br_t hz (nm_r (nI_1 i) (ih (i + 1) had (by omega) fun j hj => (hH j hj).trans ?_))⟩
      rw [pl_A_s hq (by omega)]
      exact ⟨Or.inl, fun z => z.elim id fun y => absurd y.2.1 hR⟩
theorem pl_yS3 {post : SY → Prop} {s : Nat} (hs : s < 256) (hc : c ≤ 7) (hn : ∀ i, dn i < 256) (hg : ∀ i, dg i < 256) (hl : ∀ i, dl i < 256)
    (hp : ∀ had, pl_Hd had (pl_R (pl_T dn dg dl c) (fun x => x = s)) → post (nI c, s0, pl_N dn, pl_N dg, pl_N dl, had)) :
    ∀ d i (had : Nat → Int32), i + d = 2304 → (∀ j, j < i → (¬ had j = 0 ↔ j = s)) → wY_setOut_2 post (nI s) (nI c) s0 (d + 1) (nI i) (pl_N dn) (pl_N dg) (pl_N dl) had := by
  intro d
  induction d with
  | zero =>
    intro i had hi hH
    obtain rfl : i = 2304 := hi
    refine br_t (nI_le (a := 2304) (Nat.le_refl _) (by decide)) ⟨2049, pl_yS2 hc hn hg hl hp 2048 0 had rfl fun j hj => (hH j hj).trans ?_⟩
    rw [pl_A_0]
    exact ⟨fun e => ⟨by omega, e⟩, fun e => e.2⟩
  | succ d ih =>
    intro i had hi hH
    have vi := vp_in_nI (show i < 2304 by omega) (by decide : 2304 < 2 ^ 31)
    refine br_f (nI_ge (b := 2304) (by omega) (by decide)) (pk_eq i s (fun e => ⟨vi, nm_r (pl_up (by omega)) (nm_r (nI_1 i) (ih (i + 1) _ (by omega) fun j hj => ?_))⟩) (fun e => ⟨vi, nm_r (pl_up (by omega)) (nm_r (nI_1 i) (ih (i + 1) _ (by omega) fun j hj => ?_))⟩) rfl rfl (by omega) (by omega))
    · by_cases z : j = i
      · rw [z, pk_us, pl_nar1]
        exact ⟨fun _ => e, fun _ => by decide⟩
      · rw [pk_un z]
        exact hH j (by omega)
    · by_cases z : j = i
      · rw [z, pk_us, pl_nar0]
        exact ⟨fun h => absurd rfl h, fun h => absurd h e⟩
      · rw [pk_un z]
        exact hH j (by omega)
theorem pl_yS {post : SY → Prop} {s : Nat} (hs : s < 256) (hc : c ≤ 7) (hn : ∀ i, dn i < 256) (hg : ∀ i, dg i < 256) (hl : ∀ i, dl i < 256)
    (hp : ∀ had, pl_Hd had (pl_R (pl_T dn dg dl c) (fun x => x = s)) → post (nI c, s0, pl_N dn, pl_N dg, pl_N dl, had)) :
    wpY_setOut post (nI c, s0, pl_N dn, pl_N dg, pl_N dl, had) (nI s) :=
  ⟨2305, pl_yS3 hs hc hn hg hl hp 2304 0 had rfl fun j hj => absurd hj (Nat.not_lt_zero j)⟩
end
