/-! the reference: what it reads off had; within on both sides; begins -/
section
variable {dn dg dl : Nat → Nat} {c : Nat} {s0 : Int32} {aN aG aL had : Nat → Int32}
theorem pl_ySv1 {post : Int32 → Prop} {R : Nat → Nat → Prop} {g k : Nat} (hg : g < 256) (hk : k ≤ 8) (hH : pl_Hd had R) (h1 : (∃ s, s < 256 ∧ s &&& g = g ∧ R k s) → post 1) (h0 : ¬ (∃ s, s < 256 ∧ s &&& g = g ∧ R k s) → post 0) :
    ∀ d t, t + d = 256 → (∀ t', t' < t → ¬ (t' &&& g = g ∧ R k t')) → wY_served_2 post (nI g) (nI k) (nI c) s0 aN aG aL had (d + 1) (nI t) := by
  intro d
  induction d with
  | zero =>
    intro t ht hn
    obtain rfl : t = 256 := ht
    refine br_t (nI_le (a := 256) (Nat.le_refl _) (by decide)) (h0 ?_)
    rintro ⟨s, hs, h⟩
    exact hn s hs h
  | succ d ih =>
    intro t ht hn
    have ex : nI k * 256 + nI t = nI (k * 256 + t) := by rw [pl_m256, nI_add]
    have hj := hH (k * 256 + t) (by omega)
    rw [show (k * 256 + t) / 256 = k by omega, show (k * 256 + t) % 256 = t by omega] at hj
    have go : ¬ (t &&& g = g ∧ R k t) → wY_served_2 post (nI g) (nI k) (nI c) s0 aN aG aL had (d + 1) (nI (t + 1)) := by
      intro hno
      refine ih (t + 1) (by omega) fun t' ht' => ?_
      by_cases e : t' = t
      · subst e; exact hno
      · exact hn t' (by omega)
    have cl : (nI k * 256 + nI t).toNatClampNeg = k * 256 + t := pk_cl _ ex (by omega)
    refine br_f (nI_ge (b := 256) (by omega) (by decide)) ⟨pk_in (k * 256 + t) 2304 (by omega) ex (by decide), br_c (fun z => nm_r (nI_1 t) (go fun y => ?_)) (fun z => ?_)⟩
    · rw [cl] at z
      exact hj.mpr y.2 z
    · rw [cl] at z
      exact pk_eq (g &&& (t ^^^ 4294967295)) 0 (fun e => h1 ⟨t, by omega, (pl_sub (by omega)).mp e, hj.mp z⟩) (fun e => nm_r (nI_1 t) (go fun y => e ((pl_sub (by omega)).mpr y.1))) (by rw [pl_nt, nx_and]) rfl (pl_an hg) (by decide)
theorem pl_ySv {post : Int32 → Prop} {R : Nat → Nat → Prop} {x y : Int32} {g k : Nat} (hx : x = nI g) (hy : y = nI k) (hg : g < 256) (hk : k ≤ 8) (hH : pl_Hd had R) (h1 : (∃ s, s < 256 ∧ s &&& g = g ∧ R k s) → post 1) (h0 : ¬ (∃ s, s < 256 ∧ s &&& g = g ∧ R k s) → post 0) :
    wpY_served post (nI c, s0, aN, aG, aL, had) x y := by
  subst hx hy
  exact ⟨257, pl_ySv1 hg hk hH h1 h0 256 0 rfl fun t' h => absurd h (Nat.not_lt_zero t')⟩
theorem pl_yF1 {post : Int32 → SY → Prop} {R : Nat → Nat → Prop} {g : Nat} (hg : g < 256) (hH : pl_Hd had R)
    (h9 : (∀ j, j < 9 → ¬ ∃ s, s < 256 ∧ s &&& g = g ∧ R j s) → post (-3) (nI c, s0, aN, aG, aL, had))
    (h8 : ∀ k, k ≤ 8 → (∃ s, s < 256 ∧ s &&& g = g ∧ R k s) → (∀ j, j < k → ¬ ∃ s, s < 256 ∧ s &&& g = g ∧ R j s) → post (nI k) (nI c, s0, aN, aG, aL, had)) :
    ∀ d k, k + d = 9 → (∀ j, j < k → ¬ ∃ s, s < 256 ∧ s &&& g = g ∧ R j s) → wY_fewest_20 post (nI g) (nI c) s0 aN aG aL had (d + 1) (nI k) := by
  intro d
  induction d with
  | zero =>
    intro k hk hn
    obtain rfl : k = 9 := hk
    exact br_t (nI_lt (a := 8) (b := 9) (by decide) (by decide)) (h9 hn)
  | succ d ih =>
    intro k hk hn
    refine br_f (nI_nlt (a := 8) (by omega) (by decide)) (pl_ySv rfl rfl hg (by omega) hH (fun y => br_f (by decide) (h8 k (by omega) y hn)) (fun y => br_t rfl (nm_r (nI_1 k) (ih (k + 1) (by omega) fun j hj => ?_))))
    by_cases e : j = k
    · subst e; exact y
    · exact hn j (by omega)
theorem pl_yF_no {post : Int32 → SY → Prop} {p : Int32} (h : p < 0 ∨ nI 256 ≤ p) (hp : post (-1) (nI c, s0, aN, aG, aL, had)) : wpY_fewest post (nI c, s0, aN, aG, aL, had) p := by
  unfold wpY_fewest
  exact pl_yIS_no h (br_t rfl hp)
theorem pl_yF {post : Int32 → SY → Prop} {g s : Nat} (hgl : g < 256) (hs : s < 256) (hc : c ≤ 7) (hn : ∀ i, dn i < 256) (hg : ∀ i, dg i < 256) (hl : ∀ i, dl i < 256)
    (h9 : ∀ had, (∀ j, j < 9 → ¬ ∃ x, x < 256 ∧ x &&& g = g ∧ pl_R (pl_T dn dg dl c) (fun y => y = s) j x) → post (-3) (nI c, nI s, pl_N dn, pl_N dg, pl_N dl, had))
    (h8 : ∀ had k, k ≤ 8 → (∃ x, x < 256 ∧ x &&& g = g ∧ pl_R (pl_T dn dg dl c) (fun y => y = s) k x) → (∀ j, j < k → ¬ ∃ x, x < 256 ∧ x &&& g = g ∧ pl_R (pl_T dn dg dl c) (fun y => y = s) j x) → post (nI k) (nI c, nI s, pl_N dn, pl_N dg, pl_N dl, had)) :
    wpY_fewest post (nI c, nI s, pl_N dn, pl_N dg, pl_N dl, had) (nI g) := by
  unfold wpY_fewest
  refine pl_yIS_ok hgl (br_f (by decide) ?_)
  refine pl_yS hs hc hn hg hl fun had hH => ?_
  exact ⟨10, pl_yF1 hgl hH (h9 had) (h8 had) 9 0 rfl fun j h => absurd h (Nat.not_lt_zero j)⟩
theorem pl_w_s {R : Nat → Prop} {f : Nat → Nat} {i w : Nat} (h : ∀ b, w.testBit b = true ↔ ∃ j, j < i ∧ R j ∧ (f j).testBit b = true) (hR : R i) : ∀ b, (w ||| f i).testBit b = true ↔ ∃ j, j < i + 1 ∧ R j ∧ (f j).testBit b = true := by
  intro b
  rw [pl_ex_s (D := fun j => R j ∧ (f j).testBit b = true), Nat.testBit_or, Bool.or_eq_true, h b]
  exact or_congr Iff.rfl ⟨fun z => ⟨hR, z⟩, fun z => z.2⟩
theorem pl_w_n {R : Nat → Prop} {f : Nat → Nat} {i w : Nat} (h : ∀ b, w.testBit b = true ↔ ∃ j, j < i ∧ R j ∧ (f j).testBit b = true) (hR : ¬ R i) : ∀ b, w.testBit b = true ↔ ∃ j, j < i + 1 ∧ R j ∧ (f j).testBit b = true := by
  intro b
  rw [pl_ex_s (D := fun j => R j ∧ (f j).testBit b = true), h b]
  exact ⟨Or.inl, fun z => z.elim id fun y => absurd y.1 hR⟩
theorem pl_w_0 {R : Nat → Prop} {f : Nat → Nat} : ∀ b, (0 : Nat).testBit b = true ↔ ∃ j, j < 0 ∧ R j ∧ (f j).testBit b = true := by
  intro b
  rw [Nat.zero_testBit]
  exact ⟨fun z => absurd z (by decide), fun ⟨j, h, _⟩ => absurd h (Nat.not_lt_zero j)⟩
theorem pl_yW1 {post : Int32 → SY → Prop} {R : Nat → Nat → Prop} {k : Nat} (hk : k ≤ 8) (hH : pl_Hd had R)
    (hp : ∀ w, (∀ b, w.testBit b = true ↔ ∃ j, j < 256 * (k + 1) ∧ R (j / 256) (j % 256) ∧ (j % 256).testBit b = true) → post (nI w) (nI c, s0, aN, aG, aL, had)) :
    ∀ d i w, i + d = 256 * (k + 1) → (∀ b, w.testBit b = true ↔ ∃ j, j < i ∧ R (j / 256) (j % 256) ∧ (j % 256).testBit b = true) → wY_within_24 post (nI k) (nI c) s0 aN aG aL had (d + 1) (nI w) (nI i) := by
  have ex : (256 : Int32) * (nI k + 1) = nI (256 * (k + 1)) := by
    rw [nI_1 k]
    exact pk_mul 256 (k + 1)
  intro d
  induction d with
  | zero =>
    intro i w hi hw
    have hi : i = 256 * (k + 1) := hi
    subst hi
    exact br_t (by rw [ex]; exact nI_le (Nat.le_refl _) (by omega)) (hp w hw)
  | succ d ih =>
    intro i w hi hw
    have hj := hH i (by omega)
    have cl : (nI i).toNatClampNeg = i := nI_clamp (by omega)
    refine br_f (by rw [ex]; exact nI_ge (by omega) (by omega)) ⟨vp_in_nI (show i < 2304 by omega) (by decide), br_c (fun z => nm_r (nI_1 i) (ih (i + 1) w (by omega) (pl_w_n (R := fun j => R (j / 256) (j % 256)) (f := fun j => j % 256) hw fun y => ?_))) (fun z => ⟨by decide, nm_r (e' := nI (w ||| i % 256)) (by rw [pl_rem (by omega), pl_or]) (nm_r (nI_1 i) (ih (i + 1) _ (by omega) (pl_w_s (R := fun j => R (j / 256) (j % 256)) (f := fun j => j % 256) hw ?_)))⟩)⟩
    · rw [cl] at z
      exact hj.mpr y z
    · rw [cl] at z
      exact hj.mp z
theorem pl_w_eq {T : Nat → Nat → Prop} {P : Nat → Prop} (hT : ∀ s, s < 256 → T s s) {k w w' : Nat} (h : ∀ b, w.testBit b = true ↔ ∃ t, t < 256 ∧ pl_R T P k t ∧ t.testBit b = true)
    (h' : ∀ b, w'.testBit b = true ↔ ∃ j, j < 256 * (k + 1) ∧ pl_R T P (j / 256) (j % 256) ∧ (j % 256).testBit b = true) : w' = w := by
  apply Nat.eq_of_testBit_eq
  intro b
  rw [Bool.eq_iff_iff, h b, h' b]
  constructor
  · rintro ⟨j, hj, hR, hb⟩
    exact ⟨j % 256, by omega, pl_R_le hT (by omega) (by omega) hR, hb⟩
  · rintro ⟨t, ht, hR, hb⟩
    refine ⟨k * 256 + t, by omega, ?_, ?_⟩
    · rw [show (k * 256 + t) / 256 = k by omega, show (k * 256 + t) % 256 = t by omega]; exact hR
    · rw [show (k * 256 + t) % 256 = t by omega]; exact hb
theorem pl_xW1 {sn sg sl sc lt : Nat → Int32} {post : Int32 → SX → Prop} {R : Nat → Nat → Prop} {v : Nat → Nat} {k : Nat} (hk : k ≤ 8) (hL : pl_L lt v) (hM : pl_Me R 8 v)
    (hp : ∀ w, (∀ b, w.testBit b = true ↔ ∃ t, t < 256 ∧ R k t ∧ t.testBit b = true) → post (nI w) (nI c, s0, aN, aG, aL, sn, sg, sl, sc, lt)) :
    ∀ d t w, t + d = 256 → (∀ b, w.testBit b = true ↔ ∃ j, j < t ∧ R k j ∧ j.testBit b = true) → wX_within_17 post (nI k) (nI c) s0 aN aG aL sn sg sl sc lt (d + 1) (nI w) (nI t) := by
  intro d
  induction d with
  | zero =>
    intro t w ht hw
    obtain rfl : t = 256 := ht
    exact br_t (nI_le (a := 256) (Nat.le_refl _) (by decide)) (hp w hw)
  | succ d ih =>
    intro t w ht hw
    have h8 := (hM t (by omega)).2
    have hk2 := (hM t (by omega)).1 k hk
    exact br_f (nI_ge (b := 256) (by omega) (by decide)) ⟨vp_in_nI (show t < 256 by omega) (by decide), pk_lt k (v t)
      (fun e => nm_r (nI_1 t) (ih (t + 1) w (by omega) (pl_w_n (R := R k) (f := fun j => j) hw fun y => absurd (hk2.mpr y) (by omega))))
      (fun e => nm_r (pl_or w t) (nm_r (nI_1 t) (ih (t + 1) _ (by omega) (pl_w_s (R := R k) (f := fun j => j) hw (hk2.mp e)))))
      rfl (pl_L_g hL (by omega)) (by omega) (by omega)⟩
theorem pl_yB1 {post : Int32 → SY → Prop} {s g i l : Nat} (hgl : g < 256) (hs : s < 256) (hc : c ≤ 7) (hi : i < c) (hl1 : 1 ≤ l) (hl8 : l ≤ 8) (hn : ∀ i, dn i < 256) (hg : ∀ i, dg i < 256) (hl : ∀ i, dl i < 256)
    (h1 : ∀ had, (∃ m, pl_D dn dg dl c s i m ∧ ∃ x, x < 256 ∧ x &&& g = g ∧ pl_R (pl_T dn dg dl c) (fun y => y = pl_af dg dl c m s) (l - 1) x) → post 1 (nI c, nI s, pl_N dn, pl_N dg, pl_N dl, had))
    (h0 : ∀ had, ¬ (∃ m, pl_D dn dg dl c s i m ∧ ∃ x, x < 256 ∧ x &&& g = g ∧ pl_R (pl_T dn dg dl c) (fun y => y = pl_af dg dl c m s) (l - 1) x) → post 0 (nI c, nI s, pl_N dn, pl_N dg, pl_N dl, had)) :
    ∀ d m had, m + d = 2 ^ c → (∀ m', m' < m → ¬ (pl_D dn dg dl c s i m' ∧ ∃ x, x < 256 ∧ x &&& g = g ∧ pl_R (pl_T dn dg dl c) (fun y => y = pl_af dg dl c m' s) (l - 1) x)) →
      wY_begins_24 post (nI g) (nI i) (nI l) (d + 1) (nI m) (nI c) (nI s) (pl_N dn) (pl_N dg) (pl_N dl) had := by
  have h7 := pl_p7 hc
  have el : nI l - 1 = nI (l - 1) := pk_sub (b := 1) hl1
  intro d
  induction d with
  | zero =>
    intro m had hm hno
    have hm : m = 2 ^ c := hm
    subst hm
    refine br_t (by rw [pl_p2 (by omega)]; exact nI_le (Nat.le_refl _) (by omega)) (h0 had ?_)
    rintro ⟨m', hD, hx⟩
    exact hno m' hD.1 ⟨hD, hx⟩
  | succ d ih =>
    intro m had hm hno
    have go : ∀ had, ¬ (pl_D dn dg dl c s i m ∧ ∃ x, x < 256 ∧ x &&& g = g ∧ pl_R (pl_T dn dg dl c) (fun y => y = pl_af dg dl c m s) (l - 1) x) →
        wY_begins_24 post (nI g) (nI i) (nI l) (d + 1) (nI (m + 1)) (nI c) (nI s) (pl_N dn) (pl_N dg) (pl_N dl) had := by
      intro had hh
      refine ih (m + 1) had (by omega) fun m' hm' => ?_
      by_cases e : m' = m
      · subst e; exact hh
      · exact hno m' (by omega)
    refine br_f (by rw [pl_p2 (by omega)]; exact nI_ge (by omega) (by omega)) (pk_eq (m / 2 ^ i % 2) 0 (fun e => br_t (by decide) (nm_r (nI_1 m) (go had fun y => absurd y.1.2.1 (by omega)))) (fun e => pl_yA rfl hs hn hl hc (by omega) (fun ok => ?_) (fun no => br_t (by decide) (nm_r (nI_1 m) (go had fun y => no y.1.2.2)))) (pl_bit (by omega) (by omega)) rfl (by omega) (by decide))
    have ha : pl_af dg dl c m s < 256 := pl_af_lt hg hs
    have hD : pl_D dn dg dl c s i m := ⟨by omega, by omega, ok⟩
    refine br_f (nI_pos (by omega)) (pl_yS ha hc hn hg hl fun had hH => ?_)
    exact pl_ySv rfl el hgl (by omega) hH (fun y => br_f (by decide) (h1 had ⟨m, hD, y⟩)) (fun y => br_t rfl (nm_r (nI_1 m) (go had fun z => y z.2)))
/-- the plan's first layer: what the class compares and what the reference looks for are one -/
theorem pl_begins {s g i l l' : Nat} (hs : s < 256) (hl1 : 1 ≤ l) (hl8 : l ≤ 8)
    (h : pl_Le (pl_R (pl_T dn dg dl c) (fun x => x = s)) (fun s => s &&& g = g) 256 l)
    (h' : pl_Le (pl_R (pl_T dn dg dl c) (fun x => ∃ m, pl_D dn dg dl c s i m ∧ x = pl_af dg dl c m s)) (fun s => s &&& g = g) 256 l') :
    l' = l - 1 ↔ ∃ m, pl_D dn dg dl c s i m ∧ ∃ x, x < 256 ∧ x &&& g = g ∧ pl_R (pl_T dn dg dl c) (fun y => y = pl_af dg dl c m s) (l - 1) x := by
  have low : l - 1 ≤ l' := by
    by_cases z : l - 1 ≤ l'
    · exact z
    · obtain ⟨x, hx, hG, hR⟩ := (h'.2 l' (by omega)).mp (Nat.le_refl l')
      have hR2 : pl_R (pl_T dn dg dl c) (fun x => x = s) (l' + 1) x := pl_R_sh (fun y hy => by
        obtain ⟨m, hD, e⟩ := hy
        exact ⟨s, hs, rfl, m, hD.1, hD.2.2, e.symm⟩) l' x hR
      have := (h.2 (l' + 1) (by omega)).mpr ⟨x, hx, hG, hR2⟩
      omega
  have key := h'.2 (l - 1) (by omega)
  constructor
  · intro e
    obtain ⟨x, hx, hG, hR⟩ := key.mp (by omega)
    obtain ⟨m, hD, hR⟩ := (pl_R_un (pl_D dn dg dl c s i) (fun m => pl_af dg dl c m s) (l - 1) x).mp hR
    exact ⟨m, hD, x, hx, hG, hR⟩
  · rintro ⟨m, hD, x, hx, hG, hR⟩
    have := key.mpr ⟨x, hx, hG, (pl_R_un (pl_D dn dg dl c s i) (fun m => pl_af dg dl c m s) (l - 1) x).mpr ⟨m, hD, hR⟩⟩
    omega
end
