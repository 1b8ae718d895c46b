/-! the class: the spread over the states, and what is read off it -/
/-- layersTo holds these numbers -/
def pl_L (lt : Nat → Int32) (v : Nat → Nat) : Prop := ∀ s, s < 256 → lt s = nI (v s)
theorem pl_L_up {lt : Nat → Int32} {v : Nat → Nat} {a x : Nat} (h : pl_L lt v) : pl_L (upd lt a (nI x)) (fun s => if s = a then x else v s) := by
  intro s hs
  by_cases e : s = a
  · subst e
    dsimp only
    rw [pk_us, if_pos rfl]
  · dsimp only
    rw [pk_un e, if_neg e]
    exact h s hs
theorem pl_L_g {lt : Nat → Int32} {v : Nat → Nat} {s : Nat} (h : pl_L lt v) (hs : s < 256) : lt (nI s).toNatClampNeg = nI (v s) := by
  rw [nI_clamp (by omega)]
  exact h s hs
theorem pl_ex_s {D : Nat → Prop} {m : Nat} : (∃ x, x < m + 1 ∧ D x) ↔ (∃ x, x < m ∧ D x) ∨ D m := by
  constructor
  · rintro ⟨x, hx, h⟩
    by_cases e : x = m
    · subst e; exact Or.inr h
    · exact Or.inl ⟨x, by omega, h⟩
  · rintro (⟨x, hx, h⟩ | h)
    · exact ⟨x, by omega, h⟩
    · exact ⟨m, Nat.lt_succ_self m, h⟩
section
variable {dn dg dl : Nat → Nat} {c : Nat} {s0 : Int32} {aN aG aL sn sg sl sc lt : Nat → Int32} {P : Nat → Prop}
theorem pl_xRF1 {post : SX → Prop} {R : Nat → Nat → Prop} {Q : Nat → Prop} {t k : Nat} (hc : c ≤ 7) (hn : ∀ i, dn i < 256) (hg : ∀ i, dg i < 256) (ht : t < 256) (hk : k < 8)
    (hR : ∀ j s, s < 256 → j ≤ k → R j s → R k s) (hJ : pl_J dn dg dl c (2 ^ c) sn sg sl sc)
    (hp : ∀ lt v, pl_L lt v → pl_Mi R k (fun s => Q s ∨ pl_T dn dg dl c t s) v → post (nI c, s0, aN, aG, aL, sn, sg, sl, sc, lt)) :
    ∀ d m lt v, m + d = 2 ^ c → pl_L lt v → pl_Mi R k (fun s => Q s ∨ ∃ m', m' < m ∧ pl_ok dn dg dl c m' t ∧ pl_af dg dl c m' t = s) v →
      wX_reachFrom_2 post (nI t) (nI (k + 1)) (nI c) s0 (d + 1) (nI m) aN aG aL sn sg sl sc lt := by
  have h7 := pl_p7 hc
  intro d
  induction d with
  | zero =>
    intro m lt v hm hL hM
    have hm : m = 2 ^ c := hm
    subst hm
    exact br_t (by rw [pl_p2 (by omega)]; exact nI_le (Nat.le_refl _) (by omega)) (hp lt v hL hM)
  | succ d ih =>
    intro m lt v hm hL hM
    refine br_f (by rw [pl_p2 (by omega)]; exact nI_ge (by omega) (by omega)) (pl_xCB hc hn ht (by omega) hJ (fun ok => br_f (by decide) (pl_xSA hc (by omega) hJ ?_)) (fun no => br_t rfl (nm_r (nI_1 m) (ih (m + 1) lt v (by omega) hL (pl_Mi_q (fun s hs => ?_) hM)))))
    · have ha : pl_af dg dl c m t < 256 := pl_af_lt hg ht
      have va := vp_in_nI ha (by decide : 256 < 2 ^ 31)
      have h9 := (hM _ ha).2.2
      have q : ∀ s, s < 256 → (((Q s ∨ ∃ m', m' < m ∧ pl_ok dn dg dl c m' t ∧ pl_af dg dl c m' t = s) ∨ s = pl_af dg dl c m t) ↔ (Q s ∨ ∃ m', m' < m + 1 ∧ pl_ok dn dg dl c m' t ∧ pl_af dg dl c m' t = s)) := by
        intro s hs
        rw [pl_ex_s (D := fun m' => pl_ok dn dg dl c m' t ∧ pl_af dg dl c m' t = s), or_assoc]
        have e : s = pl_af dg dl c m t ↔ (pl_ok dn dg dl c m t ∧ pl_af dg dl c m t = s) := ⟨fun e => ⟨ok, e.symm⟩, fun e => e.2.symm⟩
        rw [e]
      exact ⟨va, pk_le (v (pl_af dg dl c m t)) (k + 1)
        (fun e => nm_r (nI_1 m) (ih (m + 1) lt v (by omega) hL (pl_Mi_q q (pl_Mi_skip hM ha e))))
        (fun e => ⟨va, nm_r (pl_up (by omega)) (nm_r (nI_1 m) (ih (m + 1) _ _ (by omega) (pl_L_up hL) (pl_Mi_q q (pl_Mi_put hR hM ha e))))⟩)
        (pl_L_g hL ha) rfl (by omega) (by omega)⟩
    · rw [pl_ex_s (D := fun m' => pl_ok dn dg dl c m' t ∧ pl_af dg dl c m' t = s)]
      exact or_congr Iff.rfl ⟨Or.inl, fun z => z.elim id fun y => absurd y.1 no⟩
theorem pl_xRF {post : SX → Prop} {R : Nat → Nat → Prop} {Q : Nat → Prop} {t k : Nat} {v : Nat → Nat} (hc : c ≤ 7) (hn : ∀ i, dn i < 256) (hg : ∀ i, dg i < 256) (ht : t < 256) (hk : k < 8)
    (hR : ∀ j s, s < 256 → j ≤ k → R j s → R k s) (hJ : pl_J dn dg dl c (2 ^ c) sn sg sl sc) (hL : pl_L lt v) (hM : pl_Mi R k Q v)
    (hp : ∀ lt v, pl_L lt v → pl_Mi R k (fun s => Q s ∨ pl_T dn dg dl c t s) v → post (nI c, s0, aN, aG, aL, sn, sg, sl, sc, lt)) :
    wpX_reachFrom post (nI c, s0, aN, aG, aL, sn, sg, sl, sc, lt) (nI t) (nI k + 1) := by
  rw [nI_1 k]
  refine ⟨2 ^ c + 1, pl_xRF1 hc hn hg ht hk hR hJ hp (2 ^ c) 0 lt v (Nat.zero_add _) hL (pl_Mi_q (fun s hs => ?_) hM)⟩
  constructor
  · exact Or.inl
  · rintro (h | ⟨m', h, _⟩)
    · exact h
    · exact absurd h (Nat.not_lt_zero m')
theorem pl_xSp1 {post : SX → Prop} {J2 : Int32 → Int32 → Int32 → (Nat → Int32) → (Nat → Int32) → (Nat → Int32) → (Nat → Int32) → (Nat → Int32) → (Nat → Int32) → (Nat → Int32) → (Nat → Int32) → Prop} {k : Nat}
    (hc : c ≤ 7) (hn : ∀ i, dn i < 256) (hg : ∀ i, dg i < 256) (hk : k < 8) (hJ : pl_J dn dg dl c (2 ^ c) sn sg sl sc)
    (hp : ∀ lt v, pl_L lt v → pl_Mi (pl_R (pl_T dn dg dl c) P) k (fun s => ∃ t, t < 256 ∧ pl_Ex (pl_R (pl_T dn dg dl c) P) k t ∧ pl_T dn dg dl c t s) v → J2 (nI (k + 1)) (nI c) s0 aN aG aL sn sg sl sc lt) :
    ∀ d t lt v, t + d = 256 → pl_L lt v → pl_Mi (pl_R (pl_T dn dg dl c) P) k (fun s => ∃ t', t' < t ∧ pl_Ex (pl_R (pl_T dn dg dl c) P) k t' ∧ pl_T dn dg dl c t' s) v →
      wX_spread_10 post J2 (nI k) (d + 1) (nI t) (nI c) s0 aN aG aL sn sg sl sc lt := by
  have hR : ∀ j s, s < 256 → j ≤ k → pl_R (pl_T dn dg dl c) P j s → pl_R (pl_T dn dg dl c) P k s := fun j s hs hj h => pl_R_le (fun s hs => pl_T_rf hs) hs hj h
  intro d
  induction d with
  | zero =>
    intro t lt v ht hL hM
    obtain rfl : t = 256 := ht
    exact br_t (nI_le (a := 256) (Nat.le_refl _) (by decide)) (nm_r (nI_1 k) (hp lt v hL hM))
  | succ d ih =>
    intro t lt v ht hL hM
    have h9 := (hM t (by omega)).2.2
    have ex := pl_Mi_ex hM (s := t) (by omega)
    refine br_f (nI_ge (b := 256) (by omega) (by decide)) ⟨vp_in_nI (by omega) (by decide), pk_eq (v t) k (fun e => pl_xRF hc hn hg (by omega) hk hR hJ hL hM fun lt v hL hM => ?_) (fun e => nm_r (nI_1 t) (ih (t + 1) lt v (by omega) hL (pl_Mi_q (fun s hs => ?_) hM))) (pl_L_g hL (by omega)) rfl (by omega) (by omega)⟩
    · refine nm_r (nI_1 t) (ih (t + 1) lt v (by omega) hL (pl_Mi_q (fun s hs => ?_) hM))
      rw [pl_ex_s (D := fun t' => pl_Ex (pl_R (pl_T dn dg dl c) P) k t' ∧ pl_T dn dg dl c t' s)]
      exact or_congr Iff.rfl ⟨fun z => ⟨ex.mp e, z⟩, fun z => z.2⟩
    · rw [pl_ex_s (D := fun t' => pl_Ex (pl_R (pl_T dn dg dl c) P) k t' ∧ pl_T dn dg dl c t' s)]
      exact ⟨Or.inl, fun z => z.elim id fun y => absurd (ex.mpr y.1) e⟩
theorem pl_xSp2 {post : SX → Prop} (hc : c ≤ 7) (hn : ∀ i, dn i < 256) (hg : ∀ i, dg i < 256) (hJ : pl_J dn dg dl c (2 ^ c) sn sg sl sc)
    (hp : ∀ lt v, pl_L lt v → pl_Me (pl_R (pl_T dn dg dl c) P) 8 v → post (nI c, s0, aN, aG, aL, sn, sg, sl, sc, lt)) :
    ∀ d k lt v, k + d = 8 → pl_L lt v → pl_Me (pl_R (pl_T dn dg dl c) P) k v → wX_spread_2 post (d + 1) (nI k) (nI c) s0 aN aG aL sn sg sl sc lt := by
  intro d
  induction d with
  | zero =>
    intro k lt v hk hL hM
    obtain rfl : k = 8 := hk
    exact br_t (nI_le (a := 8) (Nat.le_refl _) (by decide)) (hp lt v hL hM)
  | succ d ih =>
    intro k lt v hk hL hM
    refine br_f (nI_ge (b := 8) (by omega) (by decide)) ⟨257, pl_xSp1 hc hn hg (show k < 8 by omega) hJ (fun lt v hL hM => ih (k + 1) lt v (by omega) hL (pl_Mi_end (fun s hs => pl_T_rf hs) (by omega) hM)) 256 0 lt v rfl hL (pl_Mi_q (fun s hs => ?_) (pl_Mi_0 (by omega) hM))⟩
    exact ⟨fun z => z.elim, fun ⟨t', h, _⟩ => absurd h (Nat.not_lt_zero t')⟩
theorem pl_xSp {post : SX → Prop} {v : Nat → Nat} (hc : c ≤ 7) (hn : ∀ i, dn i < 256) (hg : ∀ i, dg i < 256) (hJ : pl_J dn dg dl c (2 ^ c) sn sg sl sc) (hL : pl_L lt v) (hM : pl_Me (pl_R (pl_T dn dg dl c) P) 0 v)
    (hp : ∀ lt v, pl_L lt v → pl_Me (pl_R (pl_T dn dg dl c) P) 8 v → post (nI c, s0, aN, aG, aL, sn, sg, sl, sc, lt)) :
    wpX_spread post (nI c, s0, aN, aG, aL, sn, sg, sl, sc, lt) :=
  ⟨9, pl_xSp2 hc hn hg hJ hp 8 0 lt v rfl hL hM⟩
theorem pl_Me_0 {T : Nat → Nat → Prop} {v : Nat → Nat} (h : ∀ s, s < 256 → (v s = 0 ↔ P s) ∧ (v s = 0 ∨ v s = 9)) : pl_Me (pl_R T P) 0 v := by
  intro s hs
  obtain ⟨a, b⟩ := h s hs
  refine ⟨fun j hj => ?_, by omega⟩
  obtain rfl : j = 0 := by omega
  rw [Nat.le_zero]
  exact a
theorem pl_xMS {post : SX → Prop} {s : Nat} (hc : c ≤ 7) (hs : s < 256) (hn : ∀ i, dn i < 256) (hg : ∀ i, dg i < 256) (hl : ∀ i, dl i < 256)
    (hp : ∀ sn sg sl sc lt v, pl_J dn dg dl c (2 ^ c) sn sg sl sc → pl_L lt v → pl_Me (pl_R (pl_T dn dg dl c) (fun x => x = s)) 8 v → post (nI c, nI s, pl_N dn, pl_N dg, pl_N dl, sn, sg, sl, sc, lt)) :
    wpX_measureFromStart post (nI c, nI s, pl_N dn, pl_N dg, pl_N dl, sn, sg, sl, sc, lt) := by
  unfold wpX_measureFromStart
  refine pl_xJS hl hc fun sn sg sl sc hJ => ?_
  refine pl_xFo fun lt hlt => ?_
  refine ⟨vp_in_nI hs (by decide), nm_r (pl_up (by omega)) ?_⟩
  refine pl_xSp (v := fun x => if x = s then 0 else 9) hc hn hg hJ (pl_L_up (x := 0) (v := fun _ => 9) hlt) (pl_Me_0 (P := fun x => x = s) fun x hx => ?_) fun lt v hL hM => hp sn sg sl sc lt v hJ hL hM
  split
  · exact ⟨⟨fun _ => by assumption, fun _ => rfl⟩, Or.inl rfl⟩
  · exact ⟨⟨fun z => absurd z (by decide), fun z => absurd z (by assumption)⟩, Or.inr rfl⟩
theorem pl_xLL1 {post : Int32 → Prop} {R : Nat → Nat → Prop} {g : Nat} {v : Nat → Nat} (hgl : g < 256) (hL : pl_L lt v) (hM : pl_Me R 8 v)
    (hp : ∀ l, pl_Le R (fun s => s &&& g = g) 256 l → post (nI l)) :
    ∀ d t l, t + d = 256 → pl_Le R (fun s => s &&& g = g) t l → wX_leastLayers_5 post (nI g) (nI c) s0 aN aG aL sn sg sl sc lt (d + 1) (nI l) (nI t) := by
  intro d
  induction d with
  | zero =>
    intro t l ht h
    obtain rfl : t = 256 := ht
    exact br_t (nI_le (a := 256) (Nat.le_refl _) (by decide)) (hp l h)
  | succ d ih =>
    intro t l ht h
    have h9 := h.1
    have vt := vp_in_nI (show t < 256 by omega) (by decide : 256 < 2 ^ 31)
    have h8 := (hM t (by omega)).2
    exact br_f (nI_ge (b := 256) (by omega) (by decide)) (pk_eq (t &&& g) g
      (fun e => br_f (by decide) ⟨vt, pk_le l (v t)
        (fun q => nm_r (nI_1 t) (ih (t + 1) l (by omega) (pl_Le_no h fun j hj _ hR => by have := ((hM t (by omega)).1 j hj).mpr hR; omega)))
        (fun q => ⟨vt, nm_r (pl_L_g hL (by omega)) (nm_r (nI_1 t) (ih (t + 1) (v t) (by omega) (pl_Le_yes hM h (by omega) e q)))⟩)
        rfl (pl_L_g hL (by omega)) (by omega) (by omega)⟩)
      (fun e => br_t rfl (nm_r (nI_1 t) (ih (t + 1) l (by omega) (pl_Le_no h fun j hj hG _ => absurd hG e))))
      (nx_and t g) rfl (pl_an' hgl) (by omega))
theorem pl_xLL {post : Int32 → Prop} {R : Nat → Nat → Prop} {g : Nat} {v : Nat → Nat} (hgl : g < 256) (hL : pl_L lt v) (hM : pl_Me R 8 v)
    (hp : ∀ l, pl_Le R (fun s => s &&& g = g) 256 l → post (nI l)) : wpX_leastLayers post (nI c, s0, aN, aG, aL, sn, sg, sl, sc, lt) (nI g) :=
  ⟨257, pl_xLL1 hgl hL hM hp 256 0 9 rfl pl_Le_0⟩
/-- the states that a first layer with i leaves -/
def pl_D (dn dg dl : Nat → Nat) (c s i m : Nat) : Prop := m < 2 ^ c ∧ m / 2 ^ i % 2 = 1 ∧ pl_ok dn dg dl c m s
theorem pl_xMA1 {post : SX → Prop} {s i : Nat} (hc : c ≤ 7) (hs : s < 256) (hi : i < c) (hn : ∀ i, dn i < 256) (hg : ∀ i, dg i < 256) (hJ : pl_J dn dg dl c (2 ^ c) sn sg sl sc)
    (hp : ∀ lt v, pl_L lt v → pl_Me (pl_R (pl_T dn dg dl c) (fun x => ∃ m, pl_D dn dg dl c s i m ∧ x = pl_af dg dl c m s)) 8 v → post (nI c, nI s, aN, aG, aL, sn, sg, sl, sc, lt)) :
    ∀ d m lt v, m + d = 2 ^ c → pl_L lt v → (∀ x, x < 256 → (v x = 0 ↔ ∃ m', m' < m ∧ m' / 2 ^ i % 2 = 1 ∧ pl_ok dn dg dl c m' s ∧ x = pl_af dg dl c m' s) ∧ (v x = 0 ∨ v x = 9)) →
      wX_measureAfterLayerWith_6 post (nI i) (nI c) (nI s) (d + 1) (nI m) aN aG aL sn sg sl sc lt := by
  have h7 := pl_p7 hc
  intro d
  induction d with
  | zero =>
    intro m lt v hm hL hM
    have hm : m = 2 ^ c := hm
    subst hm
    refine br_t (by rw [pl_p2 (by omega)]; exact nI_le (Nat.le_refl _) (by omega)) (pl_xSp hc hn hg hJ hL (pl_Me_0 fun x hx => ⟨(hM x hx).1.trans ?_, (hM x hx).2⟩) fun lt v hL hM => hp lt v hL hM)
    exact ⟨fun ⟨m', a, b, d, e⟩ => ⟨m', ⟨a, b, d⟩, e⟩, fun ⟨m', ⟨a, b, d⟩, e⟩ => ⟨m', a, b, d, e⟩⟩
  | succ d ih =>
    intro m lt v hm hL hM
    have skip : ¬ (m / 2 ^ i % 2 = 1 ∧ pl_ok dn dg dl c m s) → wX_measureAfterLayerWith_6 post (nI i) (nI c) (nI s) (d + 1) (nI (m + 1)) aN aG aL sn sg sl sc lt := by
      intro no
      refine ih (m + 1) lt v (by omega) hL fun x hx => ⟨(hM x hx).1.trans ?_, (hM x hx).2⟩
      rw [pl_ex_s (D := fun m' => m' / 2 ^ i % 2 = 1 ∧ pl_ok dn dg dl c m' s ∧ x = pl_af dg dl c m' s)]
      exact ⟨Or.inl, fun z => z.elim id fun y => absurd ⟨y.1, y.2.1⟩ no⟩
    refine br_f (by rw [pl_p2 (by omega)]; exact nI_ge (by omega) (by omega)) (pl_xHA (by omega) (by omega)
      (fun e1 => br_f (by decide) (pl_xCB hc hn hs (by omega) hJ (fun ok => br_f (by decide) (pl_xSA hc (by omega) hJ ?_)) (fun no => br_t rfl (nm_r (nI_1 m) (skip fun z => no z.2)))))
      (fun e1 => br_t rfl (nm_r (nI_1 m) (skip fun z => e1 z.1))))
    have ha : pl_af dg dl c m s < 256 := pl_af_lt hg hs
    refine ⟨vp_in_nI ha (by decide), nm_r (pl_up (by omega)) (nm_r (nI_1 m) (ih (m + 1) _ _ (by omega) (pl_L_up (x := 0) hL) fun x hx => ?_))⟩
    rw [pl_ex_s (D := fun m' => m' / 2 ^ i % 2 = 1 ∧ pl_ok dn dg dl c m' s ∧ x = pl_af dg dl c m' s)]
    by_cases e : x = pl_af dg dl c m s
    · rw [if_pos e]
      exact ⟨⟨fun _ => Or.inr ⟨e1, ok, e⟩, fun _ => rfl⟩, Or.inl rfl⟩
    · rw [if_neg e]
      exact ⟨(hM x hx).1.trans ⟨Or.inl, fun z => z.elim id fun y => absurd y.2.2 e⟩, (hM x hx).2⟩
theorem pl_xMA {post : SX → Prop} {s i : Nat} (hc : c ≤ 7) (hs : s < 256) (hi : i < c) (hn : ∀ i, dn i < 256) (hg : ∀ i, dg i < 256) (hJ : pl_J dn dg dl c (2 ^ c) sn sg sl sc)
    (hp : ∀ lt v, pl_L lt v → pl_Me (pl_R (pl_T dn dg dl c) (fun x => ∃ m, pl_D dn dg dl c s i m ∧ x = pl_af dg dl c m s)) 8 v → post (nI c, nI s, aN, aG, aL, sn, sg, sl, sc, lt)) :
    wpX_measureAfterLayerWith post (nI c, nI s, aN, aG, aL, sn, sg, sl, sc, lt) (nI i) := by
  unfold wpX_measureAfterLayerWith
  refine pl_xFo fun lt hlt => ⟨2 ^ c + 1, pl_xMA1 hc hs hi hn hg hJ hp (2 ^ c) 0 lt (fun _ => 9) (Nat.zero_add _) hlt fun x hx => ?_⟩
  exact ⟨⟨fun z => absurd z (show ¬ (9 : Nat) = 0 by decide), fun ⟨m', h, _⟩ => absurd h (Nat.not_lt_zero m')⟩, Or.inr rfl⟩
end
