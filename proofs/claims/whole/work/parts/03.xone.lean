/-! the class: its small methods and the joining of the action sets -/
section
variable {dn dg dl : Nat → Nat} {c : Nat} {s0 : Int32} {aN aG aL sn sg sl sc lt : Nat → Int32}
theorem pl_xFS_no {post : Int32 → Prop} {p : Int32} (h : p < 0 ∨ nI 256 ≤ p) (hp : post 0) : wpX_isFactSet post p := by
  by_cases h0 : p < 0
  · exact br_t h0 hp
  · exact br_f h0 (br_t (h.resolve_left h0) hp)
theorem pl_xFS_ok {post : Int32 → Prop} {g : Nat} (hg : g < 256) (hp : post 1) : wpX_isFactSet post (nI g) :=
  br_f (nI_pos (by omega)) (br_f (nI_ge (b := 256) hg (by decide)) hp)
theorem pl_xLC_no {post : Int32 → Prop} {p : Int32} (h : p < 0 ∨ nI 9 ≤ p) (hp : post 0) : wpX_isLayerCount post p := by
  by_cases h0 : p < 0
  · exact br_t h0 hp
  · exact br_f h0 (br_t (pl_gt (a := 8) (by decide) (h.resolve_left h0)) hp)
theorem pl_xLC_ok {post : Int32 → Prop} {k : Nat} (hk : k < 9) (hp : post 1) : wpX_isLayerCount post (nI k) :=
  br_f (nI_pos (by omega)) (br_f (nI_nlt (a := 8) (by omega) (by decide)) hp)
theorem pl_xIF_no {post : Int32 → Prop} {p : Int32} (h : p < 0 ∨ nI 8 ≤ p) (hp : post 0) : wpX_isFact post p := by
  by_cases h0 : p < 0
  · exact br_t h0 hp
  · exact br_f h0 (br_t (h.resolve_left h0) hp)
theorem pl_xIF_ok {post : Int32 → Prop} {f : Nat} (hf : f < 8) (hp : post 1) : wpX_isFact post (nI f) :=
  br_f (nI_pos (by omega)) (br_f (nI_ge (b := 8) hf (by decide)) hp)
theorem pl_xIA_no {post : Int32 → Prop} {p : Int32} (h : p < 0 ∨ nI c ≤ p) (hp : post 0) : wpX_isAction post (nI c, s0, aN, aG, aL, sn, sg, sl, sc, lt) p := by
  by_cases h0 : p < 0
  · exact br_t h0 hp
  · exact br_f h0 (br_t (h.resolve_left h0) hp)
theorem pl_xIA_ok {post : Int32 → Prop} {i : Nat} (hc : c ≤ 7) (hi : i < c) (hp : post 1) : wpX_isAction post (nI c, s0, aN, aG, aL, sn, sg, sl, sc, lt) (nI i) :=
  br_f (nI_pos (by omega)) (br_f (nI_ge hi (by omega)) hp)
theorem pl_xES {post : Int32 → Prop} {i j : Nat} (hl : ∀ i, dl i < 256) (hi : i < 7) (hj : j < 7) (h1 : pl_cl dn dg dl i j → post 1) (h0 : ¬ pl_cl dn dg dl i j → post 0) :
    wpX_eitherSpoils post (nI c, s0, pl_N dn, pl_N dg, pl_N dl, sn, sg, sl, sc, lt) (nI i) (nI j) := by
  have vi := vp_in_nI hi (by decide : 7 < 2 ^ 31)
  have vj := vp_in_nI hj (by decide : 7 < 2 ^ 31)
  refine ⟨vi, vj, vj, pk_eq (dl i &&& (dn j ||| dg j)) 0 (fun e1 => ⟨vj, vi, vi, pk_eq (dl j &&& (dn i ||| dg i)) 0 (fun e2 => h0 ?_) (fun e2 => h1 (Or.inr e2)) (pl_clX hj hi) rfl (pl_an (hl j)) (by decide)⟩) (fun e1 => h1 (Or.inl e1)) (pl_clX hi hj) rfl (pl_an (hl i)) (by decide)⟩
  rintro (h | h)
  · exact h e1
  · exact h e2
theorem pl_xHA {post : Int32 → Prop} {m i : Nat} (hm : m < 2 ^ 31) (hi : i < 32) (h1 : m / 2 ^ i % 2 = 1 → post 1) (h0 : ¬ m / 2 ^ i % 2 = 1 → post 0) : wpX_hasAction post (nI m) (nI i) :=
  pk_eq (m / 2 ^ i % 2) 0 (fun e => h0 (by omega)) (fun e => h1 (by omega)) (pl_bit hm hi) rfl (by omega) (by decide)
theorem pl_Uy {d : Nat → Nat} {m i : Nat} (hi : i < 7) (e : m / 2 ^ i % 2 = 1) : nI (pl_U d m i) ||| pl_N d (nI i).toNatClampNeg = nI (pl_U d m (i + 1)) := by
  rw [pl_Ng d (by omega), pl_or, pl_U, if_pos e]
theorem pl_Un {d : Nat → Nat} {m i : Nat} (e : ¬ m / 2 ^ i % 2 = 1) : pl_U d m (i + 1) = pl_U d m i := by rw [pl_U, if_neg e]
theorem pl_xJo1 {post : SX → Prop} {m : Nat} (hc : c ≤ 7) (hm : m < 128)
    (hp : post (nI c, s0, pl_N dn, pl_N dg, pl_N dl, upd sn m (nI (pl_U dn m c)), upd sg m (nI (pl_U dg m c)), upd sl m (nI (pl_U dl m c)), sc, lt)) :
    ∀ d i, i + d = c → wX_joinActionsOf_10 post (nI m) (nI c) s0 (pl_N dn) (pl_N dg) (pl_N dl) sn sg sl sc lt (d + 1) (nI (pl_U dn m i)) (nI (pl_U dg m i)) (nI (pl_U dl m i)) (nI i) := by
  have vm := vp_in_nI hm (by decide : 128 < 2 ^ 31)
  intro d
  induction d with
  | zero =>
    intro i hi
    obtain rfl : i = c := hi
    exact br_t (nI_le (Nat.le_refl _) (by omega)) ⟨vm, nm_r (pl_up (by omega)) ⟨vm, nm_r (pl_up (by omega)) ⟨vm, nm_r (pl_up (by omega)) hp⟩⟩⟩
  | succ d ih =>
    intro i hi
    have vi := vp_in_nI (show i < 7 by omega) (by decide : 7 < 2 ^ 31)
    have ih := ih (i + 1) (by omega)
    refine br_f (nI_ge (by omega) (by omega)) (pl_xHA (by omega) (by omega) (fun e => br_f (by decide) ⟨vi, nm_r (pl_Uy (by omega) e) ⟨vi, nm_r (pl_Uy (by omega) e) ⟨vi, nm_r (pl_Uy (by omega) e) (nm_r (nI_1 i) ih)⟩⟩⟩) (fun e => br_t rfl (nm_r (nI_1 i) ?_)))
    rw [pl_Un e, pl_Un e, pl_Un e] at ih
    exact ih
theorem pl_xJo {post : SX → Prop} {m : Nat} (hc : c ≤ 7) (hm : m < 128)
    (hp : post (nI c, s0, pl_N dn, pl_N dg, pl_N dl, upd sn m (nI (pl_U dn m c)), upd sg m (nI (pl_U dg m c)), upd sl m (nI (pl_U dl m c)), sc, lt)) :
    wpX_joinActionsOf post (nI c, s0, pl_N dn, pl_N dg, pl_N dl, sn, sg, sl, sc, lt) (nI m) :=
  ⟨c + 1, pl_xJo1 hc hm hp c 0 (Nat.zero_add c)⟩
theorem pl_xTC1 {post : Int32 → Prop} {J2 : Int32 → Prop} {m i : Nat} (hl : ∀ i, dl i < 256) (hc : c ≤ 7) (hm : m < 128) (hi : i < c) :
    ∀ d j, j + d = c → (∀ j', j ≤ j' → j' < c → m / 2 ^ i % 2 = 1 → m / 2 ^ j' % 2 = 1 → pl_cl dn dg dl i j' → post 1) →
      ((∀ j', j ≤ j' → j' < c → m / 2 ^ i % 2 = 1 → m / 2 ^ j' % 2 = 1 → ¬ pl_cl dn dg dl i j') → J2 (nI (i + 1))) →
      wX_someTwoClash_14 post J2 (nI m) (nI i) (nI c) s0 (pl_N dn) (pl_N dg) (pl_N dl) sn sg sl sc lt (d + 1) (nI j) := by
  intro d
  induction d with
  | zero =>
    intro j hj h1 h0
    obtain rfl : j = c := hj
    exact br_t (nI_le (Nat.le_refl _) (by omega)) (nm_r (nI_1 i) (h0 fun j' a b => absurd b (by omega)))
  | succ d ih =>
    intro j hj h1 h0
    have go : (m / 2 ^ i % 2 = 1 → m / 2 ^ j % 2 = 1 → ¬ pl_cl dn dg dl i j) → wX_someTwoClash_14 post J2 (nI m) (nI i) (nI c) s0 (pl_N dn) (pl_N dg) (pl_N dl) sn sg sl sc lt (d + 1) (nI (j + 1)) := by
      intro hn
      refine ih (j + 1) (by omega) (fun j' a b => h1 j' (by omega) b) (fun hh => h0 fun j' a b => ?_)
      by_cases e : j' = j
      · subst e; exact hn
      · exact hh j' (by omega) b
    exact br_f (nI_ge (by omega) (by omega)) (pl_xHA (by omega) (by omega)
      (fun e1 => br_f (by decide) (pl_xHA (by omega) (by omega)
        (fun e2 => br_f (by decide) (pl_xES hl (by omega) (by omega)
          (fun e3 => br_f (by decide) (h1 j (Nat.le_refl j) (by omega) e1 e2 e3))
          (fun e3 => br_t rfl (nm_r (nI_1 j) (go fun _ _ => e3)))))
        (fun e2 => br_t rfl (nm_r (nI_1 j) (go fun _ z => absurd z e2)))))
      (fun e1 => br_t rfl (nm_r (nI_1 j) (go fun z => absurd z e1))))
theorem pl_xTC2 {post : Int32 → Prop} {m : Nat} (hl : ∀ i, dl i < 256) (hc : c ≤ 7) (hm : m < 128) (h1 : pl_C dn dg dl c m → post 1) (h0 : ¬ pl_C dn dg dl c m → post 0) :
    ∀ d i, i + d = c → (∀ i' j', i' < i → i' < j' → j' < c → m / 2 ^ i' % 2 = 1 → m / 2 ^ j' % 2 = 1 → ¬ pl_cl dn dg dl i' j') →
      wX_someTwoClash_2 post (nI m) (nI c) s0 (pl_N dn) (pl_N dg) (pl_N dl) sn sg sl sc lt (d + 1) (nI i) := by
  intro d
  induction d with
  | zero =>
    intro i hi hn
    obtain rfl : i = c := hi
    refine br_t (nI_le (Nat.le_refl _) (by omega)) (h0 ?_)
    rintro ⟨i', j', a, b, e1, e2, e3⟩
    exact hn i' j' (by omega) a b e1 e2 e3
  | succ d ih =>
    intro i hi hn
    refine br_f (nI_ge (by omega) (by omega)) (nm_r (nI_1 i) ⟨(c - (i + 1)) + 1, pl_xTC1 hl hc hm (by omega) (c - (i + 1)) (i + 1) (by omega) ?_ ?_⟩)
    · intro j' a b e1 e2 e3
      exact h1 ⟨i, j', by omega, b, e1, e2, e3⟩
    · intro hh
      refine ih (i + 1) (by omega) fun i' j' a b cc e1 e2 => ?_
      by_cases e : i' = i
      · subst e; exact hh j' (by omega) cc e1 e2
      · exact hn i' j' (by omega) b cc e1 e2
theorem pl_xTC {post : Int32 → Prop} {m : Nat} (hl : ∀ i, dl i < 256) (hc : c ≤ 7) (hm : m < 128) (h1 : pl_C dn dg dl c m → post 1) (h0 : ¬ pl_C dn dg dl c m → post 0) :
    wpX_someTwoClash post (nI c, s0, pl_N dn, pl_N dg, pl_N dl, sn, sg, sl, sc, lt) (nI m) :=
  ⟨c + 1, pl_xTC2 hl hc hm h1 h0 c 0 (Nat.zero_add c) fun i' j' a => absurd a (Nat.not_lt_zero i')⟩
/-- what joinActionSets has filled in, of the sets below e -/
def pl_J (dn dg dl : Nat → Nat) (c e : Nat) (sn sg sl sc : Nat → Int32) : Prop := ∀ m, m < e → sn m = nI (pl_U dn m c) ∧ sg m = nI (pl_U dg m c) ∧ sl m = nI (pl_U dl m c) ∧ (sc m = 0 ↔ ¬ pl_C dn dg dl c m)
theorem pl_J_s {e : Nat} {x : Int32} (h : pl_J dn dg dl c e sn sg sl sc) (hx : x = 0 ↔ ¬ pl_C dn dg dl c e) :
    pl_J dn dg dl c (e + 1) (upd sn e (nI (pl_U dn e c))) (upd sg e (nI (pl_U dg e c))) (upd sl e (nI (pl_U dl e c))) (upd sc e x) := by
  intro m hm
  by_cases em : m = e
  · subst em
    rw [pk_us, pk_us, pk_us, pk_us]
    exact ⟨rfl, rfl, rfl, hx⟩
  · rw [pk_un em, pk_un em, pk_un em, pk_un em]
    exact h m (by omega)
theorem pl_xJS1 {post : SX → Prop} (hl : ∀ i, dl i < 256) (hc : c ≤ 7)
    (hp : ∀ sn sg sl sc, pl_J dn dg dl c (2 ^ c) sn sg sl sc → post (nI c, s0, pl_N dn, pl_N dg, pl_N dl, sn, sg, sl, sc, lt)) :
    ∀ d m sn sg sl sc, m + d = 2 ^ c → pl_J dn dg dl c m sn sg sl sc → wX_joinActionSets_2 post (d + 1) (nI m) (nI c) s0 (pl_N dn) (pl_N dg) (pl_N dl) sn sg sl sc lt := by
  have h7 := pl_p7 hc
  intro d
  induction d with
  | zero =>
    intro m sn sg sl sc hm hJ
    have hm : m = 2 ^ c := hm
    subst hm
    exact br_t (by rw [pl_p2 (by omega)]; exact nI_le (Nat.le_refl _) (by omega)) (hp _ _ _ _ hJ)
  | succ d ih =>
    intro m sn sg sl sc hm hJ
    have vm := vp_in_nI (show m < 128 by omega) (by decide : 128 < 2 ^ 31)
    exact br_f (by rw [pl_p2 (by omega)]; exact nI_ge (by omega) (by omega)) (pl_xJo hc (by omega) (pl_xTC hl hc (by omega)
      (fun z => ⟨vm, nm_r (pl_up (by omega)) (nm_r (nI_1 m) (ih (m + 1) _ _ _ _ (by omega) (pl_J_s hJ (by rw [pl_nar1]; exact ⟨fun a => absurd a (by decide), fun a => absurd z a⟩))))⟩)
      (fun z => ⟨vm, nm_r (pl_up (by omega)) (nm_r (nI_1 m) (ih (m + 1) _ _ _ _ (by omega) (pl_J_s hJ (by rw [pl_nar0]; exact ⟨fun _ => z, fun _ => rfl⟩))))⟩)))
theorem pl_xJS {post : SX → Prop} (hl : ∀ i, dl i < 256) (hc : c ≤ 7)
    (hp : ∀ sn sg sl sc, pl_J dn dg dl c (2 ^ c) sn sg sl sc → post (nI c, s0, pl_N dn, pl_N dg, pl_N dl, sn, sg, sl, sc, lt)) :
    wpX_joinActionSets post (nI c, s0, pl_N dn, pl_N dg, pl_N dl, sn, sg, sl, sc, lt) :=
  ⟨2 ^ c + 1, pl_xJS1 hl hc hp (2 ^ c) 0 sn sg sl sc (Nat.zero_add _) fun m hm => absurd hm (Nat.not_lt_zero m)⟩
theorem pl_xFo1 {post : SX → Prop} (hp : ∀ lt, (∀ s, s < 256 → lt s = nI 9) → post (nI c, s0, aN, aG, aL, sn, sg, sl, sc, lt)) :
    ∀ d i lt, i + d = 256 → (∀ s, s < i → lt s = nI 9) → wX_forgetStates_2 post (nI c) s0 (d + 1) (nI i) aN aG aL sn sg sl sc lt := by
  intro d
  induction d with
  | zero =>
    intro i lt hi h
    obtain rfl : i = 256 := hi
    exact br_t (nI_le (a := 256) (Nat.le_refl _) (by decide)) (hp lt h)
  | succ d ih =>
    intro i lt hi h
    refine br_f (nI_ge (b := 256) (by omega) (by decide)) ⟨vp_in_nI (by omega) (by decide), nm_r (pl_up (by omega)) (nm_r (nI_1 i) (ih (i + 1) _ (by omega) fun s hs => ?_))⟩
    by_cases e : s = i
    · subst e; exact pk_us
    · rw [pk_un e]; exact h s (by omega)
theorem pl_xFo {post : SX → Prop} (hp : ∀ lt, (∀ s, s < 256 → lt s = nI 9) → post (nI c, s0, aN, aG, aL, sn, sg, sl, sc, lt)) :
    wpX_forgetStates post (nI c, s0, aN, aG, aL, sn, sg, sl, sc, lt) :=
  ⟨257, pl_xFo1 hp 256 0 lt rfl fun s hs => absurd hs (Nat.not_lt_zero s)⟩
theorem pl_xCB {post : Int32 → Prop} {m s : Nat} (hc : c ≤ 7) (hn : ∀ i, dn i < 256) (hs : s < 256) (hm : m < 2 ^ c) (hJ : pl_J dn dg dl c (2 ^ c) sn sg sl sc) (h1 : pl_ok dn dg dl c m s → post 1) (h0 : ¬ pl_ok dn dg dl c m s → post 0) :
    wpX_canBeLayer post (nI c, s0, aN, aG, aL, sn, sg, sl, sc, lt) (nI m) (nI s) := by
  have h7 := pl_p7 hc
  have vm := vp_in_nI (show m < 128 by omega) (by decide : 128 < 2 ^ 31)
  have cl : (nI m).toNatClampNeg = m := nI_clamp (by omega)
  have U := pl_U_lt hn m c
  obtain ⟨e1, e2, e3, e4⟩ := hJ m hm
  refine ⟨vm, br_c (fun z => ⟨vm, ?_⟩) (fun z => h0 ?_)⟩
  · rw [cl] at z
    exact pk_eq (s &&& pl_U dn m c) (pl_U dn m c) (fun e => br_f (by decide) (h1 ⟨e4.mp z, e⟩)) (fun e => br_t rfl (h0 fun k => e k.2)) (by rw [cl, e1, nx_and]) (by rw [cl, e1]) (pl_an hs) (by omega)
  · rw [cl] at z
    exact fun k => z (e4.mpr k.1)
theorem pl_xSA {post : Int32 → Prop} {m s : Nat} (hc : c ≤ 7) (hm : m < 2 ^ c) (hJ : pl_J dn dg dl c (2 ^ c) sn sg sl sc) (hp : post (nI (pl_af dg dl c m s))) :
    wpX_stateAfter post (nI c, s0, aN, aG, aL, sn, sg, sl, sc, lt) (nI m) (nI s) := by
  have h7 := pl_p7 hc
  have vm := vp_in_nI (show m < 128 by omega) (by decide : 128 < 2 ^ 31)
  obtain ⟨e1, e2, e3, e4⟩ := hJ m hm
  refine ⟨vm, vm, ?_⟩
  show post ((nI s &&& (sl (nI m).toNatClampNeg ^^^ (-1))) ||| sg (nI m).toNatClampNeg)
  rw [nI_clamp (by omega), e3, e2, pl_nt, nx_and, pl_or]
  exact hp
end
