/-! the relation: the same actions, the same state; the scratch arrays of both sides are free -/
def i_Rel (k : Nat) (u : SX) (v : SY) : Prop := ∃ (dn dg dl : Nat → Nat) (c s : Nat) (sn sg sl sc lt had : Nat → Int32), c ≤ 7 ∧ s < 256 ∧ (∀ i, dn i < 256) ∧ (∀ i, dg i < 256) ∧ (∀ i, dl i < 256) ∧
  u = (nI c, nI s, pl_N dn, pl_N dg, pl_N dl, sn, sg, sl, sc, lt) ∧ v = (nI c, nI s, pl_N dn, pl_N dg, pl_N dl, had)
theorem i_up {k : Nat} {u : SX} {v : SY} (h : i_Rel k u v) : i_Rel (k + 4) u v := h
theorem i_vc0 : wpX_init (fun u => wpY_init (fun v => i_Rel 0 u v)) :=
  ⟨fun _ => 0, fun _ => 0, fun _ => 0, 0, 0, _, _, _, _, _, _, by decide, by decide, pl_0lt, pl_0lt, pl_0lt, rfl, rfl⟩
theorem pl_dec (p : Int32) (n : Nat) (hn : n < 2 ^ 31) : (p < 0 ∨ nI n ≤ p) ∨ ∃ j, j < n ∧ p = nI j := by
  rcases pk_ix p hn with h | h | h
  · exact Or.inl (Or.inl h)
  · exact Or.inl (Or.inr h)
  · exact Or.inr h
section
variable {dn dg dl : Nat → Nat} {c s : Nat} {sn sg sl sc lt had : Nat → Int32}
theorem pl_rel {k : Nat} (hc : c ≤ 7) (hs : s < 256) (hn : ∀ i, dn i < 256) (hg : ∀ i, dg i < 256) (hl : ∀ i, dl i < 256) :
    i_Rel k (nI c, nI s, pl_N dn, pl_N dg, pl_N dl, sn, sg, sl, sc, lt) (nI c, nI s, pl_N dn, pl_N dg, pl_N dl, had) :=
  ⟨dn, dg, dl, c, s, sn, sg, sl, sc, lt, had, hc, hs, hn, hg, hl, rfl, rfl⟩
/-- drop's shift, on both sides at once -/
theorem pl_drop {e : Nat} (he : e < 7) {s0 : Int32} {sn sg sl sc lt had : Nat → Int32} : ∀ d j (dn dg dl : Nat → Nat), j + d = e → (∀ i, dn i < 256) → (∀ i, dg i < 256) → (∀ i, dl i < 256) →
    ∃ dn' dg' dl' : Nat → Nat, (∀ i, dn' i < 256) ∧ (∀ i, dg' i < 256) ∧ (∀ i, dl' i < 256) ∧
      (∀ post : Int32 → SX → Prop, post (nI e) (nI e, s0, pl_N dn', pl_N dg', pl_N dl', sn, sg, sl, sc, lt) → wX_drop_12 post (nI (e + 1)) s0 (d + 1) (nI j) (pl_N dn) (pl_N dg) (pl_N dl) sn sg sl sc lt) ∧
      (∀ post : Int32 → SY → Prop, post (nI e) (nI e, s0, pl_N dn', pl_N dg', pl_N dl', had) → wY_drop_22 post (nI e) s0 (d + 1) (nI j) (pl_N dn) (pl_N dg) (pl_N dl) had) := by
  intro d
  induction d with
  | zero =>
    intro j dn dg dl hj hn hg hl
    obtain rfl : j = e := hj
    refine ⟨dn, dg, dl, hn, hg, hl, fun post hp => ?_, fun post hp => ?_⟩
    · exact br_t (by rw [nI_pred]; exact nI_le (Nat.le_refl _) (by omega)) (nm_r (nI_pred j) hp)
    · exact br_t (nI_le (Nat.le_refl _) (by omega)) hp
  | succ d ih =>
    intro j dn dg dl hj hn hg hl
    have vj := vp_in_nI (show j < 7 by omega) (by decide : 7 < 2 ^ 31)
    have vj1 : vp_in (nI j + 1) 7 := by rw [nI_1]; exact vp_in_nI (show j + 1 < 7 by omega) (by decide)
    have st : ∀ f : Nat → Nat, upd (pl_N f) (nI j).toNatClampNeg (pl_N f (nI j + 1).toNatClampNeg) = pl_N (pl_S f j (f (j + 1))) := by
      intro f
      rw [nI_1, pl_Ng f (by omega), pl_Nu f (by omega)]
    obtain ⟨dn', dg', dl', hn', hg', hl', hX, hY⟩ := ih (j + 1) (pl_S dn j (dn (j + 1))) (pl_S dg j (dg (j + 1))) (pl_S dl j (dl (j + 1))) (by omega) (pl_Slt hn (hn _)) (pl_Slt hg (hg _)) (pl_Slt hl (hl _))
    refine ⟨dn', dg', dl', hn', hg', hl', fun post hp => ?_, fun post hp => ?_⟩
    · exact br_f (by rw [nI_pred]; exact nI_ge (by omega) (by omega)) ⟨vj1, vj, nm_r (st dn) ⟨vj1, vj, nm_r (st dg) ⟨vj1, vj, nm_r (st dl) (nm_r (nI_1 j) (hX post hp))⟩⟩⟩
    · exact br_f (nI_ge (by omega) (by omega)) ⟨vj1, vj, nm_r (st dn) ⟨vj1, vj, nm_r (st dg) ⟨vj1, vj, nm_r (st dl) (nm_r (nI_1 j) (hY post hp))⟩⟩⟩
end
