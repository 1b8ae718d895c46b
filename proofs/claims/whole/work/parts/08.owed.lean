/-! what is owed, a method each -/
theorem i_vc_action {k : Nat} {u : SX} {v : SY} (I : i_Rel k u v) (hk : k + 4 ≤ 2048) (v1 : Int32) (v2 : Int32) (v3 : Int32) : wpX_action (fun r u' => wpY_action (fun r' v' => r' = r ∧ i_Rel (k + 4) u' v') v v1 v2 v3) u v1 v2 v3 := by
  obtain ⟨dn, dg, dl, c, s, sn, sg, sl, sc, lt, had, hc, hs, hn, hg, hl, rfl, rfl⟩ := I
  by_cases h7 : c = 7
  · subst h7
    exact br_f (nI_nlt (a := 7) (b := 7) (by decide) (by decide)) (br_t rfl ⟨rfl, pl_rel hc hs hn hg hl⟩)
  · have n7 : ¬ nI c = 7 := fun z => h7 ((nI_eq (b := 7) (by omega) (by decide)).mp z)
    have vc := vp_in_nI (show c < 7 by omega) (by decide : 7 < 2 ^ 31)
    refine br_t (nI_lt (b := 7) (by omega) (by decide)) ?_
    rcases pl_dec v1 256 (by decide) with h | ⟨g1, h1, rfl⟩
    · exact pl_xFS_no h (br_t rfl (br_f n7 (pl_yIS_no h (br_t rfl ⟨rfl, pl_rel hc hs hn hg hl⟩))))
    refine pl_xFS_ok h1 (br_f (by decide) ?_)
    rcases pl_dec v2 256 (by decide) with h | ⟨g2, h2, rfl⟩
    · exact pl_xFS_no h (br_t rfl (br_f n7 (pl_yIS_ok h1 (br_f (by decide) (pl_yIS_no h (br_t rfl ⟨rfl, pl_rel hc hs hn hg hl⟩))))))
    refine pl_xFS_ok h2 (br_f (by decide) ?_)
    rcases pl_dec v3 256 (by decide) with h | ⟨g3, h3, rfl⟩
    · exact pl_xFS_no h (br_t rfl (br_f n7 (pl_yIS_ok h1 (br_f (by decide) (pl_yIS_ok h2 (br_f (by decide) (pl_yIS_no h (br_t rfl ⟨rfl, pl_rel hc hs hn hg hl⟩))))))))
    refine pl_xFS_ok h3 (br_f (by decide) ⟨vc, nm_r (pl_Nu dn (by omega)) ⟨vc, nm_r (pl_Nu dg (by omega)) ⟨vc, nm_r (pl_Nu dl (by omega)) (nm_r (nI_1 c) ?_)⟩⟩⟩)
    exact br_f n7 (pl_yIS_ok h1 (br_f (by decide) (pl_yIS_ok h2 (br_f (by decide) (pl_yIS_ok h3 (br_f (by decide) ⟨vc, nm_r (pl_Nu dn (by omega)) ⟨vc, nm_r (pl_Nu dg (by omega)) ⟨vc, nm_r (pl_Nu dl (by omega)) (nm_r (nI_1 c) ⟨rfl, pl_rel (by omega) hs (pl_Slt hn h1) (pl_Slt hg h2) (pl_Slt hl h3)⟩)⟩⟩⟩))))))
theorem i_vc_drop {k : Nat} {u : SX} {v : SY} (I : i_Rel k u v) (hk : k + 4 ≤ 2048) (v1 : Int32) : wpX_drop (fun r u' => wpY_drop (fun r' v' => r' = r ∧ i_Rel (k + 4) u' v') v v1) u v1 := by
  obtain ⟨dn, dg, dl, c, s, sn, sg, sl, sc, lt, had, hc, hs, hn, hg, hl, rfl, rfl⟩ := I
  unfold wpX_drop wpY_drop
  rcases pl_dec v1 c (by omega) with h | ⟨i, hi, rfl⟩
  · exact pl_xIA_no h (br_t rfl (pl_yIA_no h (br_t rfl ⟨rfl, pl_rel hc hs hn hg hl⟩)))
  · obtain ⟨e, rfl⟩ : ∃ e, c = e + 1 := ⟨c - 1, by omega⟩
    obtain ⟨dn', dg', dl', hn', hg', hl', hX, hY⟩ := pl_drop (e := e) (by omega) (s0 := nI s) (sn := sn) (sg := sg) (sl := sl) (sc := sc) (lt := lt) (had := had) (e - i) i dn dg dl (by omega) hn hg hl
    exact pl_xIA_ok hc hi (br_f (by decide) ⟨_, hX _ (pl_yIA_ok hc hi (br_f (by decide) (nm_r (nI_pred e) ⟨_, hY _ ⟨rfl, pl_rel (by omega) hs hn' hg' hl'⟩⟩)))⟩)
theorem i_vc_start {k : Nat} {u : SX} {v : SY} (I : i_Rel k u v) (hk : k + 4 ≤ 2048) (v1 : Int32) : wpX_start (fun r u' => wpY_start (fun r' v' => r' = r ∧ i_Rel (k + 4) u' v') v v1) u v1 := by
  obtain ⟨dn, dg, dl, c, s, sn, sg, sl, sc, lt, had, hc, hs, hn, hg, hl, rfl, rfl⟩ := I
  unfold wpX_start wpY_start
  rcases pl_dec v1 256 (by decide) with h | ⟨g, h1, rfl⟩
  · exact pl_xFS_no h (br_t rfl (pl_yIS_no h (br_t rfl ⟨rfl, pl_rel hc hs hn hg hl⟩)))
  · exact pl_xFS_ok h1 (br_f (by decide) (pl_yIS_ok h1 (br_f (by decide) ⟨rfl, pl_rel hc h1 hn hg hl⟩)))
theorem i_vc_clash {k : Nat} {u : SX} {v : SY} (I : i_Rel k u v) (hk : k + 4 ≤ 2048) (v1 : Int32) (v2 : Int32) : wpX_clash (fun r => wpY_clash (fun r' => r' = r ∧ i_Rel (k + 4) u v) v v1 v2) u v1 v2 := by
  obtain ⟨dn, dg, dl, c, s, sn, sg, sl, sc, lt, had, hc, hs, hn, hg, hl, rfl, rfl⟩ := I
  have J : i_Rel (k + 4) (nI c, nI s, pl_N dn, pl_N dg, pl_N dl, sn, sg, sl, sc, lt) (nI c, nI s, pl_N dn, pl_N dg, pl_N dl, had) := pl_rel hc hs hn hg hl
  unfold wpX_clash
  rcases pl_dec v1 c (by omega) with h | ⟨i, hi, rfl⟩
  · refine pl_xIA_no h (br_t rfl ?_)
    unfold wpY_clash
    exact pl_yIA_no h (br_t rfl ⟨rfl, J⟩)
  refine pl_xIA_ok hc hi (br_f (by decide) ?_)
  rcases pl_dec v2 c (by omega) with h | ⟨j, hj, rfl⟩
  · refine pl_xIA_no h (br_t rfl ?_)
    unfold wpY_clash
    exact pl_yIA_ok hc hi (br_f (by decide) (pl_yIA_no h (br_t rfl ⟨rfl, J⟩)))
  refine pl_xIA_ok hc hj (br_f (by decide) ?_)
  by_cases e : i = j
  · subst e
    refine br_t rfl ?_
    unfold wpY_clash
    exact pl_yIA_ok hc hi (br_f (by decide) (pl_yIA_ok hc hi (br_f (by decide) (br_t rfl ⟨rfl, J⟩))))
  · refine br_f (fun z => e ((nI_eq (by omega) (by omega)).mp z)) (pl_xES hl (by omega) (by omega) (fun z => br_f (by decide) ?_) (fun z => br_t rfl ?_))
    · exact pl_yC hl hc hi hj e (fun _ => ⟨rfl, J⟩) (fun y => absurd z y)
    · exact pl_yC hl hc hi hj e (fun y => absurd y z) (fun _ => ⟨rfl, J⟩)
theorem i_vc_fewest {k : Nat} {u : SX} {v : SY} (I : i_Rel k u v) (hk : k + 4 ≤ 2048) (v1 : Int32) : wpX_fewest (fun r u' => wpY_fewest (fun r' v' => r' = r ∧ i_Rel (k + 4) u' v') v v1) u v1 := by
  obtain ⟨dn, dg, dl, c, s, sn, sg, sl, sc, lt, had, hc, hs, hn, hg, hl, rfl, rfl⟩ := I
  unfold wpX_fewest
  rcases pl_dec v1 256 (by decide) with h | ⟨g, h1, rfl⟩
  · exact pl_xFS_no h (br_t rfl (pl_yF_no h ⟨rfl, pl_rel hc hs hn hg hl⟩))
  refine pl_xFS_ok h1 (br_f (by decide) ?_)
  refine pl_xMS hc hs hn hg hl fun sn sg sl sc lt v hJ hL hM => ?_
  refine pl_xLL h1 hL hM fun l hl' => ?_
  have h9 := hl'.1
  refine pk_eq l 9 (fun e => ?_) (fun e => ?_) rfl rfl (by omega) (by decide)
  · refine pl_yF h1 hs hc hn hg hl (fun had _ => ⟨rfl, pl_rel hc hs hn hg hl⟩) (fun had k hk y z => ?_)
    exact absurd (pl_Le_first hl' hk y z) (by omega)
  · refine pl_yF h1 hs hc hn hg hl (fun had z => absurd (pl_Le_none hl' z) e) (fun had k hk y z => ?_)
    rw [pl_Le_first hl' hk y z]
    exact ⟨rfl, pl_rel hc hs hn hg hl⟩
theorem i_vc_within {k : Nat} {u : SX} {v : SY} (I : i_Rel k u v) (hk : k + 4 ≤ 2048) (v1 : Int32) : wpX_within (fun r u' => wpY_within (fun r' v' => r' = r ∧ i_Rel (k + 4) u' v') v v1) u v1 := by
  obtain ⟨dn, dg, dl, c, s, sn, sg, sl, sc, lt, had, hc, hs, hn, hg, hl, rfl, rfl⟩ := I
  unfold wpX_within
  rcases pl_dec v1 9 (by decide) with h | ⟨n, h1, rfl⟩
  · refine pl_xLC_no h (br_t rfl ?_)
    by_cases h0 : v1 < 0
    · exact br_t h0 ⟨rfl, pl_rel hc hs hn hg hl⟩
    · have h9 : (8 : Int32) < v1 := pl_gt (a := 8) (by decide) (h.resolve_left h0)
      exact br_f h0 (br_f (fun z => absurd h9 (Int32.not_lt.mpr z)) ⟨rfl, pl_rel hc hs hn hg hl⟩)
  refine pl_xLC_ok h1 (br_f (by decide) ?_)
  refine pl_xMS hc hs hn hg hl fun sn sg sl sc lt v hJ hL hM => ?_
  refine ⟨257, pl_xW1 (show n ≤ 8 by omega) hL hM (fun w hw => ?_) 256 0 0 rfl (pl_w_0 (f := fun j => j))⟩
  refine br_f (nI_pos (by omega)) (br_t (nI_le (b := 8) (by omega) (by decide)) (pl_yS hs hc hn hg hl fun had hH => ?_))
  refine ⟨256 * (n + 1) + 1, pl_yW1 (show n ≤ 8 by omega) hH (fun w' hw' => ?_) (256 * (n + 1)) 0 0 (Nat.zero_add _) (pl_w_0 (f := fun j => j % 256))⟩
  rw [pl_w_eq (fun s hs => pl_T_rf hs) hw hw']
  exact ⟨rfl, pl_rel hc hs hn hg hl⟩
theorem i_vc_together {k : Nat} {u : SX} {v : SY} (I : i_Rel k u v) (hk : k + 4 ≤ 2048) (v1 : Int32) (v2 : Int32) (v3 : Int32) : wpX_together (fun r u' => wpY_together (fun r' v' => r' = r ∧ i_Rel (k + 4) u' v') v v1 v2 v3) u v1 v2 v3 := by
  obtain ⟨dn, dg, dl, c, s, sn, sg, sl, sc, lt, had, hc, hs, hn, hg, hl, rfl, rfl⟩ := I
  have J : i_Rel (k + 4) (nI c, nI s, pl_N dn, pl_N dg, pl_N dl, sn, sg, sl, sc, lt) (nI c, nI s, pl_N dn, pl_N dg, pl_N dl, had) := pl_rel hc hs hn hg hl
  unfold wpX_together
  rcases pl_dec v1 8 (by decide) with h | ⟨f, hf, rfl⟩
  · refine pl_xIF_no h (br_t rfl ?_)
    by_cases h0 : v1 < 0
    · exact br_t h0 ⟨rfl, J⟩
    · exact br_f h0 (br_t (pl_gt (a := 7) (by decide) (h.resolve_left h0)) ⟨rfl, J⟩)
  have f0 : ¬ nI f < 0 := nI_pos (by omega)
  have f7 : ¬ (7 : Int32) < nI f := nI_nlt (a := 7) (by omega) (by decide)
  refine pl_xIF_ok hf (br_f (by decide) ?_)
  rcases pl_dec v2 8 (by decide) with h | ⟨f', hf', rfl⟩
  · refine pl_xIF_no h (br_t rfl (br_f f0 (br_f f7 ?_)))
    by_cases h0 : v2 < 0
    · exact br_t h0 ⟨rfl, J⟩
    · exact br_f h0 (br_t (pl_gt (a := 7) (by decide) (h.resolve_left h0)) ⟨rfl, J⟩)
  have f0' : ¬ nI f' < 0 := nI_pos (by omega)
  have f7' : ¬ (7 : Int32) < nI f' := nI_nlt (a := 7) (by omega) (by decide)
  refine pl_xIF_ok hf' (br_f (by decide) ?_)
  rcases pl_dec v3 9 (by decide) with h | ⟨n, h1, rfl⟩
  · refine pl_xLC_no h (br_t rfl (br_f f0 (br_f f7 (br_f f0' (br_f f7' ?_)))))
    by_cases h0 : v3 < 0
    · exact br_t h0 ⟨rfl, J⟩
    · have h9 : (8 : Int32) < v3 := pl_gt (a := 8) (by decide) (h.resolve_left h0)
      exact br_f h0 (br_f (fun z => absurd h9 (Int32.not_lt.mpr z)) ⟨rfl, J⟩)
  refine pl_xLC_ok h1 (br_f (by decide) ?_)
  refine pl_xMS hc hs hn hg hl fun sn sg sl sc lt v hJ hL hM => ?_
  have eb : ((1 : Int32) <<< (nI f &&& 31)) ||| ((1 : Int32) <<< (nI f' &&& 31)) = nI (2 ^ f ||| 2 ^ f') := by rw [pl_p2 (by omega), pl_p2 (by omega), pl_or]
  have hb : 2 ^ f ||| 2 ^ f' < 256 := Nat.or_lt_two_pow (n := 8) (Nat.pow_lt_pow_right (by decide) hf) (Nat.pow_lt_pow_right (by decide) hf')
  refine nm_r eb (pl_xLL hb hL hM fun l hl' => ?_)
  have h9 := hl'.1
  have key := hl'.2 n (by omega)
  refine pk_lt n l (fun e => ?_) (fun e => ?_) rfl rfl (by omega) (by omega)
  · refine br_f f0 (br_f f7 (br_f f0' (br_f f7' (br_f (nI_pos (by omega)) (br_t (nI_le (b := 8) (by omega) (by decide)) (pl_yS hs hc hn hg hl fun had hH => ?_))))))
    exact pl_ySv eb rfl hb (by omega) hH (fun y => absurd (key.mpr y) (by omega)) (fun y => ⟨pl_fit0, rfl, pl_rel hc hs hn hg hl⟩)
  · refine br_f f0 (br_f f7 (br_f f0' (br_f f7' (br_f (nI_pos (by omega)) (br_t (nI_le (b := 8) (by omega) (by decide)) (pl_yS hs hc hn hg hl fun had hH => ?_))))))
    exact pl_ySv eb rfl hb (by omega) hH (fun y => ⟨pl_fit1, rfl, pl_rel hc hs hn hg hl⟩) (fun y => absurd (key.mp e) y)
theorem i_vc_begins {k : Nat} {u : SX} {v : SY} (I : i_Rel k u v) (hk : k + 4 ≤ 2048) (v1 : Int32) (v2 : Int32) : wpX_begins (fun r u' => wpY_begins (fun r' v' => r' = r ∧ i_Rel (k + 4) u' v') v v1 v2) u v1 v2 := by
  obtain ⟨dn, dg, dl, c, s, sn, sg, sl, sc, lt, had, hc, hs, hn, hg, hl, rfl, rfl⟩ := I
  unfold wpX_begins
  rcases pl_dec v1 256 (by decide) with h | ⟨g, h1, rfl⟩
  · refine pl_xFS_no h (br_t rfl ?_)
    unfold wpY_begins
    exact pl_yF_no h (br_t (by decide) ⟨rfl, pl_rel hc hs hn hg hl⟩)
  refine pl_xFS_ok h1 (br_f (by decide) ?_)
  rcases pl_dec v2 c (by omega) with h | ⟨i, hi, rfl⟩
  · refine pl_xIA_no h (br_t rfl ?_)
    unfold wpY_begins
    refine pl_yF h1 hs hc hn hg hl (fun had _ => br_t (by decide) ⟨rfl, pl_rel hc hs hn hg hl⟩) (fun had n _ _ _ => ?_)
    exact br_c (fun _ => ⟨rfl, pl_rel hc hs hn hg hl⟩) (fun _ => pl_yIA_no h (br_t rfl ⟨rfl, pl_rel hc hs hn hg hl⟩))
  refine pl_xIA_ok hc hi (br_f (by decide) ?_)
  refine pl_xMS hc hs hn hg hl fun sn sg sl sc lt v hJ hL hM => ?_
  refine pl_xLL h1 hL hM fun l hl' => ?_
  have h9 := hl'.1
  refine pk_eq l 0 (fun e => ?_) (fun e => ?_) rfl rfl (by omega) (by decide)
  · unfold wpY_begins
    refine pl_yF h1 hs hc hn hg hl (fun had _ => br_t (by decide) ⟨rfl, pl_rel hc hs hn hg hl⟩) (fun had n hn8 y z => ?_)
    have en := pl_Le_first hl' hn8 y z
    exact br_t (nI_lt (b := 1) (by omega) (by decide)) ⟨rfl, pl_rel hc hs hn hg hl⟩
  refine pk_eq l 9 (fun e9 => ?_) (fun e9 => ?_) rfl rfl (by omega) (by decide)
  · unfold wpY_begins
    refine pl_yF h1 hs hc hn hg hl (fun had _ => br_t (by decide) ⟨rfl, pl_rel hc hs hn hg hl⟩) (fun had n hn8 y z => ?_)
    exact absurd (pl_Le_first hl' hn8 y z) (by omega)
  refine pl_xMA hc hs hi hn hg hJ fun lt v hL hM => ?_
  refine pl_xLL h1 hL hM fun l' hl2 => ?_
  have h9' := hl2.1
  have key := pl_begins hs (by omega) (by omega) hl' hl2
  have el : nI l - 1 = nI (l - 1) := pk_sub (b := 1) (by omega)
  refine pk_eq l' (l - 1) (fun q => ?_) (fun q => ?_) rfl el (by omega) (by omega)
  · unfold wpY_begins
    refine pl_yF h1 hs hc hn hg hl (fun had z => absurd (pl_Le_none hl' z) e9) (fun had n hn8 y z => ?_)
    rw [← pl_Le_first hl' hn8 y z]
    refine br_f (nI_nlt (b := 1) (by omega) (by omega)) (pl_yIA_ok hc hi (br_f (by decide) ⟨2 ^ c + 1, ?_⟩))
    exact pl_yB1 h1 hs hc hi (by omega) (by omega) hn hg hl (fun had _ => ⟨rfl, pl_rel hc hs hn hg hl⟩) (fun had no => absurd (key.mp q) no) (2 ^ c) 0 had (Nat.zero_add _) fun m' h => absurd h (Nat.not_lt_zero m')
  · unfold wpY_begins
    refine pl_yF h1 hs hc hn hg hl (fun had z => absurd (pl_Le_none hl' z) e9) (fun had n hn8 y z => ?_)
    rw [← pl_Le_first hl' hn8 y z]
    refine br_f (nI_nlt (b := 1) (by omega) (by omega)) (pl_yIA_ok hc hi (br_f (by decide) ⟨2 ^ c + 1, ?_⟩))
    exact pl_yB1 h1 hs hc hi (by omega) (by omega) hn hg hl (fun had y => absurd (key.mpr y) q) (fun had no => ⟨rfl, pl_rel hc hs hn hg hl⟩) (2 ^ c) 0 had (Nat.zero_add _) fun m' h => absurd h (Nat.not_lt_zero m')
theorem i_vc_advance {k : Nat} {u : SX} {v : SY} (I : i_Rel k u v) (hk : k + 4 ≤ 2048) (v1 : Int32) : wpX_advance (fun r u' => wpY_advance (fun r' v' => r' = r ∧ i_Rel (k + 4) u' v') v v1) u v1 := by
  obtain ⟨dn, dg, dl, c, s, sn, sg, sl, sc, lt, had, hc, hs, hn, hg, hl, rfl, rfl⟩ := I
  have h7 := pl_p7 hc
  have e2 : (1 : Int32) <<< (nI c &&& 31) = nI (2 ^ c) := pl_p2 (by omega)
  rcases pl_dec v1 (2 ^ c) (by omega) with h | ⟨m, hm, rfl⟩
  · by_cases h0 : v1 < 0
    · exact br_t h0 (br_t h0 ⟨rfl, pl_rel hc hs hn hg hl⟩)
    · have hno : ¬ v1 < (1 : Int32) <<< (nI c &&& 31) := by rw [e2]; exact Int32.not_lt.mpr (h.resolve_left h0)
      exact br_f h0 (br_f hno (br_f h0 (br_f hno ⟨rfl, pl_rel hc hs hn hg hl⟩)))
  · have h0 : ¬ nI m < 0 := nI_pos (by omega)
    have hy : nI m < (1 : Int32) <<< (nI c &&& 31) := by rw [e2]; exact nI_lt hm (by omega)
    refine br_f h0 (br_t hy (pl_xJS hl hc fun sn sg sl sc hJ => ?_))
    refine pl_xCB hc hn hs hm hJ (fun ok => br_f (by decide) (pl_xSA hc hm hJ ?_)) (fun no => br_t rfl ?_)
    · have ha : pl_af dg dl c m s < 256 := pl_af_lt hg hs
      exact br_f h0 (br_t hy (pl_yA rfl hs hn hl hc hm (fun _ => br_t (nI_pos' (by omega)) ⟨rfl, pl_rel hc ha hn hg hl⟩) (fun no => absurd ok no)))
    · exact br_f h0 (br_t hy (pl_yA rfl hs hn hl hc hm (fun ok => absurd ok no) (fun _ => br_f (by decide) ⟨rfl, pl_rel hc hs hn hg hl⟩)))
theorem i_vc_state {k : Nat} {u : SX} {v : SY} (I : i_Rel k u v) (hk : k + 4 ≤ 2048) : wpX_state (fun r => wpY_state (fun r' => r' = r ∧ i_Rel (k + 4) u v) v) u := by
  obtain ⟨dn, dg, dl, c, s, sn, sg, sl, sc, lt, had, hc, hs, hn, hg, hl, rfl, rfl⟩ := I
  exact ⟨rfl, pl_rel hc hs hn hg hl⟩
