/-! the methods: what is owed -/
theorem i_vc_begin {k : Nat} {u : SX} {v : SY} (I : i_Rel k u v) (hk : k + 4 ≤ 2048) : wpX_begin (fun u' => wpY_begin (fun v' => i_Rel (k + 4) u' v') v) u := by
  obtain ⟨n, a, b, z, w, rfl, rfl, hn, ha, hb, hz⟩ := I
  exact sd_rel (k := k + 4) (n := 0) (by omega) ha hb hz
theorem i_vc_feed {k : Nat} {u : SX} {v : SY} (I : i_Rel k u v) (hk : k + 4 ≤ 2048) (v1 : Int32) : wpX_feed (fun r u' => wpY_feed (fun r' v' => r' = r ∧ i_Rel (k + 4) u' v') v v1) u v1 := by
  obtain ⟨n, a, b, z, w, rfl, rfl, hn, ha, hb, hz⟩ := I
  unfold wpX_feed wpY_feed
  dsimp only
  refine sd_room n 1 hn (by omega) (fun h => br_f sd_n1 (sd_app n (by omega) ?_)) (fun h => br_t rfl ?_)
  · dsimp only
    unfold wpY_feedRun
    dsimp only
    rw [sd_96 hn]
    refine br_t (nI_le (a := 1) (by omega) (by omega)) ⟨2, ?_⟩
    refine br_f (nI_ge (a := 0) (b := 1) (by omega) (by omega)) ?_
    rw [Int32.zero_mul, Int32.add_zero, Int32.add_zero]
    refine ⟨vp_in_nI (by omega) (by omega), fun a2 e2 x ex => ?_⟩
    rw [nI_clamp (by omega)] at e2
    subst e2 ex
    exact br_t (by decide) (br_f (by decide) (nm_r (nI_1 n) ⟨rfl, sd_rel (by omega) (sd_Mu ha _ (sd_and _)) hb hz⟩))
  · unfold wpY_feedRun
    dsimp only
    rw [sd_96 hn]
    exact br_f (nI_ge (b := 1) (by omega) (by omega)) ⟨rfl, sd_rel hn ha hb hz⟩
theorem i_vc_feedRun {k : Nat} {u : SX} {v : SY} (I : i_Rel k u v) (hk : k + 4 ≤ 2048) (v1 : Int32) (v2 : Int32) (v3 : Int32) : wpX_feedRun (fun r u' => wpY_feedRun (fun r' v' => r' = r ∧ i_Rel (k + 4) u' v') v v1 v2 v3) u v1 v2 v3 := by
  obtain ⟨n, a, b, z, w, rfl, rfl, hn, ha, hb, hz⟩ := I
  unfold wpX_feedRun wpY_feedRun
  dsimp only
  rw [sd_96 hn]
  by_cases h0 : v3 < 0
  · refine br_f (sd_nle h0) ?_
    unfold wX_feedRun_9
    refine sd_room n 0 hn (by omega) (fun h => br_f sd_n1 ⟨1, ?_⟩) (fun h => absurd h (by omega))
    refine br_t (nI_le (a := 0) (b := 0) (by omega) (by omega)) (br_t (sd_neg h0 (nI_pos (by omega))) ⟨1, ?_⟩)
    exact br_t (Int32.le_of_lt h0) (br_t (Int32.le_of_lt h0) ⟨rfl, sd_rel hn ha hb hz⟩)
  · obtain ⟨c, hc, rfl⟩ := nI_of h0
    refine br_t (nI_pos' hc) ?_
    unfold wX_feedRun_9
    refine sd_room n c hn hc (fun h => br_f sd_n1 ?_) (fun h => br_t rfl ?_)
    · obtain ⟨a', h1, hX, hY⟩ := sd_run v1 v2 b z w c n h c 0 (by omega) a ha
      refine ⟨c + 1, hX _ (br_t (nI_le (by omega) (by omega)) ⟨c + 1, hY _ ⟨rfl, ?_⟩⟩)⟩
      exact sd_rel h h1 hb hz
    · exact br_f (nI_ge (by omega) hc) ⟨rfl, sd_rel hn ha hb hz⟩
theorem i_vc_feedFrom {k : Nat} {u : SX} {v : SY} (I : i_Rel k u v) (hk : k + 4 ≤ 2048) (v1 : Int32) (v2 : Int32) (v3 : Int32) : wpX_feedFrom (fun r u' => wpY_feedFrom (fun r' v' => r' = r ∧ i_Rel (k + 4) u' v') v v1 v2 v3) u v1 v2 v3 := by
  obtain ⟨n, a, b, z, w, rfl, rfl, hn, ha, hb, hz⟩ := I
  unfold wpX_feedFrom wpY_feedFrom
  dsimp only
  obtain ⟨rx, ry, hX, hY, hc⟩ := sd_look (nI n) a b w hz v1
  refine hX _ ?_
  rcases hc with ⟨rfl, rfl⟩ | ⟨rfl, rfl⟩ | ⟨j, m, hj, rfl, hm, ez, rfl, rfl⟩
  · exact br_f sd_g2 (hY _ (br_f sd_n2 ⟨rfl, sd_rel hn ha hb hz⟩))
  · exact br_f sd_g4 (hY _ (br_f sd_n4 ⟨rfl, sd_rel hn ha hb hz⟩))
  · refine br_t (nI_pos' (by omega)) ?_
    have hin : vp_in (nI j) 6 := vp_in_nI hj (by omega)
    have ecl : (nI j).toNatClampNeg = j := nI_clamp (by omega)
    rw [ecl, ez, sd_96 hn]
    rcases sd_rng v2 v3 m with h | ⟨f, c, rfl, rfl, h⟩
    · refine sd_rX0 hm h (br_t rfl (hY _ (br_t rfl ?_)))
      rcases h with h | ⟨h0, h⟩ | ⟨i, c, hi, hc, rfl, rfl, h⟩
      · exact br_t h ⟨rfl, sd_rel hn ha hb hz⟩
      · exact br_f h0 (br_t h ⟨rfl, sd_rel hn ha hb hz⟩)
      · refine br_f (nI_pos hi) (br_f (nI_pos hc) ⟨hin, ?_⟩)
        refine pk_lt m i (fun hl => ⟨rfl, sd_rel hn ha hb hz⟩) (fun hl => ⟨hin, ?_⟩)
        rw [pk_sub hl]
        exact br_f (nI_ge (by omega) hc) ⟨rfl, sd_rel hn ha hb hz⟩
    · rw [pk_sub (a := m) (b := f) (by omega)]
      refine sd_rX1 hm h (br_f sd_n1 (sd_room n c hn (by omega) (fun h2 => br_f sd_n1 (fun x ex => ?_)) (fun h2 => br_t rfl ?_)))
      · rw [sd_m96, nI_add] at ex
        subst ex
        obtain ⟨a', h1, hX2, hY2⟩ := sd_from b z w hb c n j f h2 hj (by omega) c 0 (by omega) a ha
        exact ⟨c + 1, hX2 _ (hY _ (br_t rfl (br_f (nI_pos (by omega)) (br_f (nI_pos (by omega)) ⟨hin, br_f (nI_nlt (by omega) (by omega)) ⟨hin, br_t (nI_le (by omega) (by omega)) (br_t (nI_le (by omega) (by omega)) ⟨c + 1, hY2 _ ⟨rfl, sd_rel h2 h1 hb hz⟩⟩)⟩⟩))))⟩
      · exact hY _ (br_t rfl (br_f (nI_pos (by omega)) (br_f (nI_pos (by omega)) ⟨hin, br_f (nI_nlt (by omega) (by omega)) ⟨hin, br_t (nI_le (by omega) (by omega)) (br_f (nI_ge (by omega) (by omega)) ⟨rfl, sd_rel hn ha hb hz⟩)⟩⟩)))
theorem i_vc_poke {k : Nat} {u : SX} {v : SY} (I : i_Rel k u v) (hk : k + 4 ≤ 2048) (v1 : Int32) (v2 : Int32) : wpX_poke (fun r u' => wpY_poke (fun r' v' => r' = r ∧ i_Rel (k + 4) u' v') v v1 v2) u v1 v2 := by
  obtain ⟨n, a, b, z, w, rfl, rfl, hn, ha, hb, hz⟩ := I
  unfold wpX_poke wpY_poke
  dsimp only
  rcases sd_at v1 n with h | ⟨j, hj, rfl⟩
  · refine sd_ixB h (br_t rfl ?_)
    rcases h with h | ⟨j, h, hj, rfl⟩
    · exact br_t h ⟨rfl, sd_rel hn ha hb hz⟩
    · exact br_f (nI_pos hj) (br_f (nI_nlt h hj) ⟨rfl, sd_rel hn ha hb hz⟩)
  · have hin : vp_in (nI j) 96 := vp_in_nI (by omega) (by omega)
    refine sd_ixT hj (by omega) (br_f sd_n1 ⟨hin, fun x ex => ⟨hin, fun a2 e2 => br_f (nI_pos (by omega)) (br_t (nI_lt hj (by omega)) ⟨hin, fun y ey => ⟨hin, fun a3 e3 => ?_⟩⟩)⟩⟩)
    subst ex ey e2 e3
    exact ⟨rfl, sd_rel hn (sd_Mu ha _ (sd_and _)) hb hz⟩
theorem i_vc_insert {k : Nat} {u : SX} {v : SY} (I : i_Rel k u v) (hk : k + 4 ≤ 2048) (v1 : Int32) (v2 : Int32) : wpX_insert (fun r u' => wpY_insert (fun r' v' => r' = r ∧ i_Rel (k + 4) u' v') v v1 v2) u v1 v2 := by
  obtain ⟨n, a, b, z, w, rfl, rfl, hn, ha, hb, hz⟩ := I
  unfold wpX_insert wpY_insert
  dsimp only
  rcases sd_at v1 (n + 1) with h | ⟨p, hp, rfl⟩
  · rcases h with h | ⟨j, h, hj, rfl⟩
    · exact br_t h (br_t h ⟨rfl, sd_rel hn ha hb hz⟩)
    · exact br_f (nI_pos hj) (br_f (nI_ge h hj) (br_f (nI_pos hj) (br_f (nI_ge h hj) ⟨rfl, sd_rel hn ha hb hz⟩)))
  · have hp0 : ¬ nI p < 0 := nI_pos (by omega)
    have hpn : nI p ≤ nI n := nI_le (by omega) (by omega)
    refine br_f hp0 (br_t hpn (sd_room n 1 hn (by omega) (fun h => br_f sd_n1 ?_) (fun h => br_t rfl ?_)))
    · obtain ⟨d, rfl⟩ : ∃ d, n = p + d := ⟨n - p, by omega⟩
      obtain ⟨a', h1, hX, hY⟩ := sd_ins v2 b z w p (p + d) (by omega) d (by omega) a ha
      exact ⟨d + 1, hX _ (br_f hp0 (br_t hpn (br_t (nI_lt (b := 96) (by omega) (by omega)) ⟨d + 1, hY _ ⟨rfl, sd_rel (by omega) h1 hb hz⟩⟩)))⟩
    · exact br_f hp0 (br_t hpn (br_f (nI_nlt (b := 96) (by omega) (by omega)) ⟨rfl, sd_rel hn ha hb hz⟩))
theorem i_vc_cut {k : Nat} {u : SX} {v : SY} (I : i_Rel k u v) (hk : k + 4 ≤ 2048) (v1 : Int32) (v2 : Int32) : wpX_cut (fun r u' => wpY_cut (fun r' v' => r' = r ∧ i_Rel (k + 4) u' v') v v1 v2) u v1 v2 := by
  obtain ⟨n, a, b, z, w, rfl, rfl, hn, ha, hb, hz⟩ := I
  unfold wpX_cut wpY_cut
  dsimp only
  rcases sd_rng v1 v2 n with h | ⟨p, c, rfl, rfl, h⟩
  · refine sd_rX0 hn h (br_t rfl ?_)
    rcases h with h | ⟨h0, h⟩ | ⟨i, c, hi, hc, rfl, rfl, h⟩
    · exact br_t h ⟨rfl, sd_rel hn ha hb hz⟩
    · exact br_f h0 (br_t h ⟨rfl, sd_rel hn ha hb hz⟩)
    · refine br_f (nI_pos hi) (br_f (nI_pos hc) (pk_lt n i (fun hl => ⟨rfl, sd_rel hn ha hb hz⟩) (fun hl => ?_)))
      rw [pk_sub hl]
      exact br_f (nI_ge (by omega) hc) ⟨rfl, sd_rel hn ha hb hz⟩
  · rw [pk_sub (a := n) (b := p) (by omega)]
    refine sd_rX1 hn h (br_f sd_n1 (nm_r (nI_add p c) ?_))
    obtain ⟨a', h1, hX, hY⟩ := sd_cut b z w c n hn (n - (p + c)) p (by omega) a ha
    exact ⟨_, hX _ (br_f (nI_pos (by omega)) (br_f (nI_pos (by omega)) (br_f (nI_nlt (by omega) (by omega)) (br_t (nI_le (by omega) (by omega)) ⟨_, hY _ ⟨rfl, sd_rel (by omega) h1 hb hz⟩⟩))))⟩
theorem i_vc_save {k : Nat} {u : SX} {v : SY} (I : i_Rel k u v) (hk : k + 4 ≤ 2048) (v1 : Int32) : wpX_save (fun r u' => wpY_save (fun r' v' => r' = r ∧ i_Rel (k + 4) u' v') v v1) u v1 := by
  obtain ⟨n, a, b, z, w, rfl, rfl, hn, ha, hb, hz⟩ := I
  unfold wpX_save wpY_save
  dsimp only
  rcases sd_at v1 6 with h | ⟨j, hj, rfl⟩
  · exact sd_ixB h (br_t rfl (sd_yBad h (br_t rfl ⟨rfl, sd_rel hn ha hb hz⟩)))
  · refine sd_ixT (n := 6) hj (by omega) (br_f sd_n1 ⟨vp_in_nI hj (by omega), ?_⟩)
    rw [nI_clamp (by omega)]
    refine br_c (fun hw => nm_r (sd_m96 j) ?_) (fun hw => sd_yYes hj hw (br_f sd_n02 (br_t rfl ⟨rfl, sd_rel hn ha hb hz⟩)))
    obtain ⟨b', h1, hX, hY⟩ := sd_save a z w ha j n hj hn n 0 (by omega) b hb
    exact ⟨_, hX _ (sd_yNo hj hw (br_f sd_n42 (br_f sd_n4 ⟨_, hY _ ⟨rfl, sd_rel hn ha h1 (sd_Zu hz _ hn)⟩⟩)))⟩
theorem i_vc_drop {k : Nat} {u : SX} {v : SY} (I : i_Rel k u v) (hk : k + 4 ≤ 2048) (v1 : Int32) : wpX_drop (fun r u' => wpY_drop (fun r' v' => r' = r ∧ i_Rel (k + 4) u' v') v v1) u v1 := by
  obtain ⟨n, a, b, z, w, rfl, rfl, hn, ha, hb, hz⟩ := I
  unfold wpX_drop wpY_drop
  dsimp only
  obtain ⟨rx, ry, hX, hY, hc⟩ := sd_look (nI n) a b w hz v1
  refine hX _ ?_
  rcases hc with ⟨rfl, rfl⟩ | ⟨rfl, rfl⟩ | ⟨j, m, hj, rfl, hm, ez, rfl, rfl⟩
  · exact br_t sd_l2 (hY _ (br_f sd_n2 ⟨rfl, sd_rel hn ha hb hz⟩))
  · exact br_t sd_l4 (hY _ (br_f sd_n4 ⟨rfl, sd_rel hn ha hb hz⟩))
  · have hin : vp_in (nI j) 6 := vp_in_nI hj (by omega)
    rw [nI_clamp (by omega), ez]
    refine br_f (nI_pos (by omega)) ⟨hin, fun w2 e2 => hY _ (br_t rfl ⟨hin, fun w3 e3 => ⟨hin, ?_⟩⟩)⟩
    subst e2 e3
    exact ⟨rfl, sd_rel hn ha hb hz⟩
theorem i_vc_stageLength {k : Nat} {u : SX} {v : SY} (I : i_Rel k u v) (hk : k + 4 ≤ 2048) : wpX_stageLength (fun r => wpY_stageLength (fun r' => r' = r ∧ i_Rel (k + 4) u v) v) u := by
  obtain ⟨n, a, b, z, w, rfl, rfl, hn, ha, hb, hz⟩ := I
  exact ⟨rfl, sd_rel hn ha hb hz⟩
theorem i_vc_stageByte {k : Nat} {u : SX} {v : SY} (I : i_Rel k u v) (hk : k + 4 ≤ 2048) (v1 : Int32) : wpX_stageByte (fun r => wpY_stageByte (fun r' => r' = r ∧ i_Rel (k + 4) u v) v v1) u v1 := by
  obtain ⟨n, a, b, z, w, rfl, rfl, hn, ha, hb, hz⟩ := I
  unfold wpX_stageByte wpY_stageByte
  dsimp only
  rcases sd_at v1 n with h | ⟨j, hj, rfl⟩
  · refine sd_ixB h (br_t rfl ?_)
    rcases h with h | ⟨j, h, hj, rfl⟩
    · exact br_t h ⟨rfl, sd_rel hn ha hb hz⟩
    · exact br_f (nI_pos hj) (br_f (nI_nlt h hj) ⟨rfl, sd_rel hn ha hb hz⟩)
  · have hin : vp_in (nI j) 96 := vp_in_nI (by omega) (by omega)
    exact sd_ixT hj (by omega) (br_f sd_n1 ⟨hin, br_f (nI_pos (by omega)) (br_t (nI_lt hj (by omega)) ⟨hin, rfl, sd_rel hn ha hb hz⟩)⟩)
theorem i_vc_length {k : Nat} {u : SX} {v : SY} (I : i_Rel k u v) (hk : k + 4 ≤ 2048) (v1 : Int32) : wpX_length (fun r => wpY_length (fun r' => r' = r ∧ i_Rel (k + 4) u v) v v1) u v1 := by
  obtain ⟨n, a, b, z, w, rfl, rfl, hn, ha, hb, hz⟩ := I
  unfold wpX_length wpY_length
  dsimp only
  obtain ⟨rx, ry, hX, hY, hc⟩ := sd_look (nI n) a b w hz v1
  refine hX _ ?_
  rcases hc with ⟨rfl, rfl⟩ | ⟨rfl, rfl⟩ | ⟨j, m, hj, rfl, hm, ez, rfl, rfl⟩
  · exact hY _ (br_f sd_n2 ⟨rfl, sd_rel hn ha hb hz⟩)
  · exact hY _ (br_f sd_n4 ⟨rfl, sd_rel hn ha hb hz⟩)
  · rw [nI_clamp (by omega), ez]
    exact hY _ (br_t rfl ⟨vp_in_nI hj (by omega), rfl, sd_rel hn ha hb hz⟩)
theorem i_vc_byteAt {k : Nat} {u : SX} {v : SY} (I : i_Rel k u v) (hk : k + 4 ≤ 2048) (v1 : Int32) (v2 : Int32) : wpX_byteAt (fun r => wpY_byteAt (fun r' => r' = r ∧ i_Rel (k + 4) u v) v v1 v2) u v1 v2 := by
  obtain ⟨n, a, b, z, w, rfl, rfl, hn, ha, hb, hz⟩ := I
  unfold wpX_byteAt wpY_byteAt
  dsimp only
  obtain ⟨rx, ry, hX, hY, hc⟩ := sd_look (nI n) a b w hz v1
  refine hX _ ?_
  rcases hc with ⟨rfl, rfl⟩ | ⟨rfl, rfl⟩ | ⟨j, m, hj, rfl, hm, ez, rfl, rfl⟩
  · exact br_f sd_g2 (hY _ (br_f sd_n2 ⟨rfl, sd_rel hn ha hb hz⟩))
  · exact br_f sd_g4 (hY _ (br_f sd_n4 ⟨rfl, sd_rel hn ha hb hz⟩))
  · have hin : vp_in (nI j) 6 := vp_in_nI hj (by omega)
    have ecl : (nI j).toNatClampNeg = j := nI_clamp (by omega)
    rw [ecl, ez]
    refine br_t (nI_pos' (by omega)) ?_
    rcases sd_at v2 m with h | ⟨i, hi, rfl⟩
    · refine sd_ixB h (br_t rfl (hY _ (br_t rfl ?_)))
      rcases h with h | ⟨i, h, hi, rfl⟩
      · exact br_t h ⟨rfl, sd_rel hn ha hb hz⟩
      · exact br_f (nI_pos hi) ⟨hin, br_f (nI_nlt h hi) ⟨rfl, sd_rel hn ha hb hz⟩⟩
    · rw [sd_m96, nI_add]
      have hi2 : vp_in (nI (j * 96 + i)) 576 := vp_in_nI (by omega) (by omega)
      exact sd_ixT hi (by omega) (br_f sd_n1 ⟨hi2, hY _ (br_t rfl (br_f (nI_pos (by omega)) ⟨hin, br_t (nI_lt hi (by omega)) ⟨hi2, rfl, sd_rel hn ha hb hz⟩⟩))⟩)
theorem i_vc_sum {k : Nat} {u : SX} {v : SY} (I : i_Rel k u v) (hk : k + 4 ≤ 2048) (v1 : Int32) : wpX_sum (fun r => wpY_sum (fun r' => r' = r ∧ i_Rel (k + 4) u v) v v1) u v1 := by
  obtain ⟨n, a, b, z, w, rfl, rfl, hn, ha, hb, hz⟩ := I
  unfold wpX_sum wpY_sum
  dsimp only
  obtain ⟨rx, ry, hX, hY, hc⟩ := sd_look (nI n) a b w hz v1
  refine hX _ ?_
  rcases hc with ⟨rfl, rfl⟩ | ⟨rfl, rfl⟩ | ⟨j, m, hj, rfl, hm, ez, rfl, rfl⟩
  · exact br_f sd_g2 (hY _ (br_f sd_n2 ⟨rfl, sd_rel hn ha hb hz⟩))
  · exact br_f sd_g4 (hY _ (br_f sd_n4 ⟨rfl, sd_rel hn ha hb hz⟩))
  · obtain ⟨r, hX2, hY2⟩ := sd_sum (nI n) a b z w j m hj hm ez m 0 (by omega) 7
    refine br_t (nI_pos' (by omega)) (nm_r (sd_m96 j) ⟨_, hX2 _ (hY _ (br_t rfl ⟨_, hY2 _ ⟨rfl, sd_rel hn ha hb hz⟩⟩))⟩)
theorem i_vc_commonStart {k : Nat} {u : SX} {v : SY} (I : i_Rel k u v) (hk : k + 4 ≤ 2048) (v1 : Int32) (v2 : Int32) : wpX_commonStart (fun r => wpY_commonStart (fun r' => r' = r ∧ i_Rel (k + 4) u v) v v1 v2) u v1 v2 := by
  obtain ⟨n, a, b, z, w, rfl, rfl, hn, ha, hb, hz⟩ := I
  unfold wpX_commonStart wpY_commonStart
  dsimp only
  obtain ⟨rx, ry, hX, hY, hc⟩ := sd_look (nI n) a b w hz v1
  obtain ⟨qx, qy, kX, kY, kc⟩ := sd_look (nI n) a b w hz v2
  have R : i_Rel (k + 4) (nI n, a, b, z, w) (nI n, a, w, z, b) := sd_rel hn ha hb hz
  refine hX _ (kX _ ?_)
  rcases hc with ⟨rfl, rfl⟩ | ⟨rfl, rfl⟩ | ⟨j, m, hj, rfl, hm, ez, rfl, rfl⟩
  · exact br_t rfl (hY _ (kY _ (br_t rfl ⟨rfl, R⟩)))
  · refine br_f sd_n42 ?_
    rcases kc with ⟨rfl, rfl⟩ | ⟨rfl, rfl⟩ | ⟨i, l, hi, rfl, hl, el, rfl, rfl⟩
    · exact br_t rfl (hY _ (kY _ (br_f sd_n42 (br_t rfl ⟨rfl, R⟩))))
    · exact br_f sd_n42 (br_t sd_l4 (hY _ (kY _ (br_f sd_n42 (br_f sd_n42 (br_f sd_n4 ⟨rfl, R⟩))))))
    · exact br_f (sd_nm2 (by omega)) (br_t sd_l4 (hY _ (kY _ (br_f sd_n42 (br_f sd_n02 (br_f sd_n4 ⟨rfl, R⟩))))))
  · refine br_f (sd_nm2 (by omega)) ?_
    rcases kc with ⟨rfl, rfl⟩ | ⟨rfl, rfl⟩ | ⟨i, l, hi, rfl, hl, el, rfl, rfl⟩
    · exact br_t rfl (hY _ (kY _ (br_f sd_n02 (br_t rfl ⟨rfl, R⟩))))
    · exact br_f sd_n42 (br_f (nI_pos (by omega)) (br_f sd_g4 (hY _ (kY _ (br_f sd_n02 (br_f sd_n42 (br_t rfl (br_f sd_n4 ⟨rfl, R⟩))))))))
    · obtain ⟨r, hX2, hY2⟩ := sd_com (nI n) a b z w j i m l (min m l) hj hi hm hl ez el rfl 96 0 (by omega) (by omega)
      have Y : wpY_missing (fun r_1 => (wpY_missing (fun r_7 => (((r_1 = (-2) → ((-2) = r ∧ i_Rel (k + 4) (nI n, a, b, z, w) (nI n, a, w, z, b))) ∧ (¬ r_1 = (-2) → (((r_7 = (-2) → ((-2) = r ∧ i_Rel (k + 4) (nI n, a, b, z, w) (nI n, a, w, z, b))) ∧ (¬ r_7 = (-2) → (((r_1 = 0 → (((r_7 = 0 → (∃ n47 : Nat, wY_commonStart_47 (fun r' => r' = r ∧ i_Rel (k + 4) (nI n, a, b, z, w) (nI n, a, w, z, b)) (nI j) (nI i) (nI n) a w z b n47 0 0)) ∧ (¬ r_7 = 0 → ((-4) = r ∧ i_Rel (k + 4) (nI n, a, b, z, w) (nI n, a, w, z, b)))))) ∧ (¬ r_1 = 0 → ((-4) = r ∧ i_Rel (k + 4) (nI n, a, b, z, w) (nI n, a, w, z, b)))))))))))) (nI n, a, w, z, b) (nI i))) (nI n, a, w, z, b) (nI j) :=
        hY _ (kY _ (br_f sd_n02 (br_f sd_n02 (br_t rfl (br_t rfl ⟨_, hY2 _ ⟨rfl, R⟩⟩)))))
      refine br_f (sd_nm2 (by omega)) (br_f (nI_pos (by omega)) (br_t (nI_pos' (by omega)) (pk_le l m (fun h => ?_) (fun h => ?_))))
      · rw [Nat.min_eq_right h] at hX2
        exact nm_r (sd_m96 j) (nm_r (sd_m96 i) ⟨_, hX2 _ Y⟩)
      · rw [Nat.min_eq_left (by omega)] at hX2
        exact nm_r (sd_m96 j) (nm_r (sd_m96 i) ⟨_, hX2 _ Y⟩)
