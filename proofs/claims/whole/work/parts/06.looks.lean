theorem i_vc_value {k : Nat} {u : SX} {v : SY} (I : i_Rel k u v) (hk : k + 4 ≤ 2048) (v1 : Int32) : wpX_value (fun r => wpY_value (fun r' => r' = r ∧ i_Rel (k + 4) u v) v v1) u v1 := by
  obtain ⟨n, come, vis, seen, dep, cen, key, val, st, needs, cm, hs, sh, rfl, rfl, hR⟩ := I
  have hn := hR.1
  unfold wpX_value wpY_value
  rcases cz_rng v1 (n := n) (by omega) with h | ⟨a, ha, rfl⟩
  · exact cz_iV0 h (br_t rfl (cz_vY0 h (br_t rfl ⟨rfl, cz_rel hR⟩)))
  · have hi : vp_in (nI a) 40 := vp_in_nI (by omega) (by omega)
    exact cz_iV1 hn ha (br_f cz_1 ⟨hi, cz_vY1 hn ha (br_f cz_1 ⟨hi, rfl, cz_rel hR⟩)⟩)
theorem i_vc_stamp {k : Nat} {u : SX} {v : SY} (I : i_Rel k u v) (hk : k + 4 ≤ 2048) (v1 : Int32) : wpX_stamp (fun r => wpY_stamp (fun r' => r' = r ∧ i_Rel (k + 4) u v) v v1) u v1 := by
  obtain ⟨n, come, vis, seen, dep, cen, key, val, st, needs, cm, hs, sh, rfl, rfl, hR⟩ := I
  have hn := hR.1
  unfold wpX_stamp wpY_stamp
  rcases cz_rng v1 (n := n) (by omega) with h | ⟨a, ha, rfl⟩
  · exact cz_iV0 h (br_t rfl (cz_vY0 h (br_t rfl ⟨rfl, cz_rel hR⟩)))
  · have hi : vp_in (nI a) 40 := vp_in_nI (by omega) (by omega)
    exact cz_iV1 hn ha (br_f cz_1 ⟨hi, cz_vY1 hn ha (br_f cz_1 ⟨hi, rfl, cz_rel hR⟩)⟩)
theorem i_vc_depends {k : Nat} {u : SX} {v : SY} (I : i_Rel k u v) (hk : k + 4 ≤ 2048) (v1 : Int32) (v2 : Int32) : wpX_depends (fun r => wpY_depends (fun r' => r' = r ∧ i_Rel (k + 4) u v) v v1 v2) u v1 v2 := by
  obtain ⟨n, come, vis, seen, dep, cen, key, val, st, needs, cm, hs, sh, rfl, rfl, hR⟩ := I
  have hn := hR.1
  unfold wpX_depends wpY_depends
  rcases cz_rng v1 (n := n) (by omega) with h | ⟨a, ha, rfl⟩
  · exact cz_iV0 h (br_t rfl (cz_vY0 h (br_t rfl ⟨rfl, cz_rel hR⟩)))
  · rcases cz_rng v2 (n := n) (by omega) with h | ⟨b, hb, rfl⟩
    · exact cz_iV1 hn ha (br_f cz_1 (cz_iV0 h (br_t rfl (cz_vY1 hn ha (br_f cz_1 (cz_vY0 h (br_t rfl ⟨rfl, cz_rel hR⟩)))))))
    · refine cz_iV1 hn ha (br_f cz_1 (cz_iV1 hn hb (br_f cz_1 ⟨vp_in_nI (by omega) (by omega), ?_⟩)))
      rw [nI_clamp (show a < 2 ^ 31 by omega)]
      refine cz_has (by omega) ?_
      have hR0 := hR
      obtain ⟨_, hcen, hst, hcm, hcb, hhs, hsb, hnd, hdb, hvis⟩ := hR0
      have hnd1 := hnd a b (by omega) (by omega)
      by_cases hab : a ≤ b
      · rw [hdb a b (by omega) hab]
        exact br_t cz_f (cz_vY1 hn ha (br_f cz_1 (cz_vY1 hn hb (br_f cz_1 (br_t (nI_le hab (by omega)) ⟨rfl, cz_rel hR⟩)))))
      · have hba : ¬ nI a ≤ nI b := nI_ge (by omega) (by omega)
        have hin : vp_in (nI (a * 40 + b)) 1600 := vp_in_nI (by omega) (by omega)
        cases hb1 : cz_bit (dep a) b with
        | false =>
          rw [hb1] at hnd1
          refine br_t cz_f (cz_vY1 hn ha (br_f cz_1 (cz_vY1 hn hb (br_f cz_1 (br_f hba ?_)))))
          rw [cz_ix]
          refine ⟨hin, ?_⟩
          rw [nI_clamp (show a * 40 + b < 2 ^ 31 by omega), hnd1]
          exact br_t cz_f ⟨rfl, cz_rel hR⟩
        | true =>
          rw [hb1] at hnd1
          refine br_f cz_t (cz_vY1 hn ha (br_f cz_1 (cz_vY1 hn hb (br_f cz_1 (br_f hba ?_)))))
          rw [cz_ix]
          refine ⟨hin, ?_⟩
          rw [nI_clamp (show a * 40 + b < 2 ^ 31 by omega), hnd1]
          exact br_f cz_t ⟨rfl, cz_rel hR⟩
theorem i_vc_seen {k : Nat} {u : SX} {v : SY} (I : i_Rel k u v) (hk : k + 4 ≤ 2048) (v1 : Int32) : wpX_seen (fun r => wpY_seen (fun r' => r' = r ∧ i_Rel (k + 4) u v) v v1) u v1 := by
  obtain ⟨n, come, vis, seen, dep, cen, key, val, st, needs, cm, hs, sh, rfl, rfl, hR⟩ := I
  have hn := hR.1
  unfold wpX_seen wpY_seen
  rcases cz_rng v1 (n := 3) (by omega) with h | ⟨c, hc, rfl⟩
  · exact cz_iC0 h (br_t rfl (cz_tY0 h (br_t rfl ⟨rfl, cz_rel hR⟩)))
  · have hR0 := hR
    obtain ⟨_, hcen, hst, hcm, hcb, hhs, hsb, hnd, hdb, hvis⟩ := hR0
    refine cz_iC1 hc (br_f cz_1 ⟨vp_in_nI hc (by omega), ?_⟩)
    rw [nI_clamp (show c < 2 ^ 31 by omega)]
    refine cz_size ?_
    rw [cz_cnt_40 hn (fun j hj => hsb c j hc hj)]
    exact cz_tY1 hc (br_f cz_1 ⟨n + 1, cz_seY _ hn hc (cz_bit (seen c)) (fun v hv => hhs c v hc (by omega)) ⟨rfl, cz_rel hR⟩ n 0 (by omega)⟩)
theorem i_vc_held {k : Nat} {u : SX} {v : SY} (I : i_Rel k u v) (hk : k + 4 ≤ 2048) (v1 : Int32) : wpX_held (fun r => wpY_held (fun r' v' => r' = r ∧ i_Rel (k + 4) u v') v v1) u v1 := by
  obtain ⟨n, come, vis, seen, dep, cen, key, val, st, needs, cm, hs, sh, rfl, rfl, hR⟩ := I
  have hn := hR.1
  unfold wpX_held wpY_held
  rcases cz_rng v1 (n := 3) (by omega) with h | ⟨c, hc, rfl⟩
  · exact cz_iE0 h (br_t rfl (cz_tY0 h (br_t rfl ⟨rfl, cz_rel hR⟩)))
  · have hR0 := hR
    obtain ⟨_, hcen, hst, hcm, hcb, hhs, hsb, hnd, hdb, hvis⟩ := hR0
    have hc2 : vp_in (nI c) 3 := vp_in_nI hc (by omega)
    refine cz_iE1 hc (br_f cz_1 ⟨hc2, hc2, ?_⟩)
    rw [nI_clamp (show c < 2 ^ 31 by omega)]
    refine cz_size ?_
    have e : cz_cnt (cz_bit (come c &&& (vis c ^^^ (-1)))) 40 = cz_cnt (fun v => cz_bit (come c) v && !cz_bit (vis c) v) n := by
      rw [cz_cnt_cong (q := fun v => cz_bit (come c) v && !cz_bit (vis c) v) 40 (fun j _ => cz_andn _ _ j)]
      exact cz_cnt_40 hn (fun j hj => by rw [hcb c j hc hj]; rfl)
    rw [e]
    exact cz_tY1 hc (br_f cz_1 (cz_swN hR hc (fun s hs1 => ⟨n + 1, cz_heY _ hn hc (cz_bit (vis c)) (cz_bit (come c)) hs1 (fun v hv => hcm c v hc (by omega)) ⟨rfl, cz_rel hR⟩ n 0 (by omega)⟩)))
theorem i_vc_visible {k : Nat} {u : SX} {v : SY} (I : i_Rel k u v) (hk : k + 4 ≤ 2048) (v1 : Int32) (v2 : Int32) : wpX_visible (fun r => wpY_visible (fun r' v' => r' = r ∧ i_Rel (k + 4) u v') v v1 v2) u v1 v2 := by
  obtain ⟨n, come, vis, seen, dep, cen, key, val, st, needs, cm, hs, sh, rfl, rfl, hR⟩ := I
  have hn := hR.1
  unfold wpX_visible wpY_visible
  rcases cz_rng v1 (n := n) (by omega) with h | ⟨a, ha, rfl⟩
  · exact cz_iV0 h (br_t rfl (cz_vY0 h (br_t rfl ⟨rfl, cz_rel hR⟩)))
  · rcases cz_rng v2 (n := 3) (by omega) with h | ⟨c, hc, rfl⟩
    · exact cz_iV1 hn ha (br_f cz_1 (cz_iE0 h (br_t rfl (cz_vY1 hn ha (br_f cz_1 (cz_tY0 h (br_t rfl ⟨rfl, cz_rel hR⟩)))))))
    · refine cz_iV1 hn ha (br_f cz_1 (cz_iE1 hc (br_f cz_1 ⟨vp_in_nI hc (by omega), ?_⟩)))
      rw [nI_clamp (show c < 2 ^ 31 by omega)]
      refine cz_has (by omega) ?_
      have hi : vp_in (nI a) 40 := vp_in_nI (by omega) (by omega)
      cases hb1 : cz_bit (vis c) a with
      | false =>
        refine br_t cz_f (cz_vY1 hn ha (br_f cz_1 (cz_tY1 hc (br_f cz_1 (cz_swN hR hc (fun s hs1 => ⟨hi, ?_⟩))))))
        rw [nI_clamp (show a < 2 ^ 31 by omega), hs1 a (by omega), hb1]
        exact ⟨cz_nrw false, rfl, cz_rel hR⟩
      | true =>
        refine br_f cz_t (cz_vY1 hn ha (br_f cz_1 (cz_tY1 hc (br_f cz_1 (cz_swN hR hc (fun s hs1 => ⟨hi, ?_⟩))))))
        rw [nI_clamp (show a < 2 ^ 31 by omega), hs1 a (by omega), hb1]
        exact ⟨cz_nrw true, rfl, cz_rel hR⟩
theorem i_vc_winner {k : Nat} {u : SX} {v : SY} (I : i_Rel k u v) (hk : k + 4 ≤ 2048) (v1 : Int32) (v2 : Int32) : wpX_winner (fun r => wpY_winner (fun r' v' => r' = r ∧ i_Rel (k + 4) u v') v v1 v2) u v1 v2 := by
  obtain ⟨n, come, vis, seen, dep, cen, key, val, st, needs, cm, hs, sh, rfl, rfl, hR⟩ := I
  have hn := hR.1
  unfold wpX_winner
  rcases cz_rng v1 (n := 3) (by omega) with h | ⟨c, hc, rfl⟩
  · unfold wpY_winner
    exact cz_iE0 h (br_t rfl (cz_tY0 h (br_t rfl ⟨rfl, cz_rel hR⟩)))
  · rcases cz_rng v2 (n := 6) (by omega) with h | ⟨q, hq, rfl⟩
    · unfold wpY_winner
      exact cz_iE1 hc (br_f cz_1 (cz_iK0 h (br_t rfl (cz_tY1 hc (br_f cz_1 (cz_kY0 h (br_t rfl ⟨rfl, cz_rel hR⟩)))))))
    · exact cz_iE1 hc (br_f cz_1 (cz_iK1 hq (br_f cz_1 (cz_wiW hc (cz_wnY hR hc hq (fun s => ⟨rfl, cz_rel hR⟩))))))
theorem cz_agX (post : Int32 → Prop) {a b : Nat} (ha : a < 3) (hb : b < 3) {f : Int32} {come vis seen dep : Nat → Int64} {cen key val st : Nat → Int32} (q : Nat → Bool)
    (hq : ∀ k, q k = decide ((cz_wb (fun v => cz_bit (vis a) v && decide (key v = nI k)) st 40).1 = (cz_wb (fun v => cz_bit (vis b) v && decide (key v = nI k)) st 40).1))
    (hp : post (nI (cz_cnt q 6))) : ∀ d i, i + d = 6 → wX_agree_22 post (nI a) (nI b) f come vis seen dep cen key val st (d + 1) (nI (cz_cnt q i)) (nI i) := by
  intro d
  induction d with
  | zero =>
    intro i hi
    obtain rfl : i = 6 := by omega
    exact br_t (by decide) hp
  | succ d ih =>
    intro i hi
    have H := ih (i + 1) (by omega)
    refine br_f (nI_ge (b := 6) (by omega) (by decide)) (cz_wiW ha (cz_wiW hb ?_))
    by_cases e : (cz_wb (fun v => cz_bit (vis a) v && decide (key v = nI i)) st 40).1 = (cz_wb (fun v => cz_bit (vis b) v && decide (key v = nI i)) st 40).1
    · rw [cz_cnt_t (by rw [hq i]; exact decide_eq_true e)] at H
      exact br_t e (nm_r (nI_1 _) (nm_r (nI_1 i) H))
    · rw [cz_cnt_f (by rw [hq i]; exact decide_eq_false e)] at H
      exact br_f e (nm_r (nI_1 i) H)
theorem cz_agY (post : Int32 → SY → Prop) {n a b : Nat} {come vis seen dep : Nat → Int64} {key val st needs cm hs cen : Nat → Int32} (hR : cz_R n come vis seen dep cen st needs cm hs) (ha : a < 3) (hb : b < 3) (q : Nat → Bool)
    (hq : ∀ k, q k = decide ((cz_wb (fun v => cz_bit (vis a) v && decide (key v = nI k)) st 40).1 = (cz_wb (fun v => cz_bit (vis b) v && decide (key v = nI k)) st 40).1))
    (hp : ∀ sh : Nat → Int32, post (nI (cz_cnt q 6)) (nI n, key, val, st, needs, cm, hs, cen, sh)) : ∀ d i, i + d = 6 → ∀ sh : Nat → Int32, wY_agree_24 post (nI a) (nI b) (d + 1) (nI (cz_cnt q i)) (nI i) (nI n) key val st needs cm hs cen sh := by
  intro d
  induction d with
  | zero =>
    intro i hi sh
    obtain rfl : i = 6 := by omega
    exact br_t (by decide) (hp sh)
  | succ d ih =>
    intro i hi sh
    have H := ih (i + 1) (by omega)
    refine br_f (nI_ge (b := 6) (by omega) (by decide)) (cz_wnY hR ha (by omega) (fun s1 => cz_wnY hR hb (by omega) (fun s2 => ?_)))
    by_cases e : (cz_wb (fun v => cz_bit (vis a) v && decide (key v = nI i)) st 40).1 = (cz_wb (fun v => cz_bit (vis b) v && decide (key v = nI i)) st 40).1
    · rw [cz_cnt_t (by rw [hq i]; exact decide_eq_true e)] at H
      exact br_t e (nm_r (nI_1 _) (nm_r (nI_1 i) (H s2)))
    · rw [cz_cnt_f (by rw [hq i]; exact decide_eq_false e)] at H
      exact br_f e (nm_r (nI_1 i) (H s2))
theorem i_vc_agree {k : Nat} {u : SX} {v : SY} (I : i_Rel k u v) (hk : k + 4 ≤ 2048) (v1 : Int32) (v2 : Int32) : wpX_agree (fun r => wpY_agree (fun r' v' => r' = r ∧ i_Rel (k + 4) u v') v v1 v2) u v1 v2 := by
  obtain ⟨n, come, vis, seen, dep, cen, key, val, st, needs, cm, hs, sh, rfl, rfl, hR⟩ := I
  have hn := hR.1
  unfold wpX_agree wpY_agree
  rcases cz_rng v1 (n := 3) (by omega) with h | ⟨a, ha, rfl⟩
  · exact cz_iE0 h (br_t rfl (cz_tY0 h (br_t rfl ⟨rfl, cz_rel hR⟩)))
  · rcases cz_rng v2 (n := 3) (by omega) with h | ⟨b, hb, rfl⟩
    · exact cz_iE1 ha (br_f cz_1 (cz_iE0 h (br_t rfl (cz_tY1 ha (br_f cz_1 (cz_tY0 h (br_t rfl ⟨rfl, cz_rel hR⟩)))))))
    · refine cz_iE1 ha (br_f cz_1 (cz_iE1 hb (br_f cz_1 ⟨7, cz_agX _ ha hb _ (fun _ => rfl) ?_ 6 0 rfl⟩)))
      exact cz_tY1 ha (br_f cz_1 (cz_tY1 hb (br_f cz_1 ⟨7, cz_agY _ hR ha hb _ (fun _ => rfl) (fun sh => ⟨rfl, cz_rel hR⟩) 6 0 rfl sh⟩)))
