theorem cz_bitT {x y : Bool} (h : x = true → y = true) (h2 : y = false) : x = false := by
  cases x with
  | false => rfl
  | true => rw [h rfl] at h2; exact absurd h2 (by decide)
/-! move -/
theorem i_vc_move {k : Nat} {u : SX} {v : SY} (I : i_Rel k u v) (hk : k + 4 ≤ 2048) (v1 : Int32) (v2 : Int32) : wpX_move (fun r u' => wpY_move (fun r' v' => r' = r ∧ i_Rel (k + 4) u' v') v v1 v2) u v1 v2 := by
  obtain ⟨n, come, vis, seen, dep, cen, key, val, st, needs, cm, hs, sh, rfl, rfl, hR⟩ := I
  have hn := hR.1
  unfold wpX_move wpY_move
  rcases cz_rng v1 (n := 3) (by omega) with h | ⟨c, hc, rfl⟩
  · exact cz_iC0 h (br_t rfl (cz_tY0 h (br_t rfl ⟨rfl, cz_rel hR⟩)))
  · rcases cz_rng v2 (n := 3) (by omega) with h | ⟨e, he, rfl⟩
    · exact cz_iC1 hc (br_f cz_1 (cz_iE0 h (br_t rfl (cz_tY1 hc (br_f cz_1 (cz_tY0 h (br_t rfl ⟨rfl, cz_rel hR⟩)))))))
    · have hR0 := hR
      obtain ⟨_, hcen, hst, hcm, hcb, hhs, hsb, hnd, hdb, hvis⟩ := hR0
      have hc2 : vp_in (nI c) 3 := vp_in_nI hc (by omega)
      refine cz_iC1 hc (br_f cz_1 (cz_iE1 he (br_f cz_1 ⟨hc2, ?_⟩)))
      rw [nI_clamp (show c < 2 ^ 31 by omega)]
      refine cz_allV he (fun ha => ?_) (fun ha => ?_)
      · refine br_f cz_1 ⟨hc2, nm_e ?_⟩
        refine cz_tY1 hc (br_f cz_1 (cz_tY1 he (br_f cz_1 (cz_swN hR he (fun s hs1 => ⟨n + 1, ?_⟩)))))
        refine cz_moY _ hn hc (nI e) (cz_bit (vis e)) (cz_bit (seen c)) hs1 (fun v hv => hhs c v hc (by omega)) (fun _ => ?_) (fun hz => absurd (fun b _ hb => ha b hb) hz) n 0 (by omega) (fun b hb => by omega)
        refine ⟨rfl, cz_rel ⟨hn, fun a ha3 => ?_, hst, hcm, hcb, hhs, hsb, hnd, hdb, hvis⟩⟩
        by_cases ea : a = c
        · subst ea; exact ⟨e, he, pk_us⟩
        · rw [pk_un ea]; exact hcen a ha3
      · refine br_t rfl (cz_tY1 hc (br_f cz_1 (cz_tY1 he (br_f cz_1 (cz_swN hR he (fun s hs1 => ⟨n + 1, ?_⟩))))))
        refine cz_moY _ hn hc (nI e) (cz_bit (vis e)) (cz_bit (seen c)) hs1 (fun v hv => hhs c v hc (by omega)) (fun hz => absurd (fun b hb => ?_) ha) (fun _ => ⟨rfl, cz_rel hR⟩) n 0 (by omega) (fun b hb => by omega)
        by_cases hbn : b < n
        · exact hz b hbn hb
        · rw [hsb c b hc (by omega)] at hb; exact absurd hb (by decide)
/-! read -/
theorem cz_Rs {n : Nat} {come vis seen dep : Nat → Int64} {cen st needs cm hs : Nat → Int32} (hR : cz_R n come vis seen dep cen st needs cm hs) {c w : Nat} (hc : c < 3) (hw : w < n) :
    cz_R n come vis (vp_updL seen c (seen c ||| ((1 : Int64) <<< ((nI w).toInt64 &&& 63)))) dep cen st needs cm (upd hs (c * 40 + w) (cz_bz true)) := by
  obtain ⟨hn, hcen, hst, hcm, hcb, hhs, hsb, hnd, hdb, hvis⟩ := hR
  refine ⟨hn, hcen, hst, hcm, hcb, fun a v ha hv => ?_, fun a v ha hv => ?_, hnd, hdb, hvis⟩
  · by_cases ea : a = c
    · subst ea
      rw [pk_uLs, cz_or, cz_only (by omega)]
      by_cases ev : v = w
      · subst ev; rw [pk_us]; simp
      · rw [pk_un (by omega), hhs a v ha hv, decide_eq_false ev]; simp
    · rw [pk_uLn ea, pk_un (by omega)]; exact hhs a v ha hv
  · by_cases ea : a = c
    · subst ea
      rw [pk_uLs, cz_or, cz_only (by omega), hsb a v ha hv, decide_eq_false (by omega)]; rfl
    · rw [pk_uLn ea]; exact hsb a v ha hv
theorem i_vc_read {k : Nat} {u : SX} {v : SY} (I : i_Rel k u v) (hk : k + 4 ≤ 2048) (v1 : Int32) (v2 : Int32) : wpX_read (fun r u' => wpY_read (fun r' v' => r' = r ∧ i_Rel (k + 4) u' v') v v1 v2) u v1 v2 := by
  obtain ⟨n, come, vis, seen, dep, cen, key, val, st, needs, cm, hs, sh, rfl, rfl, hR⟩ := I
  have hn := hR.1
  unfold wpX_read wpY_read
  rcases cz_rng v1 (n := 3) (by omega) with h | ⟨c, hc, rfl⟩
  · exact cz_iC0 h (br_t rfl (cz_tY0 h (br_t rfl ⟨rfl, cz_rel hR⟩)))
  · rcases cz_rng v2 (n := 6) (by omega) with h | ⟨q, hq, rfl⟩
    · exact cz_iC1 hc (br_f cz_1 (cz_iK0 h (br_t rfl (cz_tY1 hc (br_f cz_1 (cz_kY0 h (br_t rfl ⟨rfl, cz_rel hR⟩)))))))
    · have hR0 := hR
      obtain ⟨_, hcen, hst, hcm, hcb, hhs, hsb, hnd, hdb, hvis⟩ := hR0
      have hc2 : vp_in (nI c) 3 := vp_in_nI hc (by omega)
      obtain ⟨e, he, hce⟩ := hcen c hc
      have hE := cz_RE hR he
      refine cz_iC1 hc (br_f cz_1 (cz_iK1 hq (br_f cz_1 ⟨hc2, ?_⟩)))
      rw [nI_clamp (show c < 2 ^ 31 by omega), hce]
      refine cz_wiW he ?_
      have hW := cz_wb_inv (p := fun v => cz_bit (vis e) v && decide (key v = nI q)) (st := st) n
      rw [← cz_wb_40 hn (fun j hj => by rw [hE j hj]; rfl)] at hW
      rcases hW with hW | ⟨w, hw, _, hW⟩
      · have hw1 : (cz_wb (fun v => cz_bit (vis e) v && decide (key v = nI q)) st 40).1 = -5 := by rw [hW]
        rw [hw1]
        refine br_t rfl (cz_tY1 hc (br_f cz_1 (cz_kY1 hq (br_f cz_1 ⟨hc2, ?_⟩))))
        rw [hce]
        refine cz_wnY hR he hq (fun s => ?_)
        rw [hw1]
        exact br_t (by decide) ⟨rfl, cz_rel hR⟩
      · have hw1 : (cz_wb (fun v => cz_bit (vis e) v && decide (key v = nI q)) st 40).1 = nI w := by rw [hW]
        rw [hw1]
        have hw5 : ¬ nI w = -5 := by
          intro z
          have : ¬ nI w < 0 := nI_pos (by omega)
          rw [z] at this
          exact this (by decide)
        refine br_f hw5 ⟨hc2, cz_on ⟨hc2, nm_e ?_⟩⟩
        refine cz_tY1 hc (br_f cz_1 (cz_kY1 hq (br_f cz_1 ⟨hc2, ?_⟩)))
        rw [hce]
        refine cz_wnY hR he hq (fun s => ?_)
        rw [hw1]
        refine br_f (nI_pos (by omega)) ?_
        rw [cz_ix]
        refine ⟨vp_in_nI (by omega) (by omega), nm_e ?_⟩
        rw [nI_clamp (show c * 40 + w < 2 ^ 31 by omega), cz_nar1]
        exact ⟨rfl, cz_rel (cz_Rs hR hc hw)⟩
/-! deliver and deliverAll -/
theorem cz_Rd {n : Nat} {come vis seen dep : Nat → Int64} {cen st needs cm hs : Nat → Int32} (hR : cz_R n come vis seen dep cen st needs cm hs) {c : Nat} (hc : c < 3)
    (come' vf : Nat → Int64) (cm' : Nat → Int32) (h1 : ∀ a, a ≠ c → come' a = come a) (h2 : ∀ v, n ≤ v → cz_bit (come' c) v = false)
    (h3 : ∀ a v, a < 3 → v < 40 → cm' (a * 40 + v) = cz_bz (cz_bit (come' a) v)) (h4 : ∀ a, a ≠ c → vf a = vis a)
    (h5 : ∀ v, cz_bit (vf c) v = cz_V (cz_bit (come' c)) (fun a => cz_bit (dep a)) v) : cz_R n come' vf seen dep cen st needs cm' hs := by
  obtain ⟨hn, hcen, hst, hcm, hcb, hhs, hsb, hnd, hdb, hvis⟩ := hR
  refine ⟨hn, hcen, hst, h3, fun a v ha hv => ?_, hhs, hsb, hnd, hdb, fun a v ha => ?_⟩
  · by_cases ea : a = c
    · subst ea; exact h2 v hv
    · rw [h1 a ea]; exact hcb a v ha hv
  · by_cases ea : a = c
    · subst ea; exact h5 v
    · rw [h1 a ea, h4 a ea]; exact hvis a v ha
/-- X's one pass beside Y's second sweep: both from the same new row of what has come -/
theorem cz_dl {k n c : Nat} {come vis seen dep : Nat → Int64} {cen key val st needs cm hs : Nat → Int32} (hR : cz_R n come vis seen dep cen st needs cm hs) (hc : c < 3)
    (y : Int64) (hm : ∀ v, cz_bit (come c) v = true → cz_bit y v = true) (hb : ∀ v, n ≤ v → cz_bit y v = false)
    (Q : Int32 → SX → Prop)
    (hQ : ∀ vf : Nat → Int64,
      (∀ (cm' sh : Nat → Int32), (∀ a v, a < 3 → v < 40 → cm' (a * 40 + v) = cz_bz (cz_bit (vp_updL come c y a) v)) →
        wpY_sweep (fun r' v' => r' - nI (cz_cnt (cz_bit (vis c)) n) = nI (cz_cnt (fun j => cz_V (cz_bit y) (fun a => cz_bit (dep a)) j && !cz_bit (vis c) j) 40) ∧ i_Rel k (nI n, vp_updL come c y, vf, seen, dep, cen, key, val, st) v') (nI n, key, val, st, needs, cm', hs, cen, sh) (nI c)) →
      Q (nI (cz_cnt (fun j => cz_V (cz_bit y) (fun a => cz_bit (dep a)) j && !cz_bit (vis c) j) 40)) (nI n, vp_updL come c y, vf, seen, dep, cen, key, val, st)) :
    wpX_showReady Q (nI n, vp_updL come c y, vis, seen, dep, cen, key, val, st) (nI c) := by
  have hR0 := hR
  obtain ⟨hn, hcen, hst, hcm, hcb, hhs, hsb, hnd, hdb, hvis⟩ := hR0
  have eT : ∀ v, cz_bit (vis c) v = true → cz_V (cz_bit y) (fun a => cz_bit (dep a)) v = true := by
    intro v h
    rw [hvis c v hc] at h
    exact cz_V_mono hm (fun _ _ _ => rfl) v h
  have eE : ∀ v, n ≤ v → cz_V (cz_bit y) (fun a => cz_bit (dep a)) v = false := fun v hv => cz_V_C (hb v hv)
  refine cz_shW hc (cz_V (cz_bit y) (fun a => cz_bit (dep a))) (cz_bit (vis c)) (fun v => ?_) eT (cz_RD hR) (fun v hv => eE v (by omega)) (fun _ => rfl) (fun vf h1 h2 => hQ vf (fun cm' sh h3 => ?_))
  · rw [pk_uLs]; exact cz_V_iff _ _ v
  · refine cz_sw hn hc (cz_V (cz_bit y) (fun a => cz_bit (dep a))) (cz_bit y) (fun a => cz_bit (dep a)) (fun v hv => ?_) (fun a ha b hb => hnd a b ha hb) (fun v => cz_V_iff _ _ v) (cz_RD hR) eE (fun s hs1 => ?_)
    · rw [h3 c v hc (by omega), pk_uLs]
    · refine ⟨?_, cz_rel (cz_Rd hR hc (vp_updL come c y) vf cm' (fun a ha => pk_uLn ha) (fun v hv => ?_) h3 h1 (fun v => ?_))⟩
      · have e1 := cz_cnt_diff eT n
        rw [cz_cnt_40 hn (fun j hj => by rw [eE j hj]; rfl), pk_sub (by omega)]
        exact congrArg nI (by omega)
      · rw [pk_uLs]; exact hb v hv
      · rw [pk_uLs]; exact h2 v
theorem i_vc_deliver {k : Nat} {u : SX} {v : SY} (I : i_Rel k u v) (hk : k + 4 ≤ 2048) (v1 : Int32) (v2 : Int32) : wpX_deliver (fun r u' => wpY_deliver (fun r' v' => r' = r ∧ i_Rel (k + 4) u' v') v v1 v2) u v1 v2 := by
  obtain ⟨n, come, vis, seen, dep, cen, key, val, st, needs, cm, hs, sh, rfl, rfl, hR⟩ := I
  have hn := hR.1
  unfold wpX_deliver wpY_deliver
  rcases cz_rng v1 (n := n) (by omega) with h | ⟨a, ha, rfl⟩
  · exact cz_iV0 h (br_t rfl (cz_vY0 h (br_t rfl ⟨rfl, cz_rel hR⟩)))
  · rcases cz_rng v2 (n := 3) (by omega) with h | ⟨c, hc, rfl⟩
    · exact cz_iV1 hn ha (br_f cz_1 (cz_iE0 h (br_t rfl (cz_vY1 hn ha (br_f cz_1 (cz_tY0 h (br_t rfl ⟨rfl, cz_rel hR⟩)))))))
    · have hR0 := hR
      obtain ⟨_, hcen, hst, hcm, hcb, hhs, hsb, hnd, hdb, hvis⟩ := hR0
      have hc2 : vp_in (nI c) 3 := vp_in_nI hc (by omega)
      have hin : vp_in (nI (c * 40 + a)) 120 := vp_in_nI (by omega) (by omega)
      have hcm1 := hcm c a hc (by omega)
      refine cz_iV1 hn ha (br_f cz_1 (cz_iE1 hc (br_f cz_1 ⟨hc2, ?_⟩)))
      rw [nI_clamp (show c < 2 ^ 31 by omega)]
      refine cz_has (by omega) ?_
      cases hb1 : cz_bit (come c) a with
      | true =>
        rw [hb1] at hcm1
        refine br_f cz_t (cz_vY1 hn ha (br_f cz_1 (cz_tY1 hc (br_f cz_1 ?_))))
        rw [cz_ix]
        refine ⟨hin, ?_⟩
        rw [nI_clamp (show c * 40 + a < 2 ^ 31 by omega), hcm1]
        exact br_f cz_t ⟨rfl, cz_rel hR⟩
      | false =>
        rw [hb1] at hcm1
        refine br_t cz_f ⟨hc2, cz_on ⟨hc2, nm_e ?_⟩⟩
        refine cz_dl (k := k + 4) hR hc (come c ||| ((1 : Int64) <<< ((nI a).toInt64 &&& 63))) (fun v h => by rw [cz_or, h]; rfl) (fun v h => by rw [cz_or, cz_only (by omega), hcb c v hc h, decide_eq_false (by omega)]; rfl) _ (fun vf hS => ?_)
        refine cz_vY1 hn ha (br_f cz_1 (cz_tY1 hc (br_f cz_1 ?_)))
        rw [cz_ix]
        refine ⟨hin, ?_⟩
        rw [nI_clamp (show c * 40 + a < 2 ^ 31 by omega), hcm1]
        refine br_t cz_f (cz_swN hR hc (fun s hs1 => ⟨hin, nm_e ?_⟩))
        rw [cz_nar1]
        refine hS _ s (fun b v hb hv => ?_)
        by_cases eb : b = c
        · subst eb
          rw [pk_uLs, cz_or, cz_only (by omega)]
          by_cases ev : v = a
          · subst ev; rw [pk_us]; simp
          · rw [pk_un (by omega), hcm b v hb hv, decide_eq_false ev]; simp
        · rw [pk_uLn eb, pk_un (by omega)]; exact hcm b v hb hv
theorem i_vc_deliverAll {k : Nat} {u : SX} {v : SY} (I : i_Rel k u v) (hk : k + 4 ≤ 2048) (v1 : Int32) : wpX_deliverAll (fun r u' => wpY_deliverAll (fun r' v' => r' = r ∧ i_Rel (k + 4) u' v') v v1) u v1 := by
  obtain ⟨n, come, vis, seen, dep, cen, key, val, st, needs, cm, hs, sh, rfl, rfl, hR⟩ := I
  have hn := hR.1
  unfold wpX_deliverAll wpY_deliverAll
  rcases cz_rng v1 (n := 3) (by omega) with h | ⟨c, hc, rfl⟩
  · exact cz_iE0 h (br_t rfl (cz_tY0 h (br_t rfl ⟨rfl, cz_rel hR⟩)))
  · have hR0 := hR
    obtain ⟨_, hcen, hst, hcm, hcb, hhs, hsb, hnd, hdb, hvis⟩ := hR0
    have hc2 : vp_in (nI c) 3 := vp_in_nI hc (by omega)
    refine cz_iE1 hc (br_f cz_1 ⟨hc2, nm_e ?_⟩)
    rw [nI_clamp (show c < 2 ^ 31 by omega)]
    refine cz_dl (k := k + 4) hR hc (((1 : Int64) <<< ((nI n).toInt64 &&& 63)) - 1) (fun v h => ?_) (fun v h => by rw [cz_mask (by omega)]; exact decide_eq_false (by omega)) _ (fun vf hS => ?_)
    · rw [cz_mask (by omega)]
      by_cases e : v < n
      · exact decide_eq_true e
      · rw [hcb c v hc (by omega)] at h; exact absurd h (by decide)
    · refine cz_tY1 hc (br_f cz_1 (cz_swN hR hc (fun s hs1 => ⟨n + 1, ?_⟩)))
      refine cz_daY _ hn hc _ (cm0 := cm) (fun cm' h => ?_) n 0 (by omega) cm (fun a v ha hv => by rw [if_neg (by omega)])
      refine hS cm' s (fun b v hb hv => ?_)
      rw [h b v hb hv]
      by_cases eb : b = c
      · subst eb
        rw [pk_uLs, cz_mask (by omega)]
        by_cases ev : v < n
        · rw [if_pos ⟨rfl, ev⟩, decide_eq_true ev]
        · rw [if_neg (by omega), hcm b v hb hv, hcb b v hb (by omega), decide_eq_false ev]
      · rw [pk_uLn eb, if_neg (by omega)]; exact hcm b v hb hv
