theorem cz_wiY (post : Int32 → SY → Prop) {n : Nat} (hn : n ≤ 40) (k : Int32) (p V : Nat → Bool) {key val st needs cm hs cen sh : Nat → Int32}
    (hsh : ∀ v, v < 40 → sh v = cz_bz (V v)) (hst : ∀ v, v < 40 → ∃ s, s ≤ n ∧ st v = nI s)
    (hq : ∀ v, p v = (V v && decide (key v = k))) (hp : post (cz_wb p st n).1 (nI n, key, val, st, needs, cm, hs, cen, sh)) :
    ∀ d i, i + d = n → wY_winner_34 post k (nI n) key val st needs cm hs cen sh (d + 1) (cz_wb p st i).1 (nI i) := by
  intro d
  induction d with
  | zero =>
    intro i hi
    obtain rfl : i = n := by omega
    exact br_t (cz_le hn) hp
  | succ d ih =>
    intro i hi
    have H := ih (i + 1) (by omega)
    have hi2 : vp_in (nI i) 40 := vp_in_nI (by omega) (by omega)
    have hq1 := hq i
    refine br_f (cz_nn (by omega) hn) ⟨hi2, ?_⟩
    rw [nI_clamp (show i < 2 ^ 31 by omega), hsh i (by omega)]
    cases hb : V i with
    | false =>
      rw [hb] at hq1
      rw [cz_wb_f hq1] at H
      exact br_t cz_f (nm_r (nI_1 i) H)
    | true =>
      rw [hb] at hq1
      refine br_f cz_t ⟨hi2, ?_⟩
      by_cases hk : key i = k
      · have hq2 : p i = true := by rw [hq1, decide_eq_true hk]; rfl
        refine br_t hk ?_
        rcases cz_wb_inv (p := p) (st := st) i with e | ⟨j, hj, _, e⟩
        · obtain ⟨s, hs1, hs2⟩ := hst i (by omega)
          have hs : ¬ st i < (cz_wb p st i).2 := by
            rw [e, hs2]
            exact nI_pos (by omega)
          rw [cz_wb_y hq2 hs] at H
          rw [e]
          exact br_t (by decide) (nm_r (nI_1 i) H)
        · have e2 : (cz_wb p st i).2 = st j := by rw [e]
          have e1 : (cz_wb p st i).1 = nI j := by rw [e]
          rw [e1]
          refine br_f (nI_pos (by omega)) ⟨hi2, vp_in_nI (by omega) (by omega), ?_⟩
          rw [nI_clamp (show j < 2 ^ 31 by omega)]
          by_cases hs : st i < st j
          · rw [cz_wb_lt (by rw [e2]; exact hs), e1] at H
            exact br_t hs (nm_r (nI_1 i) H)
          · rw [cz_wb_y hq2 (by rw [e2]; exact hs)] at H
            exact br_f hs (nm_r (nI_1 i) H)
      · have hq2 : p i = false := by rw [hq1, decide_eq_false hk]; rfl
        rw [cz_wb_f hq2] at H
        exact br_f hk (nm_r (nI_1 i) H)
theorem cz_heY (post : Int32 → SY → Prop) {n c : Nat} (hn : n ≤ 40) (hc : c < 3) (V C : Nat → Bool) {key val st needs cm hs cen sh : Nat → Int32}
    (hsh : ∀ v, v < 40 → sh v = cz_bz (V v)) (hcm : ∀ v, v < n → cm (c * 40 + v) = cz_bz (C v))
    (hp : post (nI (cz_cnt (fun v => C v && !V v) n)) (nI n, key, val, st, needs, cm, hs, cen, sh)) :
    ∀ d i, i + d = n → wY_held_21 post (nI c) (nI n) key val st needs cm hs cen sh (d + 1) (nI (cz_cnt (fun v => C v && !V v) i)) (nI i) := by
  intro d
  induction d with
  | zero =>
    intro i hi
    obtain rfl : i = n := by omega
    exact br_t (cz_le hn) hp
  | succ d ih =>
    intro i hi
    have H := ih (i + 1) (by omega)
    refine br_f (cz_nn (by omega) hn) ?_
    rw [cz_ix]
    refine ⟨vp_in_nI (by omega) (by omega), ?_⟩
    rw [nI_clamp (show c * 40 + i < 2 ^ 31 by omega), hcm i (by omega)]
    cases hC : C i with
    | false =>
      have q : (fun v => C v && !V v) i = false := by show (C i && !V i) = false; rw [hC]; rfl
      rw [cz_cnt_f q] at H
      exact br_t cz_f (nm_r (nI_1 i) H)
    | true =>
      refine br_f cz_t ⟨vp_in_nI (by omega) (by omega), ?_⟩
      rw [nI_clamp (show i < 2 ^ 31 by omega), hsh i (by omega)]
      cases hV : V i with
      | false =>
        have q : (fun v => C v && !V v) i = true := by show (C i && !V i) = true; rw [hC, hV]; rfl
        rw [cz_cnt_t q] at H
        exact br_t cz_f (nm_r (nI_1 _) (nm_r (nI_1 i) H))
      | true =>
        have q : (fun v => C v && !V v) i = false := by show (C i && !V i) = false; rw [hC, hV]; rfl
        rw [cz_cnt_f q] at H
        exact br_f cz_t (nm_r (nI_1 i) H)
theorem cz_seY (post : Int32 → Prop) {n c : Nat} (hn : n ≤ 40) (hc : c < 3) (C : Nat → Bool) {key val st needs cm hs cen sh : Nat → Int32}
    (hcm : ∀ v, v < n → hs (c * 40 + v) = cz_bz (C v))
    (hp : post (nI (cz_cnt C n))) :
    ∀ d i, i + d = n → wY_seen_14 post (nI c) (nI n) key val st needs cm hs cen sh (d + 1) (nI (cz_cnt C i)) (nI i) := by
  intro d
  induction d with
  | zero =>
    intro i hi
    obtain rfl : i = n := by omega
    exact br_t (cz_le hn) hp
  | succ d ih =>
    intro i hi
    have H := ih (i + 1) (by omega)
    refine br_f (cz_nn (by omega) hn) ?_
    rw [cz_ix]
    refine ⟨vp_in_nI (by omega) (by omega), ?_⟩
    rw [nI_clamp (show c * 40 + i < 2 ^ 31 by omega), hcm i (by omega)]
    cases hC : C i with
    | false =>
      rw [cz_cnt_f hC] at H
      exact br_t cz_f (nm_r (nI_1 i) H)
    | true =>
      rw [cz_cnt_t hC] at H
      exact br_f cz_t (nm_r (nI_1 _) (nm_r (nI_1 i) H))
theorem cz_moY (post : Int32 → SY → Prop) {n c : Nat} (hn : n ≤ 40) (hc : c < 3) (x2 : Int32) (V C : Nat → Bool) {key val st needs cm hs cen sh : Nat → Int32}
    (hsh : ∀ v, v < 40 → sh v = cz_bz (V v)) (hcm : ∀ v, v < n → hs (c * 40 + v) = cz_bz (C v))
    (h1 : (∀ b, b < n → C b = true → V b = true) → post 0 (nI n, key, val, st, needs, cm, hs, upd cen c x2, sh))
    (h0 : ¬ (∀ b, b < n → C b = true → V b = true) → post (-7) (nI n, key, val, st, needs, cm, hs, cen, sh)) :
    ∀ d j, j + d = n → (∀ b, b < j → C b = true → V b = true) → wY_move_29 post (nI c) x2 (nI n) key val st needs cm hs cen sh (d + 1) (nI j) := by
  intro d
  induction d with
  | zero =>
    intro j hj ha
    obtain rfl : j = n := by omega
    refine br_t (cz_le hn) ⟨vp_in_nI (by omega) (by omega), nm_e ?_⟩
    rw [nI_clamp (show c < 2 ^ 31 by omega)]
    exact h1 ha
  | succ d ih =>
    intro j hj ha
    have H := ih (j + 1) (by omega)
    refine br_f (cz_nn (by omega) hn) ?_
    rw [cz_ix]
    refine ⟨vp_in_nI (by omega) (by omega), ?_⟩
    rw [nI_clamp (show c * 40 + j < 2 ^ 31 by omega), hcm j (by omega)]
    cases hD : C j with
    | false =>
      refine br_t cz_f (nm_r (nI_1 j) (H fun b hb hDb => ?_))
      by_cases e : b = j
      · subst e; rw [hD] at hDb; exact absurd hDb (by decide)
      · exact ha b (by omega) hDb
    | true =>
      refine br_f cz_t ⟨vp_in_nI (by omega) (by omega), ?_⟩
      rw [nI_clamp (show j < 2 ^ 31 by omega), hsh j (by omega)]
      cases hS : V j with
      | false =>
        refine br_t cz_f (h0 fun z => ?_)
        rw [z j (by omega) hD] at hS
        exact absurd hS (by decide)
      | true =>
        refine br_f cz_t (nm_r (nI_1 j) (H fun b hb hDb => ?_))
        by_cases e : b = j
        · subst e; exact hS
        · exact ha b (by omega) hDb
theorem cz_daY (post : Int32 → SY → Prop) {n c : Nat} (hn : n ≤ 40) (hc : c < 3) (x2 : Int32) {key val st needs cm0 hs cen sh : Nat → Int32}
    (hp : ∀ cm : Nat → Int32, (∀ a v, a < 3 → v < 40 → cm (a * 40 + v) = if a = c ∧ v < n then cz_bz true else cm0 (a * 40 + v)) →
      wpY_sweep (fun r u => post (r - x2) u) (nI n, key, val, st, needs, cm, hs, cen, sh) (nI c)) :
    ∀ d i, i + d = n → ∀ cm : Nat → Int32, (∀ a v, a < 3 → v < 40 → cm (a * 40 + v) = if a = c ∧ v < i then cz_bz true else cm0 (a * 40 + v)) →
      wY_deliverAll_19 post (nI c) x2 (nI n) (d + 1) (nI i) key val st needs cm hs cen sh := by
  intro d
  induction d with
  | zero =>
    intro i hi cm h
    obtain rfl : i = n := by omega
    exact br_t (cz_le hn) (hp cm h)
  | succ d ih =>
    intro i hi cm h
    refine br_f (cz_nn (by omega) hn) ?_
    rw [cz_ix]
    refine ⟨vp_in_nI (by omega) (by omega), nm_e (nm_r (nI_1 i) ?_)⟩
    rw [nI_clamp (show c * 40 + i < 2 ^ 31 by omega)]
    refine ih (i + 1) (by omega) _ (fun a v ha hv => ?_)
    by_cases e : a = c ∧ v = i
    · obtain ⟨rfl, rfl⟩ := e
      rw [pk_us, if_pos ⟨rfl, by omega⟩, cz_nar1]
    · rw [pk_un (by omega), h a v ha hv]
      by_cases e2 : a = c ∧ v < i
      · rw [if_pos e2, if_pos ⟨e2.1, by omega⟩]
      · rw [if_neg e2, if_neg (by omega)]
theorem cz_wrY (post : Int32 → SY → Prop) {n c cd : Nat} (hn : n < 40) (hc : c < 3) (hcd : cd < 3) (x2 x3 : Int32) (p : Nat → Bool) {key val st needs0 cm hs cen sh : Nat → Int32}
    (hcen : cen c = nI cd) (hcm : ∀ v, v < 40 → hs (c * 40 + v) = cz_bz (p v))
    (hp : ∀ needs : Nat → Int32, (∀ a b, a < 40 → b < 40 → needs (a * 40 + b) = if a = n ∧ b < n then cz_bz (p b) else needs0 (a * 40 + b)) →
      post (nI n) (nI (n + 1), upd key n x2, upd val n x3, upd st n (cz_gs p st n + 1), needs, upd cm (cd * 40 + n) (cz_bz true), upd hs (c * 40 + n) (cz_bz true), cen, sh)) :
    ∀ d i, i + d = n → ∀ needs : Nat → Int32, (∀ a b, a < 40 → b < 40 → needs (a * 40 + b) = if a = n ∧ b < i then cz_bz (p b) else needs0 (a * 40 + b)) →
      wY_write_39 post (nI c) x2 x3 (nI n) (d + 1) (cz_gs p st i) (nI i) key val st needs cm hs cen sh := by
  intro d
  induction d with
  | zero =>
    intro i hi needs h
    obtain rfl : i = n := by omega
    have hi2 : vp_in (nI i) 40 := vp_in_nI (by omega) (by omega)
    refine br_t (cz_le (by omega)) ⟨hi2, nm_e ⟨hi2, nm_e ⟨hi2, nm_e ⟨vp_in_nI (by omega) (by omega), ?_⟩⟩⟩⟩
    rw [nI_clamp (show c < 2 ^ 31 by omega), hcen, cz_ix, cz_ix, nI_clamp (show i < 2 ^ 31 by omega)]
    refine ⟨vp_in_nI (by omega) (by omega), nm_e ⟨vp_in_nI (by omega) (by omega), nm_e (nm_r (nI_1 i) ?_)⟩⟩
    rw [nI_clamp (show cd * 40 + i < 2 ^ 31 by omega), nI_clamp (show c * 40 + i < 2 ^ 31 by omega), nI_pred, cz_nar1]
    exact hp needs h
  | succ d ih =>
    intro i hi needs h
    have hi2 : vp_in (nI i) 40 := vp_in_nI (by omega) (by omega)
    have H := ih (i + 1) (by omega) (upd needs (n * 40 + i) (vp_nar .boolean (cz_bz (p i)))) (fun a b ha hb => by
      by_cases e : a = n ∧ b = i
      · obtain ⟨rfl, rfl⟩ := e
        rw [pk_us, if_pos ⟨rfl, by omega⟩, cz_narB]
      · rw [pk_un (by omega), h a b ha hb]
        by_cases e2 : a = n ∧ b < i
        · rw [if_pos e2, if_pos ⟨e2.1, by omega⟩]
        · rw [if_neg e2, if_neg (by omega)])
    refine br_f (cz_nn (by omega) (by omega)) ?_
    rw [cz_ix, cz_ix, nI_clamp (show c * 40 + i < 2 ^ 31 by omega), nI_clamp (show n * 40 + i < 2 ^ 31 by omega), hcm i (by omega)]
    refine ⟨vp_in_nI (by omega) (by omega), vp_in_nI (by omega) (by omega), nm_e ⟨vp_in_nI (by omega) (by omega), ?_⟩⟩
    cases hC : p i with
    | false =>
      rw [cz_gs_f hC, hC] at H
      exact br_t cz_f (nm_r (nI_1 i) H)
    | true =>
      refine br_f cz_t ⟨hi2, ?_⟩
      rw [nI_clamp (show i < 2 ^ 31 by omega)]
      rw [hC] at H
      by_cases hs1 : st i ≤ cz_gs p st i
      · rw [cz_gs_le hs1] at H
        exact br_t hs1 (nm_r (nI_1 i) H)
      · rw [cz_gs_y hC hs1] at H
        exact br_f hs1 ⟨hi2, nm_e (nm_r (nI_1 i) H)⟩
