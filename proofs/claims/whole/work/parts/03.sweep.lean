theorem cz_nn {i n : Nat} (h : i < n) (hn : n ≤ 40) : ¬ nI n ≤ nI i := nI_ge h (by omega)
theorem cz_le {n : Nat} (hn : n ≤ 40) : nI n ≤ nI n := nI_le (Nat.le_refl n) (by omega)
theorem cz_anL (post : Int32 → Prop) {n : Nat} (hn : n ≤ 40) (v : Nat) (hv : v < 40) (D s : Nat → Bool) {key val st needs cm hs cen sh : Nat → Int32}
    (hsh : ∀ b, b < n → sh b = cz_bz (s b)) (hd : ∀ b, b < 40 → needs (v * 40 + b) = cz_bz (D b))
    (h1 : (∀ b, b < n → D b = true → s b = true) → post 1) (h0 : ¬ (∀ b, b < n → D b = true → s b = true) → post 0) :
    ∀ d j, j + d = n → (∀ b, b < j → D b = true → s b = true) → wY_allNeeded_2 post (nI v) (nI n) key val st needs cm hs cen sh (d + 1) (nI j) := by
  intro d
  induction d with
  | zero =>
    intro j hj ha
    obtain rfl : j = n := by omega
    exact br_t (cz_le hn) (h1 ha)
  | succ d ih =>
    intro j hj ha
    have H := ih (j + 1) (by omega)
    refine br_f (cz_nn (by omega) hn) ?_
    rw [cz_ix]
    refine ⟨vp_in_nI (by omega) (by omega), ?_⟩
    rw [nI_clamp (show v * 40 + j < 2 ^ 31 by omega), hd j (by omega)]
    cases hD : D j with
    | false =>
      refine br_t cz_f (nm_r (nI_1 j) (H fun b hb hDb => ?_))
      by_cases e : b = j
      · subst e; rw [hD] at hDb; exact absurd hDb (by decide)
      · exact ha b (by omega) hDb
    | true =>
      refine br_f cz_t ⟨vp_in_nI (by omega) (by omega), ?_⟩
      rw [nI_clamp (show j < 2 ^ 31 by omega), hsh j (by omega)]
      cases hS : s j with
      | false =>
        refine br_t cz_f (h0 fun z => ?_)
        rw [z j (by omega) hD] at hS
        exact absurd hS (by decide)
      | true =>
        refine br_f cz_t (nm_r (nI_1 j) (H fun b hb hDb => ?_))
        by_cases e : b = j
        · subst e; exact hS
        · exact ha b (by omega) hDb
theorem cz_anW {post : Int32 → Prop} {n : Nat} (hn : n ≤ 40) {v : Nat} (hv : v < 40) (D s : Nat → Bool) {key val st needs cm hs cen sh : Nat → Int32}
    (hsh : ∀ b, b < n → sh b = cz_bz (s b)) (hd : ∀ b, b < 40 → needs (v * 40 + b) = cz_bz (D b))
    (h1 : (∀ b, b < n → D b = true → s b = true) → post 1) (h0 : ¬ (∀ b, b < n → D b = true → s b = true) → post 0) :
    wpY_allNeeded post (nI n, key, val, st, needs, cm, hs, cen, sh) (nI v) := ⟨n + 1, cz_anL post hn v hv D s hsh hd h1 h0 n 0 (by omega) (fun b hb => by omega)⟩
theorem cz_paL (post : Int32 → SY → Prop) (J : Int32 → Int32 → Int32 → (Nat → Int32) → (Nat → Int32) → (Nat → Int32) → (Nat → Int32) → (Nat → Int32) → (Nat → Int32) → (Nat → Int32) → (Nat → Int32) → Prop)
    {n c : Nat} (hn : n ≤ 40) (hc : c < 3) (r m : Nat) (V T C : Nat → Bool) (D : Nat → Nat → Bool) {key val st needs cm hs cen : Nat → Int32}
    (hcm : ∀ v, v < n → cm (c * 40 + v) = cz_bz (C v)) (hnd : ∀ a, a < 40 → ∀ b, b < 40 → needs (a * 40 + b) = cz_bz (D a b))
    (hV : ∀ v, V v = true ↔ (C v = true ∧ ∀ b, b < v → D v b = true → V b = true))
    (hD : ∀ a, a < 40 → ∀ b, D a b = true → b < a) (hT : ∀ v, T v = true → V v = true)
    (hJ : ∀ sh : Nat → Int32, (∀ v, v < 40 → sh v = cz_bz (if v < n then V v else T v)) →
      J (nI (m + cz_cnt (fun j => V j && !T j) n)) (cz_bz (decide (0 < cz_cnt (fun j => V j && !T j) n))) (nI (r + 1)) key val st needs cm hs cen sh) :
    ∀ d i, i + d = n → ∀ sh : Nat → Int32, (∀ v, v < 40 → sh v = cz_bz (if v < i then V v else T v)) →
      wY_sweep_44 post J (nI c) (nI r) (nI n) (d + 1) (nI (m + cz_cnt (fun j => V j && !T j) i)) (cz_bz (decide (0 < cz_cnt (fun j => V j && !T j) i))) (nI i) key val st needs cm hs cen sh := by
  have hTf : ∀ v, V v = false → T v = false := by
    intro v h
    cases e : T v with
    | false => rfl
    | true => rw [hT v e] at h; exact absurd h (by decide)
  intro d
  induction d with
  | zero =>
    intro i hi sh h2
    obtain rfl : i = n := by omega
    exact br_t (cz_le hn) (nm_r (nI_1 r) (hJ sh h2))
  | succ d ih =>
    intro i hi sh h2
    have hi2 : vp_in (nI i) 40 := vp_in_nI (by omega) (by omega)
    have hTi : sh i = cz_bz (T i) := by rw [h2 i (by omega), if_neg (Nat.lt_irrefl i)]
    have stay : V i = T i → wY_sweep_44 post J (nI c) (nI r) (nI n) (d + 1) (nI (m + cz_cnt (fun j => V j && !T j) i)) (cz_bz (decide (0 < cz_cnt (fun j => V j && !T j) i))) (nI (i + 1)) key val st needs cm hs cen sh := by
      intro e
      have H := ih (i + 1) (by omega) sh (fun v hv => by
        rw [h2 v hv]
        by_cases h : v < i
        · rw [if_pos h, if_pos (by omega)]
        · rw [if_neg h]
          by_cases h' : v = i
          · subst h'; rw [if_pos (by omega), e]
          · rw [if_neg (by omega)])
      have q : (fun j => V j && !T j) i = false := by show (V i && !T i) = false; rw [e]; cases T i <;> rfl
      rw [cz_cnt_f q] at H
      exact H
    refine br_f (cz_nn (by omega) hn) ⟨hi2, ?_⟩
    rw [nI_clamp (show i < 2 ^ 31 by omega), hTi]
    cases eT : T i with
    | true => exact br_f cz_t (nm_r (nI_1 i) (stay (by rw [eT, hT i eT])))
    | false =>
      refine br_t cz_f ?_
      rw [cz_ix]
      refine ⟨vp_in_nI (by omega) (by omega), ?_⟩
      rw [nI_clamp (show c * 40 + i < 2 ^ 31 by omega), hcm i (by omega)]
      cases eC : C i with
      | false =>
        have e : V i = false := by
          cases e : V i with
          | false => rfl
          | true => have := ((hV i).mp e).1; rw [eC] at this; exact absurd this (by decide)
        exact br_t cz_f (nm_r (nI_1 i) (stay (by rw [e, hTf i e])))
      | true =>
        refine br_f cz_t (cz_anW hn (by omega) (D i) (fun b => if b < i then V b else T b) (fun b hb => h2 b (by omega)) (fun b hb => hnd i (by omega) b hb) (fun ha => ?_) (fun ha => ?_))
        · have eV : V i = true := (hV i).mpr ⟨eC, fun b hbi hdb => by
            have := ha b (by omega) hdb
            rw [if_pos hbi] at this
            exact this⟩
          have q : (fun j => V j && !T j) i = true := by show (V i && !T i) = true; rw [eT, eV]; rfl
          have H := ih (i + 1) (by omega) (upd sh i (vp_nar .boolean 1)) (fun v hv => by
            by_cases h' : v = i
            · subst h'; rw [pk_us, if_pos (by omega), eV, cz_nar1]
            · rw [pk_un h', h2 v hv]
              by_cases h : v < i
              · rw [if_pos h, if_pos (by omega)]
              · rw [if_neg h, if_neg (by omega)])
          rw [cz_cnt_t q, decide_eq_true (show 0 < cz_cnt (fun j => V j && !T j) i + 1 by omega)] at H
          refine br_f cz_1 ⟨hi2, nm_e (nm_r (nI_1 _) (nm_r (nI_1 i) ?_))⟩
          exact H
        · have eV : V i = false := by
            cases eV : V i with
            | false => rfl
            | true =>
              refine absurd (fun j hj hdj => ?_) ha
              have hj2 := hD i (by omega) j hdj
              rw [if_pos hj2]
              exact ((hV i).mp eV).2 j hj2 hdj
          exact br_t rfl (nm_r (nI_1 i) (stay (by rw [eT, eV])))
theorem cz_swR (post : Int32 → SY → Prop) {n c : Nat} (hn : n ≤ 40) (hc : c < 3) (V C : Nat → Bool) (D : Nat → Nat → Bool) {key val st needs cm hs cen sh : Nat → Int32}
    (hcm : ∀ v, v < n → cm (c * 40 + v) = cz_bz (C v)) (hnd : ∀ a, a < 40 → ∀ b, b < 40 → needs (a * 40 + b) = cz_bz (D a b))
    (hV : ∀ v, V v = true ↔ (C v = true ∧ ∀ b, b < v → D v b = true → V b = true))
    (hD : ∀ a, a < 40 → ∀ b, D a b = true → b < a) (hE : ∀ v, n ≤ v → V v = false)
    (h0 : ∀ v, v < 40 → sh v = 0)
    (hp : ∀ s : Nat → Int32, (∀ v, v < 40 → s v = cz_bz (V v)) → post (nI (cz_cnt V n)) (nI n, key, val, st, needs, cm, hs, cen, s)) :
    wY_sweep_28 post (nI c) (nI n) 3 0 1 0 key val st needs cm hs cen sh := by
  have k1 : (fun j => V j && !(fun _ : Nat => false) j) = V := by funext j; simp
  have k2 : cz_cnt (fun j => V j && !V j) n = 0 := by
    have e : (fun j => V j && !V j) = (fun _ : Nat => false) := by funext j; cases V j <;> rfl
    rw [e]
    have := cz_cnt_stop (p := fun _ : Nat => false) (n := 0) (fun _ _ => rfl) n
    rwa [Nat.zero_add] at this
  have P1 := cz_paL post (wY_sweep_28 post (nI c) (nI n) 2) hn hc 0 0 V (fun _ => false) C D (key := key) (val := val) (st := st) (hs := hs) (cen := cen) hcm hnd hV hD (fun v h => absurd h (by simp)) (fun s hs1 => by
    rw [k1]
    have hs2 : ∀ v, v < 40 → s v = cz_bz (V v) := by
      intro v hv
      rw [hs1 v hv]
      by_cases h : v < n
      · rw [if_pos h]
      · rw [if_neg h, hE v (by omega)]
    refine br_f (by decide) ?_
    rw [Nat.zero_add]
    by_cases hq : 0 < cz_cnt V n
    · rw [decide_eq_true hq]
      refine br_f cz_t ⟨n + 1, ?_⟩
      have P2 := cz_paL post (wY_sweep_28 post (nI c) (nI n) 1) hn hc 1 (cz_cnt V n) V V C D (key := key) (val := val) (st := st) (hs := hs) (cen := cen) hcm hnd hV hD (fun v h => h) (fun s2 hs3 => by
        rw [k2]
        refine br_f (by decide) (br_t rfl (hp s2 fun v hv => ?_))
        rw [hs3 v hv]
        by_cases h : v < n
        · rw [if_pos h]
        · rw [if_neg h]) n 0 (by omega) s (fun v hv => by rw [if_neg (by omega)]; exact hs2 v hv)
      exact P2
    · rw [decide_eq_false hq]
      exact br_t cz_f (hp s hs2)) n 0 (by omega) sh (fun v hv => by rw [if_neg (by omega)]; exact h0 v hv)
  exact br_f (by decide) (br_f cz_1 ⟨n + 1, P1⟩)
theorem cz_swL (post : Int32 → SY → Prop) (n c : Nat) {key val st needs cm hs cen : Nat → Int32}
    (hp : ∀ s : Nat → Int32, (∀ v, v < 40 → s v = 0) → wY_sweep_28 post (nI c) (nI n) 3 0 1 0 key val st needs cm hs cen s) :
    ∀ d i, i + d = 40 → ∀ sh : Nat → Int32, (∀ v, v < i → sh v = 0) → wY_sweep_4 post (nI c) 0 (nI n) (d + 1) (nI i) key val st needs cm hs cen sh := by
  intro d
  induction d with
  | zero =>
    intro i hi sh h
    obtain rfl : i = 40 := by omega
    exact br_t cz_le40 ⟨3, hp sh h⟩
  | succ d ih =>
    intro i hi sh h
    refine br_f (cz_n40 (by omega)) ⟨vp_in_nI (by omega) (by omega), nm_e (nm_r (nI_1 i) ?_)⟩
    rw [nI_clamp (show i < 2 ^ 31 by omega)]
    refine ih (i + 1) (by omega) _ (fun v hv => ?_)
    by_cases e : v = i
    · subst e; rw [pk_us]; exact cz_nar0
    · rw [pk_un e]; exact h v (by omega)
theorem cz_sw {post : Int32 → SY → Prop} {n c : Nat} (hn : n ≤ 40) (hc : c < 3) (V C : Nat → Bool) (D : Nat → Nat → Bool) {key val st needs cm hs cen sh : Nat → Int32}
    (hcm : ∀ v, v < n → cm (c * 40 + v) = cz_bz (C v)) (hnd : ∀ a, a < 40 → ∀ b, b < 40 → needs (a * 40 + b) = cz_bz (D a b))
    (hV : ∀ v, V v = true ↔ (C v = true ∧ ∀ b, b < v → D v b = true → V b = true))
    (hD : ∀ a, a < 40 → ∀ b, D a b = true → b < a) (hE : ∀ v, n ≤ v → V v = false)
    (hp : ∀ s : Nat → Int32, (∀ v, v < 40 → s v = cz_bz (V v)) → post (nI (cz_cnt V n)) (nI n, key, val, st, needs, cm, hs, cen, s)) :
    wpY_sweep post (nI n, key, val, st, needs, cm, hs, cen, sh) (nI c) :=
  ⟨41, cz_swL post n c (fun s hs0 => cz_swR post hn hc V C D hcm hnd hV hD hE hs0 hp) 40 0 rfl sh (fun v hv => by omega)⟩
