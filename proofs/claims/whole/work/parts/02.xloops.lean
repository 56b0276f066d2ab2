theorem cz_has {post : Int32 → Prop} {x : Int64} {v : Nat} (hv : v < 64) (h : post (cz_bz (cz_bit x v))) : wpX_has post x (nI v) := by
  cases e : cz_bit x v with
  | false => rw [e] at h; exact br_t ((cz_hs0 x hv).mpr e) h
  | true => rw [e] at h; exact br_f (fun z => by rw [(cz_hs0 x hv).mp z] at e; exact absurd e (by decide)) h
theorem cz_on {post : Int64 → Prop} {v : Nat} (h : post ((1 : Int64) <<< ((nI v).toInt64 &&& 63))) : wpX_only post (nI v) := h
theorem cz_sizeL (post : Int32 → Prop) (x : Int64) (hp : post (nI (cz_cnt (cz_bit x) 40))) : ∀ d i, i + d = 40 → wX_sizeOf_4 post x (d + 1) (nI (cz_cnt (cz_bit x) i)) (nI i) := by
  intro d
  induction d with
  | zero =>
    intro i hi
    obtain rfl : i = 40 := by omega
    exact br_t cz_le40 hp
  | succ d ih =>
    intro i hi
    have H := ih (i + 1) (by omega)
    refine br_f (cz_n40 (by omega)) (cz_has (by omega) ?_)
    cases hb : cz_bit x i with
    | false =>
      rw [cz_cnt_f hb] at H
      exact br_t cz_f (nm_r (nI_1 i) H)
    | true =>
      rw [cz_cnt_t hb] at H
      exact br_f cz_t (nm_r (nI_1 _) (nm_r (nI_1 i) H))
theorem cz_size {post : Int32 → Prop} {x : Int64} (hp : post (nI (cz_cnt (cz_bit x) 40))) : wpX_sizeOf post x := ⟨41, cz_sizeL post x hp 40 0 rfl⟩
theorem cz_gsL (post : Int32 → Prop) (x : Int64) {f : Int32} {come vis seen dep : Nat → Int64} {cen key val st : Nat → Int32} (hp : post (cz_gs (cz_bit x) st 40)) : ∀ d i, i + d = 40 → wX_greatestStamp_5 post x f come vis seen dep cen key val st (d + 1) (cz_gs (cz_bit x) st i) (nI i) := by
  intro d
  induction d with
  | zero =>
    intro i hi
    obtain rfl : i = 40 := by omega
    exact br_t cz_le40 hp
  | succ d ih =>
    intro i hi
    have H := ih (i + 1) (by omega)
    have hi2 : vp_in (nI i) 40 := vp_in_nI (by omega) (by omega)
    refine br_f (cz_n40 (by omega)) (cz_has (by omega) ?_)
    cases hb : cz_bit x i with
    | false =>
      rw [cz_gs_f hb] at H
      exact br_t cz_f (nm_r (nI_1 i) H)
    | true =>
      refine br_f cz_t ⟨hi2, ?_⟩
      rw [nI_clamp (show i < 2 ^ 31 by omega)]
      by_cases hs : st i ≤ cz_gs (cz_bit x) st i
      · rw [cz_gs_le hs] at H
        exact br_t hs (nm_r (nI_1 i) H)
      · rw [cz_gs_y hb hs] at H
        exact br_f hs ⟨hi2, nm_e (nm_r (nI_1 i) H)⟩
theorem cz_gsW {post : Int32 → Prop} {x : Int64} {f : Int32} {come vis seen dep : Nat → Int64} {cen key val st : Nat → Int32} (hp : post (cz_gs (cz_bit x) st 40)) : wpX_greatestStamp post (f, come, vis, seen, dep, cen, key, val, st) x := ⟨41, cz_gsL post x hp 40 0 rfl⟩
theorem cz_wiL (post : Int32 → Prop) (c : Nat) (hc : c < 3) (k : Int32) (p : Nat → Bool) {f : Int32} {come vis seen dep : Nat → Int64} {cen key val st : Nat → Int32} (hq : ∀ v, p v = (cz_bit (vis c) v && decide (key v = k))) (hp : post (cz_wb p st 40).1) : ∀ d i, i + d = 40 → wX_winnerAt_9 post (nI c) k f come vis seen dep cen key val st (d + 1) (cz_wb p st i).1 (cz_wb p st i).2 (nI i) := by
  intro d
  induction d with
  | zero =>
    intro i hi
    obtain rfl : i = 40 := by omega
    exact br_t cz_le40 hp
  | succ d ih =>
    intro i hi
    have H := ih (i + 1) (by omega)
    have hi2 : vp_in (nI i) 40 := vp_in_nI (by omega) (by omega)
    have hq1 := hq i
    refine br_f (cz_n40 (by omega)) ⟨vp_in_nI hc (by omega), ?_⟩
    rw [nI_clamp (show c < 2 ^ 31 by omega)]
    refine cz_has (by omega) ?_
    cases hb : cz_bit (vis c) i with
    | false =>
      rw [hb] at hq1
      rw [cz_wb_f hq1] at H
      exact br_t cz_f (nm_r (nI_1 i) H)
    | true =>
      rw [hb] at hq1
      refine br_f cz_t ⟨hi2, ?_⟩
      rw [nI_clamp (show i < 2 ^ 31 by omega)]
      by_cases hk : key i = k
      · have hq2 : p i = true := by rw [hq1, decide_eq_true hk]; rfl
        refine br_t hk ⟨hi2, ?_⟩
        by_cases hs : st i < (cz_wb p st i).2
        · rw [cz_wb_lt hs] at H
          exact br_t hs (nm_r (nI_1 i) H)
        · rw [cz_wb_y hq2 hs] at H
          exact br_f hs ⟨hi2, nm_e (nm_r (nI_1 i) H)⟩
      · have hq2 : p i = false := by rw [hq1, decide_eq_false hk]; rfl
        rw [cz_wb_f hq2] at H
        exact br_f hk (nm_r (nI_1 i) H)
theorem cz_wiW {post : Int32 → Prop} {c : Nat} (hc : c < 3) {k : Int32} {f : Int32} {come vis seen dep : Nat → Int64} {cen key val st : Nat → Int32} (hp : post (cz_wb (fun v => cz_bit (vis c) v && decide (key v = k)) st 40).1) : wpX_winnerAt post (f, come, vis, seen, dep, cen, key, val, st) (nI c) k := ⟨41, cz_wiL post c hc k _ (fun _ => rfl) hp 40 0 rfl⟩
theorem cz_allV {post : Int32 → Prop} {x : Int64} {c : Nat} (hc : c < 3) {f : Int32} {come vis seen dep : Nat → Int64} {cen key val st : Nat → Int32} (h1 : (∀ j, cz_bit x j = true → cz_bit (vis c) j = true) → post 1) (h0 : ¬ (∀ j, cz_bit x j = true → cz_bit (vis c) j = true) → post 0) : wpX_allVisible post (f, come, vis, seen, dep, cen, key, val, st) x (nI c) := by
  unfold wpX_allVisible
  refine ⟨vp_in_nI hc (by omega), ?_⟩
  rw [nI_clamp (show c < 2 ^ 31 by omega)]
  exact br_c (fun h => h1 ((cz_sub0 _ _).mp h)) (fun h => h0 (fun z => h ((cz_sub0 _ _).mpr z)))
theorem cz_shL (post : Int32 → SX → Prop) (c : Nat) (hc : c < 3) (V T : Nat → Bool) {f : Int32} {come vis seen dep : Nat → Int64} {cen key val st : Nat → Int32} (vis0 : Nat → Int64)
    (hV : ∀ v, V v = true ↔ (cz_bit (come c) v = true ∧ ∀ b, b < v → cz_bit (dep v) b = true → V b = true))
    (hT : ∀ v, T v = true → V v = true) (hD : ∀ v, v < 40 → ∀ b, cz_bit (dep v) b = true → b < v) (hE : ∀ v, 40 ≤ v → V v = false)
    (hp : ∀ vf : Nat → Int64, (∀ j, j ≠ c → vf j = vis0 j) → (∀ v, cz_bit (vf c) v = V v) → post (nI (cz_cnt (fun j => V j && !T j) 40)) (f, come, vf, seen, dep, cen, key, val, st)) :
    ∀ d i, i + d = 40 → ∀ vc : Nat → Int64, (∀ j, j ≠ c → vc j = vis0 j) → (∀ v, cz_bit (vc c) v = if v < i then V v else T v) →
      wX_showReady_4 post (nI c) f (d + 1) (nI (cz_cnt (fun j => V j && !T j) i)) (nI i) come vc seen dep cen key val st := by
  have hTf : ∀ v, V v = false → T v = false := by
    intro v h
    cases e : T v with
    | false => rfl
    | true => rw [hT v e] at h; exact absurd h (by decide)
  intro d
  induction d with
  | zero =>
    intro i hi vc h1 h2
    obtain rfl : i = 40 := by omega
    refine br_t cz_le40 (hp vc h1 fun v => ?_)
    rw [h2 v]
    by_cases h : v < 40
    · rw [if_pos h]
    · rw [if_neg h, hTf v (hE v (by omega)), hE v (by omega)]
  | succ d ih =>
    intro i hi vc h1 h2
    have hi2 : vp_in (nI i) 40 := vp_in_nI (by omega) (by omega)
    have hc2 : vp_in (nI c) 3 := vp_in_nI hc (by omega)
    have hTi : cz_bit (vc c) i = T i := by rw [h2 i, if_neg (Nat.lt_irrefl i)]
    -- the set stays as it is at i
    have same : V i = T i → ∀ v, cz_bit (vc c) v = if v < i + 1 then V v else T v := by
      intro e v
      rw [h2 v]
      by_cases h : v < i
      · rw [if_pos h, if_pos (by omega)]
      · rw [if_neg h]
        by_cases h' : v = i
        · subst h'; rw [if_pos (by omega), e]
        · rw [if_neg (by omega)]
    have stay : V i = T i → wX_showReady_4 post (nI c) f (d + 1) (nI (cz_cnt (fun j => V j && !T j) i)) (nI (i + 1)) come vc seen dep cen key val st := by
      intro e
      have H := ih (i + 1) (by omega) vc h1 (same e)
      have q : (fun j => V j && !T j) i = false := by show (V i && !T i) = false; rw [e]; cases T i <;> rfl
      rw [cz_cnt_f q] at H
      exact H
    refine br_f (cz_n40 (by omega)) ⟨hc2, ?_⟩
    rw [nI_clamp (show c < 2 ^ 31 by omega)]
    refine cz_has (by omega) ?_
    cases hb : cz_bit (come c) i with
    | false =>
      have e : V i = false := by
        cases e : V i with
        | false => rfl
        | true => have := ((hV i).mp e).1; rw [hb] at this; exact absurd this (by decide)
      exact br_t cz_f (br_t rfl (nm_r (nI_1 i) (stay (by rw [e, hTf i e]))))
    | true =>
      refine br_f cz_t ⟨hc2, cz_has (by omega) ?_⟩
      cases hv : cz_bit (vc c) i with
      | true =>
        have e : T i = true := by rw [← hTi]; exact hv
        exact br_f cz_t (br_t rfl (nm_r (nI_1 i) (stay (by rw [e, hT i e]))))
      | false =>
        have e : T i = false := by rw [← hTi]; exact hv
        refine br_t cz_f (br_f cz_1 ⟨hi2, ?_⟩)
        rw [nI_clamp (show i < 2 ^ 31 by omega)]
        refine cz_allV hc (fun ha => ?_) (fun ha => ?_)
        · have eV : V i = true := (hV i).mpr ⟨hb, fun b hbi hdb => by
            have := ha b hdb
            rw [h2 b, if_pos hbi] at this
            exact this⟩
          have q : (fun j => V j && !T j) i = true := by show (V i && !T i) = true; rw [e, eV]; rfl
          refine br_f cz_1 ⟨hc2, cz_on ⟨hc2, nm_e (nm_r (nI_1 _) (nm_r (nI_1 i) ?_))⟩⟩
          rw [nI_clamp (show c < 2 ^ 31 by omega)]
          have H := ih (i + 1) (by omega) (vp_updL vc c (vc c ||| ((1 : Int64) <<< ((nI i).toInt64 &&& 63)))) (fun j hj => by rw [pk_uLn hj]; exact h1 j hj) (fun v => by
            rw [pk_uLs, cz_or, cz_only (by omega), h2 v]
            by_cases h : v < i
            · rw [if_pos h, if_pos (by omega), decide_eq_false (by omega)]; simp
            · rw [if_neg h]
              by_cases h' : v = i
              · subst h'; rw [if_pos (by omega), eV]; simp
              · rw [if_neg (by omega), decide_eq_false h']; simp)
          rw [cz_cnt_t q] at H
          exact H
        · have eV : V i = false := by
            cases eV : V i with
            | false => rfl
            | true =>
              refine absurd (fun j hj => ?_) ha
              have hj2 := hD i (by omega) j hj
              rw [h2 j, if_pos hj2]
              exact ((hV i).mp eV).2 j hj2 hj
          exact br_t rfl (nm_r (nI_1 i) (stay (by rw [e, eV])))
theorem cz_shW {post : Int32 → SX → Prop} {c : Nat} (hc : c < 3) (V T : Nat → Bool) {f : Int32} {come vis seen dep : Nat → Int64} {cen key val st : Nat → Int32}
    (hV : ∀ v, V v = true ↔ (cz_bit (come c) v = true ∧ ∀ b, b < v → cz_bit (dep v) b = true → V b = true))
    (hT : ∀ v, T v = true → V v = true) (hD : ∀ v, v < 40 → ∀ b, cz_bit (dep v) b = true → b < v) (hE : ∀ v, 40 ≤ v → V v = false)
    (hv : ∀ v, cz_bit (vis c) v = T v)
    (hp : ∀ vf : Nat → Int64, (∀ j, j ≠ c → vf j = vis j) → (∀ v, cz_bit (vf c) v = V v) → post (nI (cz_cnt (fun j => V j && !T j) 40)) (f, come, vf, seen, dep, cen, key, val, st)) :
    wpX_showReady post (f, come, vis, seen, dep, cen, key, val, st) (nI c) :=
  ⟨41, cz_shL (vis := vis) post c hc V T vis hV hT hD hE hp 40 0 rfl vis (fun _ _ => rfl) (fun v => by rw [if_neg (by omega)]; exact hv v)⟩
