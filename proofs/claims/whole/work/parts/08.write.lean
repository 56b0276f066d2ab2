theorem cz_Rw {n : Nat} {come vis seen dep : Nat → Int64} {cen st needs cm hs : Nat → Int32} (hR : cz_R n come vis seen dep cen st needs cm hs) (hn : n < 40) {c e : Nat} (hc : c < 3) (he : e < 3)
    (g : Int32) (hg : ∃ s, s ≤ n + 1 ∧ g = nI s) (needs' : Nat → Int32) (vf : Nat → Int64)
    (h1 : ∀ a b, a < 40 → b < 40 → needs' (a * 40 + b) = if a = n ∧ b < n then cz_bz (cz_bit (seen c) b) else needs (a * 40 + b))
    (h2 : ∀ a, a ≠ e → vf a = vis a)
    (h3 : ∀ v, cz_bit (vf e) v = cz_V (cz_bit (vp_updL come e (come e ||| ((1 : Int64) <<< ((nI n).toInt64 &&& 63))) e)) (fun a => cz_bit (vp_updL dep n (seen c) a)) v) :
    cz_R (n + 1) (vp_updL come e (come e ||| ((1 : Int64) <<< ((nI n).toInt64 &&& 63)))) vf (vp_updL seen c (seen c ||| ((1 : Int64) <<< ((nI n).toInt64 &&& 63)))) (vp_updL dep n (seen c)) cen (upd st n g) needs' (upd cm (e * 40 + n) (cz_bz true)) (upd hs (c * 40 + n) (cz_bz true)) := by
  obtain ⟨_, hcen, hst, hcm, hcb, hhs, hsb, hnd, hdb, hvis⟩ := hR
  refine ⟨by omega, hcen, fun v hv => ?_, fun a v ha hv => ?_, fun a v ha hv => ?_, fun a v ha hv => ?_, fun a v ha hv => ?_, fun a b ha hb => ?_, fun a b ha hb => ?_, fun a v ha => ?_⟩
  · by_cases ev : v = n
    · subst ev; rw [pk_us]; exact hg
    · rw [pk_un ev]
      obtain ⟨s, hs1, hs2⟩ := hst v hv
      exact ⟨s, by omega, hs2⟩
  · by_cases ea : a = e
    · subst ea
      rw [pk_uLs, cz_or, cz_only (by omega)]
      by_cases ev : v = n
      · subst ev; rw [pk_us]; simp
      · rw [pk_un (by omega), hcm a v ha hv, decide_eq_false ev]; simp
    · rw [pk_uLn ea, pk_un (by omega)]; exact hcm a v ha hv
  · by_cases ea : a = e
    · subst ea
      rw [pk_uLs, cz_or, cz_only (by omega), hcb a v ha (by omega), decide_eq_false (by omega)]; rfl
    · rw [pk_uLn ea]; exact hcb a v ha (by omega)
  · by_cases ea : a = c
    · subst ea
      rw [pk_uLs, cz_or, cz_only (by omega)]
      by_cases ev : v = n
      · subst ev; rw [pk_us]; simp
      · rw [pk_un (by omega), hhs a v ha hv, decide_eq_false ev]; simp
    · rw [pk_uLn ea, pk_un (by omega)]; exact hhs a v ha hv
  · by_cases ea : a = c
    · subst ea
      rw [pk_uLs, cz_or, cz_only (by omega), hsb a v ha (by omega), decide_eq_false (by omega)]; rfl
    · rw [pk_uLn ea]; exact hsb a v ha (by omega)
  · rw [h1 a b ha hb]
    by_cases ea : a = n
    · subst ea
      rw [pk_uLs]
      by_cases eb : b < a
      · rw [if_pos ⟨rfl, eb⟩]
      · rw [if_neg (by omega), hnd a b ha hb, hdb a b ha (by omega), hsb c b hc (by omega)]
    · rw [pk_uLn ea, if_neg (by omega)]; exact hnd a b ha hb
  · by_cases ea : a = n
    · subst ea; rw [pk_uLs]; exact hsb c b hc hb
    · rw [pk_uLn ea]; exact hdb a b ha hb
  · by_cases ea : a = e
    · subst ea; exact h3 v
    · rw [h2 a ea, pk_uLn ea, hvis a v ha]
      refine (cz_V_cong (fun _ => rfl) (fun w hw b => ?_) v).symm
      by_cases ew : w = n
      · subst ew; rw [hcb a w ha (Nat.le_refl w)] at hw; exact absurd hw (by decide)
      · rw [pk_uLn ew]
theorem i_vc_write {k : Nat} {u : SX} {v : SY} (I : i_Rel k u v) (hk : k + 4 ≤ 2048) (v1 : Int32) (v2 : Int32) (v3 : Int32) : wpX_write (fun r u' => wpY_write (fun r' v' => r' = r ∧ i_Rel (k + 4) u' v') v v1 v2 v3) u v1 v2 v3 := by
  obtain ⟨n, come, vis, seen, dep, cen, key, val, st, needs, cm, hs, sh, rfl, rfl, hR⟩ := I
  have hn := hR.1
  unfold wpX_write wpY_write
  rcases cz_rng v1 (n := 3) (by omega) with h | ⟨c, hc, rfl⟩
  · exact cz_iC0 h (br_t rfl (cz_tY0 h (br_t rfl ⟨rfl, cz_rel hR⟩)))
  · rcases cz_rng v2 (n := 6) (by omega) with h | ⟨q, hq, rfl⟩
    · exact cz_iC1 hc (br_f cz_1 (cz_iK0 h (br_t rfl (cz_tY1 hc (br_f cz_1 (cz_kY0 h (br_t rfl ⟨rfl, cz_rel hR⟩)))))))
    · have hR0 := hR
      obtain ⟨_, hcen, hst, hcm, hcb, hhs, hsb, hnd, hdb, hvis⟩ := hR0
      have hc2 : vp_in (nI c) 3 := vp_in_nI hc (by omega)
      obtain ⟨e, he, hce⟩ := hcen c hc
      have he2 : vp_in (nI e) 3 := vp_in_nI he (by omega)
      refine cz_iC1 hc (br_f cz_1 (cz_iK1 hq (br_f cz_1 ?_)))
      by_cases h40 : n < 40
      · have hn2 : vp_in (nI n) 40 := vp_in_nI h40 (by omega)
        have hne : ¬ nI n = 40 := by
          intro z
          have z2 : nI n = nI 40 := z
          rw [nI_eq (by omega) (by omega)] at z2
          omega
        have hcc : (nI c).toNatClampNeg = c := nI_clamp (by omega)
        have hnn : (nI n).toNatClampNeg = n := nI_clamp (by omega)
        have hee : (nI e).toNatClampNeg = e := nI_clamp (by omega)
        refine br_t (nI_lt (b := 40) h40 (by decide)) ⟨hc2, nm_r (e' := nI e) (by rw [hcc]; exact hce) ⟨hc2, nm_r (e' := seen c) (by rw [hcc]) ⟨hn2, nm_e ⟨hn2, nm_e (cz_gsW ?_)⟩⟩⟩⟩
        have hg : 1 + cz_gs (cz_bit (seen c)) st 40 = cz_gs (cz_bit (seen c)) st n + 1 := by
          rw [cz_gs_40 hn (fun j hj => hsb c j hc hj), Int32.add_comm]
        refine ⟨hn2, nm_e ⟨hn2, nm_e (cz_on ⟨hc2, nm_e ⟨he2, cz_on ⟨he2, nm_e (nm_r (nI_1 n) ?_)⟩⟩⟩)⟩⟩
        rw [hcc, hnn, hee, hg]
        have hm : ∀ v, cz_bit (come e) v = true → cz_bit (vp_updL come e (come e ||| ((1 : Int64) <<< ((nI n).toInt64 &&& 63))) e) v = true := fun v h => by rw [pk_uLs, cz_or, h]; rfl
        have hdd : ∀ v, cz_bit (come e) v = true → ∀ b, cz_bit (vp_updL dep n (seen c) v) b = cz_bit (dep v) b := by
          intro v h b
          by_cases ev : v = n
          · subst ev; rw [hcb e v he (Nat.le_refl v)] at h; exact absurd h (by decide)
          · rw [pk_uLn ev]
        refine cz_shW he (cz_V (cz_bit (vp_updL come e (come e ||| ((1 : Int64) <<< ((nI n).toInt64 &&& 63))) e)) (fun a => cz_bit (vp_updL dep n (seen c) a))) (cz_bit (vis e)) (fun v => cz_V_iff _ _ v) (fun v h => ?_) (fun v hv b hb => ?_) (fun v hv => ?_) (fun _ => rfl) (fun vf h1 h2 => ?_)
        · rw [hvis e v he] at h
          exact cz_V_mono hm hdd v h
        · by_cases ev : v = n
          · subst ev
            rw [pk_uLs] at hb
            by_cases eb : b < v
            · exact eb
            · rw [hsb c b hc (by omega)] at hb; exact absurd hb (by decide)
          · rw [pk_uLn ev] at hb
            exact cz_RD hR v hv b hb
        · refine cz_V_C ?_
          rw [pk_uLs, cz_or, cz_only (by omega), hcb e v he (by omega), decide_eq_false (by omega)]; rfl
        · refine cz_tY1 hc (br_f cz_1 (cz_kY1 hq (br_f cz_1 (br_f hne ⟨n + 1, ?_⟩))))
          refine cz_wrY _ h40 hc he (nI q) v3 (cz_bit (seen c)) (needs0 := needs) hce (fun v hv => hhs c v hc hv) (fun nd hnd' => ?_) n 0 (by omega) needs (fun a b ha hb => by rw [if_neg (by omega)])
          refine ⟨rfl, cz_rel (cz_Rw hR h40 hc he _ ?_ nd vf hnd' h1 h2)⟩
          obtain ⟨s, hs1, hs2⟩ := cz_gs_bd (p := cz_bit (seen c)) hst n hn
          exact ⟨s + 1, by omega, by rw [hs2, nI_1]⟩
      · obtain rfl : n = 40 := by omega
        exact br_f (nI_nlt (b := 40) (Nat.le_refl 40) (by decide)) (cz_tY1 hc (br_f cz_1 (cz_kY1 hq (br_f cz_1 (br_t rfl ⟨rfl, cz_rel hR⟩)))))
