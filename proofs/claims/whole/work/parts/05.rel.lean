theorem cz_rng (x : Int32) {n : Nat} (hn : n < 2 ^ 31) : (x < 0 ∨ nI n ≤ x) ∨ ∃ j : Nat, j < n ∧ x = nI j := by
  rcases pk_ix x hn with h | h | h
  · exact Or.inl (Or.inl h)
  · exact Or.inl (Or.inr h)
  · exact Or.inr h
theorem cz_b0 {x m : Int32} {P Q : Prop} (h : x < 0 ∨ m ≤ x) (hp : P) : ((x < 0 → P) ∧ (¬ x < 0 → (((m ≤ x → P) ∧ (¬ m ≤ x → Q))))) := by
  by_cases h0 : x < 0
  · exact br_t h0 hp
  · rcases h with h | h
    · exact absurd h h0
    · exact br_f h0 (br_t h hp)
theorem cz_b1 {j n : Nat} {P Q : Prop} (hn : n < 2 ^ 31) (hj : j < n) (hp : Q) : ((nI j < 0 → P) ∧ (¬ nI j < 0 → (((nI n ≤ nI j → P) ∧ (¬ nI n ≤ nI j → Q))))) :=
  br_f (nI_pos (by omega)) (br_f (nI_ge hj hn) hp)
theorem cz_iC0 {post : Int32 → Prop} {x : Int32} (h : x < 0 ∨ nI 3 ≤ x) (hp : post 0) : wpX_isClient post x := cz_b0 (m := 3) h hp
theorem cz_iC1 {post : Int32 → Prop} {j : Nat} (h : j < 3) (hp : post 1) : wpX_isClient post (nI j) := cz_b1 (n := 3) (by decide) h hp
theorem cz_iE0 {post : Int32 → Prop} {x : Int32} (h : x < 0 ∨ nI 3 ≤ x) (hp : post 0) : wpX_isCentre post x := cz_b0 (m := 3) h hp
theorem cz_iE1 {post : Int32 → Prop} {j : Nat} (h : j < 3) (hp : post 1) : wpX_isCentre post (nI j) := cz_b1 (n := 3) (by decide) h hp
theorem cz_iK0 {post : Int32 → Prop} {x : Int32} (h : x < 0 ∨ nI 6 ≤ x) (hp : post 0) : wpX_isKey post x := cz_b0 (m := 6) h hp
theorem cz_iK1 {post : Int32 → Prop} {j : Nat} (h : j < 6) (hp : post 1) : wpX_isKey post (nI j) := cz_b1 (n := 6) (by decide) h hp
theorem cz_iV0 {post : Int32 → Prop} {x : Int32} {f : Int32} {come vis seen dep : Nat → Int64} {cen key val st : Nat → Int32} (h : x < 0 ∨ f ≤ x) (hp : post 0) : wpX_isVersion post (f, come, vis, seen, dep, cen, key, val, st) x := cz_b0 h hp
theorem cz_iV1 {post : Int32 → Prop} {j n : Nat} (hn : n ≤ 40) {come vis seen dep : Nat → Int64} {cen key val st : Nat → Int32} (h : j < n) (hp : post 1) : wpX_isVersion post (nI n, come, vis, seen, dep, cen, key, val, st) (nI j) := cz_b1 (by omega) h hp
theorem cz_tY0 {post : Int32 → Prop} {x : Int32} {n : Nat} {key val st needs cm hs cen sh : Nat → Int32} (h : x < 0 ∨ nI 3 ≤ x) (hp : post 0) : wpY_three post (nI n, key, val, st, needs, cm, hs, cen, sh) x := cz_b0 (m := 3) h hp
theorem cz_tY1 {post : Int32 → Prop} {j n : Nat} {key val st needs cm hs cen sh : Nat → Int32} (h : j < 3) (hp : post 1) : wpY_three post (nI n, key, val, st, needs, cm, hs, cen, sh) (nI j) := cz_b1 (n := 3) (by decide) h hp
theorem cz_kY0 {post : Int32 → Prop} {x : Int32} {n : Nat} {key val st needs cm hs cen sh : Nat → Int32} (h : x < 0 ∨ nI 6 ≤ x) (hp : post 0) : wpY_isKey post (nI n, key, val, st, needs, cm, hs, cen, sh) x := cz_b0 (m := 6) h hp
theorem cz_kY1 {post : Int32 → Prop} {j n : Nat} {key val st needs cm hs cen sh : Nat → Int32} (h : j < 6) (hp : post 1) : wpY_isKey post (nI n, key, val, st, needs, cm, hs, cen, sh) (nI j) := cz_b1 (n := 6) (by decide) h hp
theorem cz_vY0 {post : Int32 → Prop} {x : Int32} {n : Nat} {key val st needs cm hs cen sh : Nat → Int32} (h : x < 0 ∨ nI n ≤ x) (hp : post 0) : wpY_isVersion post (nI n, key, val, st, needs, cm, hs, cen, sh) x := cz_b0 h hp
theorem cz_vY1 {post : Int32 → Prop} {j n : Nat} (hn : n ≤ 40) {key val st needs cm hs cen sh : Nat → Int32} (h : j < n) (hp : post 1) : wpY_isVersion post (nI n, key, val, st, needs, cm, hs, cen, sh) (nI j) := cz_b1 (by omega) h hp
/-! the relation -/
def cz_R (n : Nat) (come vis seen dep : Nat → Int64) (cen st needs cm hs : Nat → Int32) : Prop :=
  n ≤ 40 ∧ (∀ c, c < 3 → ∃ d, d < 3 ∧ cen c = nI d) ∧ (∀ v, v < 40 → ∃ s, s ≤ n ∧ st v = nI s) ∧
  (∀ c v, c < 3 → v < 40 → cm (c * 40 + v) = cz_bz (cz_bit (come c) v)) ∧ (∀ c v, c < 3 → n ≤ v → cz_bit (come c) v = false) ∧
  (∀ c v, c < 3 → v < 40 → hs (c * 40 + v) = cz_bz (cz_bit (seen c) v)) ∧ (∀ c v, c < 3 → n ≤ v → cz_bit (seen c) v = false) ∧
  (∀ a b, a < 40 → b < 40 → needs (a * 40 + b) = cz_bz (cz_bit (dep a) b)) ∧ (∀ a b, a < 40 → a ≤ b → cz_bit (dep a) b = false) ∧
  (∀ c v, c < 3 → cz_bit (vis c) v = cz_V (cz_bit (come c)) (fun a => cz_bit (dep a)) v)
/-- both hold the same count, keys, values, stamps and places; the long sets are the boolean rows; what is visible is the least set -/
def i_Rel (_ : Nat) (u : SX) (v : SY) : Prop := ∃ (n : Nat) (come vis seen dep : Nat → Int64) (cen key val st needs cm hs sh : Nat → Int32),
  u = (nI n, come, vis, seen, dep, cen, key, val, st) ∧ v = (nI n, key, val, st, needs, cm, hs, cen, sh) ∧ cz_R n come vis seen dep cen st needs cm hs
theorem cz_rel {k n : Nat} {come vis seen dep : Nat → Int64} {cen key val st needs cm hs sh : Nat → Int32} (h : cz_R n come vis seen dep cen st needs cm hs) : i_Rel k (nI n, come, vis, seen, dep, cen, key, val, st) (nI n, key, val, st, needs, cm, hs, cen, sh) :=
  ⟨n, come, vis, seen, dep, cen, key, val, st, needs, cm, hs, sh, rfl, rfl, h⟩
theorem i_up {k : Nat} {u : SX} {v : SY} (h : i_Rel k u v) : i_Rel (k + 4) u v := h
def cz_ini : Nat → Nat → Int32
  | 0 => fun _ => 0
  | i + 1 => upd (cz_ini i) i (nI i)
theorem cz_inX (post : SX → Prop) {f : Int32} {come vis seen dep : Nat → Int64} {cen key val st : Nat → Int32} (hp : post (f, come, vis, seen, dep, cz_ini 3, key, val, st)) : ∀ d i, i + d = 3 → wX_init_71 post f (d + 1) (nI i) come vis seen dep (cz_ini i) key val st := by
  intro d
  induction d with
  | zero =>
    intro i hi
    obtain rfl : i = 3 := by omega
    exact br_t (by decide) hp
  | succ d ih =>
    intro i hi
    refine br_f (nI_ge (b := 3) (by omega) (by decide)) ⟨vp_in_nI (by omega) (by omega), nm_e (nm_r (nI_1 i) ?_)⟩
    rw [nI_clamp (show i < 2 ^ 31 by omega)]
    exact ih (i + 1) (by omega)
theorem cz_inY (post : SY → Prop) {f : Int32} {key val st needs cm hs cen sh : Nat → Int32} (hp : post (f, key, val, st, needs, cm, hs, cz_ini 3, sh)) : ∀ d i, i + d = 3 → wY_init_70 post f (d + 1) (nI i) key val st needs cm hs (cz_ini i) sh := by
  intro d
  induction d with
  | zero =>
    intro i hi
    obtain rfl : i = 3 := by omega
    exact br_t (by decide) hp
  | succ d ih =>
    intro i hi
    refine br_f (nI_ge (b := 3) (by omega) (by decide)) ⟨vp_in_nI (by omega) (by omega), nm_e (nm_r (nI_1 i) ?_)⟩
    rw [nI_clamp (show i < 2 ^ 31 by omega)]
    exact ih (i + 1) (by omega)
theorem cz_ini3 : ∀ c, c < 3 → cz_ini 3 c = nI c := by decide
theorem cz_R0 : cz_R 0 (fun _ => 0) (fun _ => 0) (fun _ => 0) (fun _ => 0) (cz_ini 3) (fun _ => 0) (fun _ => 0) (fun _ => 0) (fun _ => 0) := by
  refine ⟨by omega, fun c hc => ⟨c, hc, cz_ini3 c hc⟩, fun v _ => ⟨0, by omega, rfl⟩, fun c v _ _ => ?_, fun c v _ _ => cz_zero v, fun c v _ _ => ?_, fun c v _ _ => cz_zero v, fun a b _ _ => ?_, fun a b _ _ => cz_zero b, fun c v _ => ?_⟩
  · dsimp only; rw [cz_zero]; rfl
  · dsimp only; rw [cz_zero]; rfl
  · dsimp only; rw [cz_zero]; rfl
  · rw [cz_zero, cz_V_C (cz_zero v)]
theorem i_vc0 : wpX_init (fun u => wpY_init (fun v => i_Rel 0 u v)) :=
  ⟨4, cz_inX (cen := fun _ => 0) _ ⟨4, cz_inY (cen := fun _ => 0) _ (cz_rel (n := 0) cz_R0) 3 0 rfl⟩ 3 0 rfl⟩
/-! what the relation gives -/
theorem cz_RV {n : Nat} {come vis seen dep : Nat → Int64} {cen st needs cm hs : Nat → Int32} (hR : cz_R n come vis seen dep cen st needs cm hs) {c : Nat} (hc : c < 3) (v : Nat) :
    cz_bit (vis c) v = true ↔ (cz_bit (come c) v = true ∧ ∀ b, b < v → cz_bit (dep v) b = true → cz_bit (vis c) b = true) := by
  obtain ⟨hn, hcen, hst, hcm, hcb, hhs, hsb, hnd, hdb, hvis⟩ := hR
  rw [hvis c v hc, cz_V_iff]
  constructor
  · intro h; exact ⟨h.1, fun b hb hd => by rw [hvis c b hc]; exact h.2 b hb hd⟩
  · intro h; exact ⟨h.1, fun b hb hd => by rw [← hvis c b hc]; exact h.2 b hb hd⟩
theorem cz_RE {n : Nat} {come vis seen dep : Nat → Int64} {cen st needs cm hs : Nat → Int32} (hR : cz_R n come vis seen dep cen st needs cm hs) {c : Nat} (hc : c < 3) (v : Nat) (hv : n ≤ v) : cz_bit (vis c) v = false := by
  obtain ⟨hn, hcen, hst, hcm, hcb, hhs, hsb, hnd, hdb, hvis⟩ := hR
  rw [hvis c v hc]; exact cz_V_C (hcb c v hc hv)
theorem cz_RD {n : Nat} {come vis seen dep : Nat → Int64} {cen st needs cm hs : Nat → Int32} (hR : cz_R n come vis seen dep cen st needs cm hs) : ∀ a, a < 40 → ∀ b, cz_bit (dep a) b = true → b < a := by
  obtain ⟨hn, hcen, hst, hcm, hcb, hhs, hsb, hnd, hdb, hvis⟩ := hR
  intro a ha b h
  by_cases e : b < a
  · exact e
  · rw [hdb a b ha (by omega)] at h; exact absurd h (by decide)
theorem cz_swN {post : Int32 → SY → Prop} {n c : Nat} {come vis seen dep : Nat → Int64} {key val st needs cm hs cen sh : Nat → Int32} (hR : cz_R n come vis seen dep cen st needs cm hs) (hc : c < 3)
    (hp : ∀ s : Nat → Int32, (∀ v, v < 40 → s v = cz_bz (cz_bit (vis c) v)) → post (nI (cz_cnt (cz_bit (vis c)) n)) (nI n, key, val, st, needs, cm, hs, cen, s)) :
    wpY_sweep post (nI n, key, val, st, needs, cm, hs, cen, sh) (nI c) := by
  have hV := cz_RV hR hc
  have hE := cz_RE hR hc
  have hD := cz_RD hR
  obtain ⟨hn, hcen, hst, hcm, hcb, hhs, hsb, hnd, hdb, hvis⟩ := hR
  exact cz_sw hn hc (cz_bit (vis c)) (cz_bit (come c)) (fun a => cz_bit (dep a)) (fun v hv => hcm c v hc (by omega)) (fun a ha b hb => hnd a b ha hb) hV hD hE hp
theorem cz_wnY {post : Int32 → SY → Prop} {n c k : Nat} {come vis seen dep : Nat → Int64} {key val st needs cm hs cen sh : Nat → Int32} (hR : cz_R n come vis seen dep cen st needs cm hs) (hc : c < 3) (hk : k < 6)
    (hp : ∀ s : Nat → Int32, post (cz_wb (fun v => cz_bit (vis c) v && decide (key v = nI k)) st 40).1 (nI n, key, val, st, needs, cm, hs, cen, s)) :
    wpY_winner post (nI n, key, val, st, needs, cm, hs, cen, sh) (nI c) (nI k) := by
  have hR0 := hR
  have hE := cz_RE hR hc
  obtain ⟨hn, hcen, hst, hcm, hcb, hhs, hsb, hnd, hdb, hvis⟩ := hR0
  rw [cz_wb_40 hn (fun j hj => by rw [hE j hj]; rfl)] at hp
  unfold wpY_winner
  refine cz_tY1 hc (br_f cz_1 (cz_kY1 hk (br_f cz_1 (cz_swN hR hc (fun s hs1 => ⟨n + 1, ?_⟩)))))
  exact cz_wiY post hn (nI k) _ (cz_bit (vis c)) hs1 hst (fun _ => rfl) (hp s) n 0 (by omega)
