section
theorem pk_us {f : Nat → Int32} {k : Nat} {x : Int32} : upd f k x k = x := if_pos rfl
theorem pk_un {f : Nat → Int32} {k j : Nat} {x : Int32} (h : j ≠ k) : upd f k x j = f j := if_neg h
theorem pk_uLs {f : Nat → Int64} {k : Nat} {x : Int64} : vp_updL f k x k = x := if_pos rfl
theorem pk_uLn {f : Nat → Int64} {k j : Nat} {x : Int64} (h : j ≠ k) : vp_updL f k x j = f j := if_neg h
theorem pk_sub {a b : Nat} (h : b ≤ a) : nI a - nI b = nI (a - b) := by
  obtain ⟨c, rfl⟩ : ∃ c, a = c + b := ⟨a - b, by omega⟩
  rw [← nI_add, Int32.add_sub_cancel, Nat.add_sub_cancel]
theorem pk_mul (a b : Nat) : nI a * nI b = nI (a * b) := (Int32.ofNat_mul a b).symm
theorem pk_ix (x : Int32) {n : Nat} (hn : n < 2 ^ 31) : x < 0 ∨ nI n ≤ x ∨ ∃ j : Nat, j < n ∧ x = nI j := by
  by_cases h : x < 0
  · exact Or.inl h
  · obtain ⟨j, hj, rfl⟩ := nI_of h
    by_cases h2 : j < n
    · exact Or.inr (Or.inr ⟨j, h2, rfl⟩)
    · exact Or.inr (Or.inl (nI_le (by omega) hj))
theorem wb_tb (n : Nat) : (lN n).toBitVec = BitVec.ofNat 64 n := rfl
theorem wb_inj {a b : Int64} (h : a.toBitVec = b.toBitVec) : a = b := Int64.toBitVec_inj.mp h
def cz_bit (x : Int64) (i : Nat) : Bool := x.toBitVec.getLsbD i
def cz_bz : Bool → Int32
  | true => 1
  | false => 0
theorem cz_t : ¬ cz_bz true = 0 := by decide
theorem cz_f : cz_bz false = 0 := rfl
theorem cz_1 : ¬ (1 : Int32) = 0 := by decide
theorem cz_nar1 : vp_nar .boolean 1 = cz_bz true := by decide
theorem cz_nar0 : vp_nar .boolean 0 = cz_bz false := by decide
theorem cz_narB (b : Bool) : vp_nar .boolean (cz_bz b) = cz_bz b := by cases b <;> decide
theorem cz_nrw (b : Bool) : narrow .boolean (.int (cz_bz b)) = .int (cz_bz b) := by
  cases b
  · exact congrArg Value.int (by decide)
  · exact congrArg Value.int (by decide)
theorem cz_sh : ∀ v, v < 64 → ((1 : Int64) <<< ((nI v).toInt64 &&& 63)).toBitVec = BitVec.twoPow 64 v := by decide +kernel
theorem cz_mk : ∀ v, v < 64 → (((1 : Int64) <<< ((nI v).toInt64 &&& 63)) - 1).toBitVec = BitVec.ofNat 64 (2 ^ v - 1) := by decide +kernel
theorem cz_big {x : Int64} {j : Nat} (h : 64 ≤ j) : cz_bit x j = false := BitVec.getLsbD_of_ge _ _ h
theorem cz_only {v : Nat} (hv : v < 64) (j : Nat) : cz_bit ((1 : Int64) <<< ((nI v).toInt64 &&& 63)) j = decide (j = v) := by
  unfold cz_bit
  rw [cz_sh v hv, BitVec.getLsbD_twoPow]
  by_cases h : j = v
  · subst h; simp [hv]
  · have h' : ¬ v = j := fun z => h z.symm
    simp [h, h']
theorem cz_mask {n : Nat} (hn : n < 64) (j : Nat) : cz_bit (((1 : Int64) <<< ((nI n).toInt64 &&& 63)) - 1) j = decide (j < n) := by
  unfold cz_bit
  rw [cz_mk n hn, BitVec.getLsbD_ofNat, Nat.testBit_two_pow_sub_one]
  by_cases h : j < n
  · simp [h]; omega
  · simp [h]
theorem cz_or (x y : Int64) (j : Nat) : cz_bit (x ||| y) j = (cz_bit x j || cz_bit y j) := by
  unfold cz_bit
  rw [Int64.toBitVec_or, BitVec.getLsbD_or]
theorem cz_and (x y : Int64) (j : Nat) : cz_bit (x &&& y) j = (cz_bit x j && cz_bit y j) := by
  unfold cz_bit
  rw [Int64.toBitVec_and, BitVec.getLsbD_and]
theorem cz_m1 : (-1 : Int64).toBitVec = BitVec.allOnes 64 := by decide
theorem cz_andn (x y : Int64) (j : Nat) : cz_bit (x &&& (y ^^^ (-1))) j = (cz_bit x j && !cz_bit y j) := by
  by_cases h : j < 64
  · unfold cz_bit
    rw [Int64.toBitVec_and, BitVec.getLsbD_and, Int64.toBitVec_xor, BitVec.getLsbD_xor, cz_m1, BitVec.getLsbD_allOnes]
    simp [h]
  · rw [cz_big (by omega), cz_big (by omega)]; rfl
theorem cz_ext {x y : Int64} (h : ∀ j, cz_bit x j = cz_bit y j) : x = y := wb_inj (BitVec.eq_of_getLsbD_eq fun i _ => h i)
theorem cz_zero (j : Nat) : cz_bit 0 j = false := by
  unfold cz_bit
  exact BitVec.getLsbD_zero
theorem cz_is0 (x : Int64) : x = 0 ↔ ∀ j, cz_bit x j = false :=
  ⟨fun h j => by rw [h]; exact cz_zero j, fun h => cz_ext fun j => by rw [h j, cz_zero]⟩
theorem cz_hs0 (x : Int64) {v : Nat} (hv : v < 64) : (x &&& ((1 : Int64) <<< ((nI v).toInt64 &&& 63))) = 0 ↔ cz_bit x v = false := by
  rw [cz_is0]
  constructor
  · intro h
    have := h v
    rw [cz_and, cz_only hv] at this
    simpa using this
  · intro h j
    rw [cz_and, cz_only hv]
    by_cases e : j = v
    · subst e; simp [h]
    · simp [e]
theorem cz_sub0 (x y : Int64) : (x &&& (y ^^^ (-1))) = 0 ↔ ∀ j, cz_bit x j = true → cz_bit y j = true := by
  rw [cz_is0]
  constructor
  · intro h j hx
    have := h j
    rw [cz_andn, hx] at this
    simpa using this
  · intro h j
    rw [cz_andn]
    cases e : cz_bit x j with
    | false => rfl
    | true => rw [h j e]; rfl
theorem cz_ix (v j : Nat) : nI v * 40 + nI j = nI (v * 40 + j) := by
  have e : (40 : Int32) = nI 40 := rfl
  rw [e, pk_mul, nI_add]
theorem cz_n40 {i : Nat} (h : i < 40) : ¬ (40 : Int32) ≤ nI i := nI_ge (b := 40) h (by decide)
theorem cz_le40 : (40 : Int32) ≤ nI 40 := nI_le (b := 40) (Nat.le_refl 40) (by decide)
/-! counting -/
def cz_cnt (p : Nat → Bool) : Nat → Nat
  | 0 => 0
  | i + 1 => cz_cnt p i + (cond (p i) 1 0)
theorem cz_cnt_t {p : Nat → Bool} {i : Nat} (h : p i = true) : cz_cnt p (i + 1) = cz_cnt p i + 1 := by
  show cz_cnt p i + (cond (p i) 1 0) = _
  rw [h]; rfl
theorem cz_cnt_f {p : Nat → Bool} {i : Nat} (h : p i = false) : cz_cnt p (i + 1) = cz_cnt p i := by
  show cz_cnt p i + (cond (p i) 1 0) = _
  rw [h]; rfl
theorem cz_cnt_cong {p q : Nat → Bool} : ∀ i, (∀ j, j < i → p j = q j) → cz_cnt p i = cz_cnt q i := by
  intro i
  induction i with
  | zero => intro _; rfl
  | succ i ih =>
    intro h
    show cz_cnt p i + (cond (p i) 1 0) = cz_cnt q i + (cond (q i) 1 0)
    rw [ih (fun j hj => h j (by omega)), h i (by omega)]
theorem cz_cnt_stop {p : Nat → Bool} {n : Nat} (h : ∀ j, n ≤ j → p j = false) : ∀ d, cz_cnt p (n + d) = cz_cnt p n := by
  intro d
  induction d with
  | zero => rfl
  | succ d ih => rw [← ih]; exact cz_cnt_f (h (n + d) (Nat.le_add_right n d))
theorem cz_cnt_40 {p : Nat → Bool} {n : Nat} (hn : n ≤ 40) (h : ∀ j, n ≤ j → p j = false) : cz_cnt p 40 = cz_cnt p n := by
  have := cz_cnt_stop h (40 - n)
  rwa [show n + (40 - n) = 40 by omega] at this
theorem cz_cnt_diff {V T : Nat → Bool} (h : ∀ j, T j = true → V j = true) : ∀ i, cz_cnt (fun j => V j && !T j) i + cz_cnt T i = cz_cnt V i := by
  intro i
  induction i with
  | zero => rfl
  | succ i ih =>
    have e := h i
    show (cz_cnt (fun j => V j && !T j) i + (cond (V i && !T i) 1 0)) + (cz_cnt T i + (cond (T i) 1 0)) = cz_cnt V i + (cond (V i) 1 0)
    cases hT : T i <;> cases hV : V i
    · simp; omega
    · simp; omega
    · rw [hT, hV] at e; exact absurd (e rfl) (by decide)
    · simp; omega
theorem cz_cnt_le {p : Nat → Bool} : ∀ i, cz_cnt p i ≤ i := by
  intro i
  induction i with
  | zero => exact Nat.le_refl 0
  | succ i ih =>
    show cz_cnt p i + (cond (p i) 1 0) ≤ i + 1
    cases p i
    · simp; omega
    · simp; omega
/-! the greatest stamp -/
def cz_gs (p : Nat → Bool) (st : Nat → Int32) : Nat → Int32
  | 0 => 0
  | i + 1 => if p i = true ∧ ¬ st i ≤ cz_gs p st i then st i else cz_gs p st i
theorem cz_gs_n {p : Nat → Bool} {st : Nat → Int32} {i : Nat} (h : ¬ (p i = true ∧ ¬ st i ≤ cz_gs p st i)) : cz_gs p st (i + 1) = cz_gs p st i := if_neg h
theorem cz_gs_y {p : Nat → Bool} {st : Nat → Int32} {i : Nat} (h : p i = true) (h2 : ¬ st i ≤ cz_gs p st i) : cz_gs p st (i + 1) = st i := if_pos ⟨h, h2⟩
theorem cz_gs_f {p : Nat → Bool} {st : Nat → Int32} {i : Nat} (h : p i = false) : cz_gs p st (i + 1) = cz_gs p st i := cz_gs_n (fun z => by rw [h] at z; exact absurd z.1 (by decide))
theorem cz_gs_le {p : Nat → Bool} {st : Nat → Int32} {i : Nat} (h : st i ≤ cz_gs p st i) : cz_gs p st (i + 1) = cz_gs p st i := cz_gs_n (fun z => z.2 h)
theorem cz_gs_stop {p : Nat → Bool} {st : Nat → Int32} {n : Nat} (h : ∀ j, n ≤ j → p j = false) : ∀ d, cz_gs p st (n + d) = cz_gs p st n := by
  intro d
  induction d with
  | zero => rfl
  | succ d ih => rw [← ih]; exact cz_gs_f (h (n + d) (Nat.le_add_right n d))
theorem cz_gs_40 {p : Nat → Bool} {st : Nat → Int32} {n : Nat} (hn : n ≤ 40) (h : ∀ j, n ≤ j → p j = false) : cz_gs p st 40 = cz_gs p st n := by
  have := cz_gs_stop (st := st) h (40 - n)
  rwa [show n + (40 - n) = 40 by omega] at this
theorem cz_gs_bd {p : Nat → Bool} {st : Nat → Int32} {n : Nat} (h : ∀ v, v < 40 → ∃ s, s ≤ n ∧ st v = nI s) : ∀ i, i ≤ 40 → ∃ s, s ≤ n ∧ cz_gs p st i = nI s := by
  intro i
  induction i with
  | zero => intro _; exact ⟨0, Nat.zero_le n, rfl⟩
  | succ i ih =>
    intro hi
    by_cases e : p i = true ∧ ¬ st i ≤ cz_gs p st i
    · rw [cz_gs_y e.1 e.2]; exact h i (by omega)
    · rw [cz_gs_n e]; exact ih (by omega)
/-! the winner -/
def cz_wb (p : Nat → Bool) (st : Nat → Int32) : Nat → Int32 × Int32
  | 0 => (-5, 0)
  | i + 1 => if p i = true ∧ ¬ st i < (cz_wb p st i).2 then (nI i, st i) else cz_wb p st i
theorem cz_wb_n {p : Nat → Bool} {st : Nat → Int32} {i : Nat} (h : ¬ (p i = true ∧ ¬ st i < (cz_wb p st i).2)) : cz_wb p st (i + 1) = cz_wb p st i := if_neg h
theorem cz_wb_y {p : Nat → Bool} {st : Nat → Int32} {i : Nat} (h : p i = true) (h2 : ¬ st i < (cz_wb p st i).2) : cz_wb p st (i + 1) = (nI i, st i) := if_pos ⟨h, h2⟩
theorem cz_wb_f {p : Nat → Bool} {st : Nat → Int32} {i : Nat} (h : p i = false) : cz_wb p st (i + 1) = cz_wb p st i := cz_wb_n (fun z => by rw [h] at z; exact absurd z.1 (by decide))
theorem cz_wb_lt {p : Nat → Bool} {st : Nat → Int32} {i : Nat} (h : st i < (cz_wb p st i).2) : cz_wb p st (i + 1) = cz_wb p st i := cz_wb_n (fun z => z.2 h)
theorem cz_wb_stop {p : Nat → Bool} {st : Nat → Int32} {n : Nat} (h : ∀ j, n ≤ j → p j = false) : ∀ d, cz_wb p st (n + d) = cz_wb p st n := by
  intro d
  induction d with
  | zero => rfl
  | succ d ih => rw [← ih]; exact cz_wb_f (h (n + d) (Nat.le_add_right n d))
theorem cz_wb_40 {p : Nat → Bool} {st : Nat → Int32} {n : Nat} (hn : n ≤ 40) (h : ∀ j, n ≤ j → p j = false) : cz_wb p st 40 = cz_wb p st n := by
  have := cz_wb_stop (st := st) h (40 - n)
  rwa [show n + (40 - n) = 40 by omega] at this
theorem cz_wb_inv {p : Nat → Bool} {st : Nat → Int32} : ∀ i, cz_wb p st i = (-5, 0) ∨ ∃ j, j < i ∧ p j = true ∧ cz_wb p st i = (nI j, st j) := by
  intro i
  induction i with
  | zero => exact Or.inl rfl
  | succ i ih =>
    by_cases e : p i = true ∧ ¬ st i < (cz_wb p st i).2
    · exact Or.inr ⟨i, by omega, e.1, cz_wb_y e.1 e.2⟩
    · rw [cz_wb_n e]
      rcases ih with h | ⟨j, hj, h1, h2⟩
      · exact Or.inl h
      · exact Or.inr ⟨j, by omega, h1, h2⟩
/-! what is shown: the least set, by an ascending pass -/
def cz_A (C : Nat → Bool) (D : Nat → Nat → Bool) : Nat → Nat → Bool
  | 0 => fun _ => false
  | i + 1 => fun v => if v = i then (C i && decide (∀ b, b < i → D i b = true → cz_A C D i b = true)) else cz_A C D i v
def cz_V (C : Nat → Bool) (D : Nat → Nat → Bool) (v : Nat) : Bool := cz_A C D (v + 1) v
theorem cz_A_lt (C : Nat → Bool) (D : Nat → Nat → Bool) : ∀ i v, v < i → cz_A C D i v = cz_V C D v := by
  intro i
  induction i with
  | zero => intro v hv; omega
  | succ i ih =>
    intro v hv
    by_cases e : v = i
    · subst e; rfl
    · have h : cz_A C D (i + 1) v = cz_A C D i v := if_neg e
      rw [h]; exact ih v (by omega)
theorem cz_V_iff (C : Nat → Bool) (D : Nat → Nat → Bool) (v : Nat) : cz_V C D v = true ↔ (C v = true ∧ ∀ b, b < v → D v b = true → cz_V C D b = true) := by
  have e : cz_V C D v = (C v && decide (∀ b, b < v → D v b = true → cz_A C D v b = true)) := if_pos rfl
  rw [e, Bool.and_eq_true, decide_eq_true_iff]
  constructor
  · intro h
    exact ⟨h.1, fun b hb hd => by rw [← cz_A_lt C D v b hb]; exact h.2 b hb hd⟩
  · intro h
    exact ⟨h.1, fun b hb hd => by rw [cz_A_lt C D v b hb]; exact h.2 b hb hd⟩
theorem cz_V_C {C : Nat → Bool} {D : Nat → Nat → Bool} {v : Nat} (h : C v = false) : cz_V C D v = false := by
  cases e : cz_V C D v with
  | false => rfl
  | true => have := ((cz_V_iff C D v).mp e).1; rw [h] at this; exact absurd this (by decide)
theorem cz_V_mono {C C' : Nat → Bool} {D D' : Nat → Nat → Bool} (hC : ∀ v, C v = true → C' v = true) (hD : ∀ v, C v = true → ∀ b, D' v b = D v b) : ∀ v, cz_V C D v = true → cz_V C' D' v = true := by
  intro v
  induction v using Nat.strongRecOn with
  | ind v ih =>
    intro h
    have h2 := (cz_V_iff C D v).mp h
    exact (cz_V_iff C' D' v).mpr ⟨hC v h2.1, fun b hb hd => ih b hb (h2.2 b hb (by rw [← hD v h2.1 b]; exact hd))⟩
theorem cz_V_cong {C C' : Nat → Bool} {D D' : Nat → Nat → Bool} (hC : ∀ v, C' v = C v) (hD : ∀ v, C v = true → ∀ b, D' v b = D v b) (v : Nat) : cz_V C' D' v = cz_V C D v := by
  have h1 := cz_V_mono (C := C) (C' := C') (D := D) (D' := D') (fun v h => by rw [hC v]; exact h) hD v
  have h2 := cz_V_mono (C := C') (C' := C) (D := D') (D' := D) (fun v h => by rw [← hC v]; exact h) (fun v h b => (hD v (by rw [← hC v]; exact h) b).symm) v
  cases e : cz_V C D v with
  | true => exact h1 e
  | false =>
    cases e2 : cz_V C' D' v with
    | false => rfl
    | true => rw [h2 e2] at e; exact absurd e (by decide)
end
section
theorem cz_has {post : Int32 → Prop} {x : Int64} {v : Nat} (hv : v < 64) (h : post (cz_bz (cz_bit x v))) : wpX_has post x (nI v) := by
  cases e : cz_bit x v with
  | false => rw [e] at h; exact br_t ((cz_hs0 x hv).mpr e) h
  | true => rw [e] at h; exact br_f (fun z => by rw [(cz_hs0 x hv).mp z] at e; exact absurd e (by decide)) h
theorem cz_on {post : Int64 → Prop} {v : Nat} (h : post ((1 : Int64) <<< ((nI v).toInt64 &&& 63))) : wpX_only post (nI v) := h
theorem cz_sizeL (post : Int32 → Prop) (x : Int64) (hp : post (nI (cz_cnt (cz_bit x) 40))) : ∀ d i, i + d = 40 → wX_sizeOf_4 post x (d + 1) (nI (cz_cnt (cz_bit x) i)) (nI i) := by
  intro d
  induction d with
  | zero =>
    intro i hi
    obtain rfl : i = 40 := by omega
    exact br_t cz_le40 hp
  | succ d ih =>
    intro i hi
    have H := ih (i + 1) (by omega)
    refine br_f (cz_n40 (by omega)) (cz_has (by omega) ?_)
    cases hb : cz_bit x i with
    | false =>
      rw [cz_cnt_f hb] at H
      exact br_t cz_f (nm_r (nI_1 i) H)
    | true =>
      rw [cz_cnt_t hb] at H
      exact br_f cz_t (nm_r (nI_1 _) (nm_r (nI_1 i) H))
theorem cz_size {post : Int32 → Prop} {x : Int64} (hp : post (nI (cz_cnt (cz_bit x) 40))) : wpX_sizeOf post x := ⟨41, cz_sizeL post x hp 40 0 rfl⟩
theorem cz_gsL (post : Int32 → Prop) (x : Int64) {f : Int32} {come vis seen dep : Nat → Int64} {cen key val st : Nat → Int32} (hp : post (cz_gs (cz_bit x) st 40)) : ∀ d i, i + d = 40 → wX_greatestStamp_5 post x f come vis seen dep cen key val st (d + 1) (cz_gs (cz_bit x) st i) (nI i) := by
  intro d
  induction d with
  | zero =>
    intro i hi
    obtain rfl : i = 40 := by omega
    exact br_t cz_le40 hp
  | succ d ih =>
    intro i hi
    have H := ih (i + 1) (by omega)
    have hi2 : vp_in (nI i) 40 := vp_in_nI (by omega) (by omega)
    refine br_f (cz_n40 (by omega)) (cz_has (by omega) ?_)
    cases hb : cz_bit x i with
    | false =>
      rw [cz_gs_f hb] at H
      exact br_t cz_f (nm_r (nI_1 i) H)
    | true =>
      refine br_f cz_t ⟨hi2, ?_⟩
      rw [nI_clamp (show i < 2 ^ 31 by omega)]
      by_cases hs : st i ≤ cz_gs (cz_bit x) st i
      · rw [cz_gs_le hs] at H
        exact br_t hs (nm_r (nI_1 i) H)
      · rw [cz_gs_y hb hs] at H
        exact br_f hs ⟨hi2, nm_e (nm_r (nI_1 i) H)⟩
theorem cz_gsW {post : Int32 → Prop} {x : Int64} {f : Int32} {come vis seen dep : Nat → Int64} {cen key val st : Nat → Int32} (hp : post (cz_gs (cz_bit x) st 40)) : wpX_greatestStamp post (f, come, vis, seen, dep, cen, key, val, st) x := ⟨41, cz_gsL post x hp 40 0 rfl⟩
theorem cz_wiL (post : Int32 → Prop) (c : Nat) (hc : c < 3) (k : Int32) (p : Nat → Bool) {f : Int32} {come vis seen dep : Nat → Int64} {cen key val st : Nat → Int32} (hq : ∀ v, p v = (cz_bit (vis c) v && decide (key v = k))) (hp : post (cz_wb p st 40).1) : ∀ d i, i + d = 40 → wX_winnerAt_9 post (nI c) k f come vis seen dep cen key val st (d + 1) (cz_wb p st i).1 (cz_wb p st i).2 (nI i) := by
  intro d
  induction d with
  | zero =>
    intro i hi
    obtain rfl : i = 40 := by omega
    exact br_t cz_le40 hp
  | succ d ih =>
    intro i hi
    have H := ih (i + 1) (by omega)
    have hi2 : vp_in (nI i) 40 := vp_in_nI (by omega) (by omega)
    have hq1 := hq i
    refine br_f (cz_n40 (by omega)) ⟨vp_in_nI hc (by omega), ?_⟩
    rw [nI_clamp (show c < 2 ^ 31 by omega)]
    refine cz_has (by omega) ?_
    cases hb : cz_bit (vis c) i with
    | false =>
      rw [hb] at hq1
      rw [cz_wb_f hq1] at H
      exact br_t cz_f (nm_r (nI_1 i) H)
    | true =>
      rw [hb] at hq1
      refine br_f cz_t ⟨hi2, ?_⟩
      rw [nI_clamp (show i < 2 ^ 31 by omega)]
      by_cases hk : key i = k
      · have hq2 : p i = true := by rw [hq1, decide_eq_true hk]; rfl
        refine br_t hk ⟨hi2, ?_⟩
        by_cases hs : st i < (cz_wb p st i).2
        · rw [cz_wb_lt hs] at H
          exact br_t hs (nm_r (nI_1 i) H)
        · rw [cz_wb_y hq2 hs] at H
          exact br_f hs ⟨hi2, nm_e (nm_r (nI_1 i) H)⟩
      · have hq2 : p i = false := by rw [hq1, decide_eq_false hk]; rfl
        rw [cz_wb_f hq2] at H
        exact br_f hk (nm_r (nI_1 i) H)
theorem cz_wiW {post : Int32 → Prop} {c : Nat} (hc : c < 3) {k : Int32} {f : Int32} {come vis seen dep : Nat → Int64} {cen key val st : Nat → Int32} (hp : post (cz_wb (fun v => cz_bit (vis c) v && decide (key v = k)) st 40).1) : wpX_winnerAt post (f, come, vis, seen, dep, cen, key, val, st) (nI c) k := ⟨41, cz_wiL post c hc k _ (fun _ => rfl) hp 40 0 rfl⟩
theorem cz_allV {post : Int32 → Prop} {x : Int64} {c : Nat} (hc : c < 3) {f : Int32} {come vis seen dep : Nat → Int64} {cen key val st : Nat → Int32} (h1 : (∀ j, cz_bit x j = true → cz_bit (vis c) j = true) → post 1) (h0 : ¬ (∀ j, cz_bit x j = true → cz_bit (vis c) j = true) → post 0) : wpX_allVisible post (f, come, vis, seen, dep, cen, key, val, st) x (nI c) := by
  unfold wpX_allVisible
  refine ⟨vp_in_nI hc (by omega), ?_⟩
  rw [nI_clamp (show c < 2 ^ 31 by omega)]
  exact br_c (fun h => h1 ((cz_sub0 _ _).mp h)) (fun h => h0 (fun z => h ((cz_sub0 _ _).mpr z)))
theorem cz_shL (post : Int32 → SX → Prop) (c : Nat) (hc : c < 3) (V T : Nat → Bool) {f : Int32} {come vis seen dep : Nat → Int64} {cen key val st : Nat → Int32} (vis0 : Nat → Int64)
    (hV : ∀ v, V v = true ↔ (cz_bit (come c) v = true ∧ ∀ b, b < v → cz_bit (dep v) b = true → V b = true))
    (hT : ∀ v, T v = true → V v = true) (hD : ∀ v, v < 40 → ∀ b, cz_bit (dep v) b = true → b < v) (hE : ∀ v, 40 ≤ v → V v = false)
    (hp : ∀ vf : Nat → Int64, (∀ j, j ≠ c → vf j = vis0 j) → (∀ v, cz_bit (vf c) v = V v) → post (nI (cz_cnt (fun j => V j && !T j) 40)) (f, come, vf, seen, dep, cen, key, val, st)) :
    ∀ d i, i + d = 40 → ∀ vc : Nat → Int64, (∀ j, j ≠ c → vc j = vis0 j) → (∀ v, cz_bit (vc c) v = if v < i then V v else T v) →
      wX_showReady_4 post (nI c) f (d + 1) (nI (cz_cnt (fun j => V j && !T j) i)) (nI i) come vc seen dep cen key val st := by
  have hTf : ∀ v, V v = false → T v = false := by
    intro v h
    cases e : T v with
    | false => rfl
    | true => rw [hT v e] at h; exact absurd h (by decide)
  intro d
  induction d with
  | zero =>
    intro i hi vc h1 h2
    obtain rfl : i = 40 := by omega
    refine br_t cz_le40 (hp vc h1 fun v => ?_)
    rw [h2 v]
    by_cases h : v < 40
    · rw [if_pos h]
    · rw [if_neg h, hTf v (hE v (by omega)), hE v (by omega)]
  | succ d ih =>
    intro i hi vc h1 h2
    have hi2 : vp_in (nI i) 40 := vp_in_nI (by omega) (by omega)
    have hc2 : vp_in (nI c) 3 := vp_in_nI hc (by omega)
    have hTi : cz_bit (vc c) i = T i := by rw [h2 i, if_neg (Nat.lt_irrefl i)]
    -- the set stays as it is at i
    have same : V i = T i → ∀ v, cz_bit (vc c) v = if v < i + 1 then V v else T v := by
      intro e v
      rw [h2 v]
      by_cases h : v < i
      · rw [if_pos h, if_pos (by omega)]
      · rw [if_neg h]
        by_cases h' : v = i
        · subst h'; rw [if_pos (by omega), e]
        · rw [if_neg (by omega)]
    have stay : V i = T i → wX_showReady_4 post (nI c) f (d + 1) (nI (cz_cnt (fun j => V j && !T j) i)) (nI (i + 1)) come vc seen dep cen key val st := by
      intro e
      have H := ih (i + 1) (by omega) vc h1 (same e)
      have q : (fun j => V j && !T j) i = false := by show (V i && !T i) = false; rw [e]; cases T i <;> rfl
      rw [cz_cnt_f q] at H
      exact H
    refine br_f (cz_n40 (by omega)) ⟨hc2, ?_⟩
    rw [nI_clamp (show c < 2 ^ 31 by omega)]
    refine cz_has (by omega) ?_
    cases hb : cz_bit (come c) i with
    | false =>
      have e : V i = false := by
        cases e : V i with
        | false => rfl
        | true => have := ((hV i).mp e).1; rw [hb] at this; exact absurd this (by decide)
      exact br_t cz_f (br_t rfl (nm_r (nI_1 i) (stay (by rw [e, hTf i e]))))
    | true =>
      refine br_f cz_t ⟨hc2, cz_has (by omega) ?_⟩
      cases hv : cz_bit (vc c) i with
      | true =>
        have e : T i = true := by rw [← hTi]; exact hv
        exact br_f cz_t (br_t rfl (nm_r (nI_1 i) (stay (by rw [e, hT i e]))))
      | false =>
        have e : T i = false := by rw [← hTi]; exact hv
        refine br_t cz_f (br_f cz_1 ⟨hi2, ?_⟩)
        rw [nI_clamp (show i < 2 ^ 31 by omega)]
        refine cz_allV hc (fun ha => ?_) (fun ha => ?_)
        · have eV : V i = true := (hV i).mpr ⟨hb, fun b hbi hdb => by
            have := ha b hdb
            rw [h2 b, if_pos hbi] at this
            exact this⟩
          have q : (fun j => V j && !T j) i = true := by show (V i && !T i) = true; rw [e, eV]; rfl
          refine br_f cz_1 ⟨hc2, cz_on ⟨hc2, nm_e (nm_r (nI_1 _) (nm_r (nI_1 i) ?_))⟩⟩
          rw [nI_clamp (show c < 2 ^ 31 by omega)]
          have H := ih (i + 1) (by omega) (vp_updL vc c (vc c ||| ((1 : Int64) <<< ((nI i).toInt64 &&& 63)))) (fun j hj => by rw [pk_uLn hj]; exact h1 j hj) (fun v => by
            rw [pk_uLs, cz_or, cz_only (by omega), h2 v]
            by_cases h : v < i
            · rw [if_pos h, if_pos (by omega), decide_eq_false (by omega)]; simp
            · rw [if_neg h]
              by_cases h' : v = i
              · subst h'; rw [if_pos (by omega), eV]; simp
              · rw [if_neg (by omega), decide_eq_false h']; simp)
          rw [cz_cnt_t q] at H
          exact H
        · have eV : V i = false := by
            cases eV : V i with
            | false => rfl
            | true =>
              refine absurd (fun j hj => ?_) ha
              have hj2 := hD i (by omega) j hj
              rw [h2 j, if_pos hj2]
              exact ((hV i).mp eV).2 j hj2 hj
          exact br_t rfl (nm_r (nI_1 i) (stay (by rw [e, eV])))
theorem cz_shW {post : Int32 → SX → Prop} {c : Nat} (hc : c < 3) (V T : Nat → Bool) {f : Int32} {come vis seen dep : Nat → Int64} {cen key val st : Nat → Int32}
    (hV : ∀ v, V v = true ↔ (cz_bit (come c) v = true ∧ ∀ b, b < v → cz_bit (dep v) b = true → V b = true))
    (hT : ∀ v, T v = true → V v = true) (hD : ∀ v, v < 40 → ∀ b, cz_bit (dep v) b = true → b < v) (hE : ∀ v, 40 ≤ v → V v = false)
    (hv : ∀ v, cz_bit (vis c) v = T v)
    (hp : ∀ vf : Nat → Int64, (∀ j, j ≠ c → vf j = vis j) → (∀ v, cz_bit (vf c) v = V v) → post (nI (cz_cnt (fun j => V j && !T j) 40)) (f, come, vf, seen, dep, cen, key, val, st)) :
    wpX_showReady post (f, come, vis, seen, dep, cen, key, val, st) (nI c) :=
  ⟨41, cz_shL (vis := vis) post c hc V T vis hV hT hD hE hp 40 0 rfl vis (fun _ _ => rfl) (fun v => by rw [if_neg (by omega)]; exact hv v)⟩
end
section
theorem cz_nn {i n : Nat} (h : i < n) (hn : n ≤ 40) : ¬ nI n ≤ nI i := nI_ge h (by omega)
theorem cz_le {n : Nat} (hn : n ≤ 40) : nI n ≤ nI n := nI_le (Nat.le_refl n) (by omega)
theorem cz_anL (post : Int32 → Prop) {n : Nat} (hn : n ≤ 40) (v : Nat) (hv : v < 40) (D s : Nat → Bool) {key val st needs cm hs cen sh : Nat → Int32}
    (hsh : ∀ b, b < n → sh b = cz_bz (s b)) (hd : ∀ b, b < 40 → needs (v * 40 + b) = cz_bz (D b))
    (h1 : (∀ b, b < n → D b = true → s b = true) → post 1) (h0 : ¬ (∀ b, b < n → D b = true → s b = true) → post 0) :
    ∀ d j, j + d = n → (∀ b, b < j → D b = true → s b = true) → wY_allNeeded_2 post (nI v) (nI n) key val st needs cm hs cen sh (d + 1) (nI j) := by
  intro d
  induction d with
  | zero =>
    intro j hj ha
    obtain rfl : j = n := by omega
    exact br_t (cz_le hn) (h1 ha)
  | succ d ih =>
    intro j hj ha
    have H := ih (j + 1) (by omega)
    refine br_f (cz_nn (by omega) hn) ?_
    rw [cz_ix]
    refine ⟨vp_in_nI (by omega) (by omega), ?_⟩
    rw [nI_clamp (show v * 40 + j < 2 ^ 31 by omega), hd j (by omega)]
    cases hD : D j with
    | false =>
      refine br_t cz_f (nm_r (nI_1 j) (H fun b hb hDb => ?_))
      by_cases e : b = j
      · subst e; rw [hD] at hDb; exact absurd hDb (by decide)
      · exact ha b (by omega) hDb
    | true =>
      refine br_f cz_t ⟨vp_in_nI (by omega) (by omega), ?_⟩
      rw [nI_clamp (show j < 2 ^ 31 by omega), hsh j (by omega)]
      cases hS : s j with
      | false =>
        refine br_t cz_f (h0 fun z => ?_)
        rw [z j (by omega) hD] at hS
        exact absurd hS (by decide)
      | true =>
        refine br_f cz_t (nm_r (nI_1 j) (H fun b hb hDb => ?_))
        by_cases e : b = j
        · subst e; exact hS
        · exact ha b (by omega) hDb
theorem cz_anW {post : Int32 → Prop} {n : Nat} (hn : n ≤ 40) {v : Nat} (hv : v < 40) (D s : Nat → Bool) {key val st needs cm hs cen sh : Nat → Int32}
    (hsh : ∀ b, b < n → sh b = cz_bz (s b)) (hd : ∀ b, b < 40 → needs (v * 40 + b) = cz_bz (D b))
    (h1 : (∀ b, b < n → D b = true → s b = true) → post 1) (h0 : ¬ (∀ b, b < n → D b = true → s b = true) → post 0) :
    wpY_allNeeded post (nI n, key, val, st, needs, cm, hs, cen, sh) (nI v) := ⟨n + 1, cz_anL post hn v hv D s hsh hd h1 h0 n 0 (by omega) (fun b hb => by omega)⟩
theorem cz_paL (post : Int32 → SY → Prop) (J : Int32 → Int32 → Int32 → (Nat → Int32) → (Nat → Int32) → (Nat → Int32) → (Nat → Int32) → (Nat → Int32) → (Nat → Int32) → (Nat → Int32) → (Nat → Int32) → Prop)
    {n c : Nat} (hn : n ≤ 40) (hc : c < 3) (r m : Nat) (V T C : Nat → Bool) (D : Nat → Nat → Bool) {key val st needs cm hs cen : Nat → Int32}
    (hcm : ∀ v, v < n → cm (c * 40 + v) = cz_bz (C v)) (hnd : ∀ a, a < 40 → ∀ b, b < 40 → needs (a * 40 + b) = cz_bz (D a b))
    (hV : ∀ v, V v = true ↔ (C v = true ∧ ∀ b, b < v → D v b = true → V b = true))
    (hD : ∀ a, a < 40 → ∀ b, D a b = true → b < a) (hT : ∀ v, T v = true → V v = true)
    (hJ : ∀ sh : Nat → Int32, (∀ v, v < 40 → sh v = cz_bz (if v < n then V v else T v)) →
      J (nI (m + cz_cnt (fun j => V j && !T j) n)) (cz_bz (decide (0 < cz_cnt (fun j => V j && !T j) n))) (nI (r + 1)) key val st needs cm hs cen sh) :
    ∀ d i, i + d = n → ∀ sh : Nat → Int32, (∀ v, v < 40 → sh v = cz_bz (if v < i then V v else T v)) →
      wY_sweep_44 post J (nI c) (nI r) (nI n) (d + 1) (nI (m + cz_cnt (fun j => V j && !T j) i)) (cz_bz (decide (0 < cz_cnt (fun j => V j && !T j) i))) (nI i) key val st needs cm hs cen sh := by
  have hTf : ∀ v, V v = false → T v = false := by
    intro v h
    cases e : T v with
    | false => rfl
    | true => rw [hT v e] at h; exact absurd h (by decide)
  intro d
  induction d with
  | zero =>
    intro i hi sh h2
    obtain rfl : i = n := by omega
    exact br_t (cz_le hn) (nm_r (nI_1 r) (hJ sh h2))
  | succ d ih =>
    intro i hi sh h2
    have hi2 : vp_in (nI i) 40 := vp_in_nI (by omega) (by omega)
    have hTi : sh i = cz_bz (T i) := by rw [h2 i (by omega), if_neg (Nat.lt_irrefl i)]
    have stay : V i = T i → wY_sweep_44 post J (nI c) (nI r) (nI n) (d + 1) (nI (m + cz_cnt (fun j => V j && !T j) i)) (cz_bz (decide (0 < cz_cnt (fun j => V j && !T j) i))) (nI (i + 1)) key val st needs cm hs cen sh := by
      intro e
      have H := ih (i + 1) (by omega) sh (fun v hv => by
        rw [h2 v hv]
        by_cases h : v < i
        · rw [if_pos h, if_pos (by omega)]
        · rw [if_neg h]
          by_cases h' : v = i
          · subst h'; rw [if_pos (by omega), e]
          · rw [if_neg (by omega)])
      have q : (fun j => V j && !T j) i = false := by show (V i && !T i) = false; rw [e]; cases T i <;> rfl
      rw [cz_cnt_f q] at H
      exact H
    refine br_f (cz_nn (by omega) hn) ⟨hi2, ?_⟩
    rw [nI_clamp (show i < 2 ^ 31 by omega), hTi]
    cases eT : T i with
    | true => exact br_f cz_t (nm_r (nI_1 i) (stay (by rw [eT, hT i eT])))
    | false =>
      refine br_t cz_f ?_
      rw [cz_ix]
      refine ⟨vp_in_nI (by omega) (by omega), ?_⟩
      rw [nI_clamp (show c * 40 + i < 2 ^ 31 by omega), hcm i (by omega)]
      cases eC : C i with
      | false =>
        have e : V i = false := by
          cases e : V i with
          | false => rfl
          | true => have := ((hV i).mp e).1; rw [eC] at this; exact absurd this (by decide)
        exact br_t cz_f (nm_r (nI_1 i) (stay (by rw [e, hTf i e])))
      | true =>
        refine br_f cz_t (cz_anW hn (by omega) (D i) (fun b => if b < i then V b else T b) (fun b hb => h2 b (by omega)) (fun b hb => hnd i (by omega) b hb) (fun ha => ?_) (fun ha => ?_))
        · have eV : V i = true := (hV i).mpr ⟨eC, fun b hbi hdb => by
            have := ha b (by omega) hdb
            rw [if_pos hbi] at this
            exact this⟩
          have q : (fun j => V j && !T j) i = true := by show (V i && !T i) = true; rw [eT, eV]; rfl
          have H := ih (i + 1) (by omega) (upd sh i (vp_nar .boolean 1)) (fun v hv => by
            by_cases h' : v = i
            · subst h'; rw [pk_us, if_pos (by omega), eV, cz_nar1]
            · rw [pk_un h', h2 v hv]
              by_cases h : v < i
              · rw [if_pos h, if_pos (by omega)]
              · rw [if_neg h, if_neg (by omega)])
          rw [cz_cnt_t q, decide_eq_true (show 0 < cz_cnt (fun j => V j && !T j) i + 1 by omega)] at H
          refine br_f cz_1 ⟨hi2, nm_e (nm_r (nI_1 _) (nm_r (nI_1 i) ?_))⟩
          exact H
        · have eV : V i = false := by
            cases eV : V i with
            | false => rfl
            | true =>
              refine absurd (fun j hj hdj => ?_) ha
              have hj2 := hD i (by omega) j hdj
              rw [if_pos hj2]
              exact ((hV i).mp eV).2 j hj2 hdj
          exact br_t rfl (nm_r (nI_1 i) (stay (by rw [eT, eV])))
theorem cz_swR (post : Int32 → SY → Prop) {n c : Nat} (hn : n ≤ 40) (hc : c < 3) (V C : Nat → Bool) (D : Nat → Nat → Bool) {key val st needs cm hs cen sh : Nat → Int32}
    (hcm : ∀ v, v < n → cm (c * 40 + v) = cz_bz (C v)) (hnd : ∀ a, a < 40 → ∀ b, b < 40 → needs (a * 40 + b) = cz_bz (D a b))
    (hV : ∀ v, V v = true ↔ (C v = true ∧ ∀ b, b < v → D v b = true → V b = true))
    (hD : ∀ a, a < 40 → ∀ b, D a b = true → b < a) (hE : ∀ v, n ≤ v → V v = false)
    (h0 : ∀ v, v < 40 → sh v = 0)
    (hp : ∀ s : Nat → Int32, (∀ v, v < 40 → s v = cz_bz (V v)) → post (nI (cz_cnt V n)) (nI n, key, val, st, needs, cm, hs, cen, s)) :
    wY_sweep_28 post (nI c) (nI n) 3 0 1 0 key val st needs cm hs cen sh := by
  have k1 : (fun j => V j && !(fun _ : Nat => false) j) = V := by funext j; simp
  have k2 : cz_cnt (fun j => V j && !V j) n = 0 := by
    have e : (fun j => V j && !V j) = (fun _ : Nat => false) := by funext j; cases V j <;> rfl
    rw [e]
    have := cz_cnt_stop (p := fun _ : Nat => false) (n := 0) (fun _ _ => rfl) n
    rwa [Nat.zero_add] at this
  have P1 := cz_paL post (wY_sweep_28 post (nI c) (nI n) 2) hn hc 0 0 V (fun _ => false) C D (key := key) (val := val) (st := st) (hs := hs) (cen := cen) hcm hnd hV hD (fun v h => absurd h (by simp)) (fun s hs1 => by
    rw [k1]
    have hs2 : ∀ v, v < 40 → s v = cz_bz (V v) := by
      intro v hv
      rw [hs1 v hv]
      by_cases h : v < n
      · rw [if_pos h]
      · rw [if_neg h, hE v (by omega)]
    refine br_f (by decide) ?_
    rw [Nat.zero_add]
    by_cases hq : 0 < cz_cnt V n
    · rw [decide_eq_true hq]
      refine br_f cz_t ⟨n + 1, ?_⟩
      have P2 := cz_paL post (wY_sweep_28 post (nI c) (nI n) 1) hn hc 1 (cz_cnt V n) V V C D (key := key) (val := val) (st := st) (hs := hs) (cen := cen) hcm hnd hV hD (fun v h => h) (fun s2 hs3 => by
        rw [k2]
        refine br_f (by decide) (br_t rfl (hp s2 fun v hv => ?_))
        rw [hs3 v hv]
        by_cases h : v < n
        · rw [if_pos h]
        · rw [if_neg h]) n 0 (by omega) s (fun v hv => by rw [if_neg (by omega)]; exact hs2 v hv)
      exact P2
    · rw [decide_eq_false hq]
      exact br_t cz_f (hp s hs2)) n 0 (by omega) sh (fun v hv => by rw [if_neg (by omega)]; exact h0 v hv)
  exact br_f (by decide) (br_f cz_1 ⟨n + 1, P1⟩)
theorem cz_swL (post : Int32 → SY → Prop) (n c : Nat) {key val st needs cm hs cen : Nat → Int32}
    (hp : ∀ s : Nat → Int32, (∀ v, v < 40 → s v = 0) → wY_sweep_28 post (nI c) (nI n) 3 0 1 0 key val st needs cm hs cen s) :
    ∀ d i, i + d = 40 → ∀ sh : Nat → Int32, (∀ v, v < i → sh v = 0) → wY_sweep_4 post (nI c) 0 (nI n) (d + 1) (nI i) key val st needs cm hs cen sh := by
  intro d
  induction d with
  | zero =>
    intro i hi sh h
    obtain rfl : i = 40 := by omega
    exact br_t cz_le40 ⟨3, hp sh h⟩
  | succ d ih =>
    intro i hi sh h
    refine br_f (cz_n40 (by omega)) ⟨vp_in_nI (by omega) (by omega), nm_e (nm_r (nI_1 i) ?_)⟩
    rw [nI_clamp (show i < 2 ^ 31 by omega)]
    refine ih (i + 1) (by omega) _ (fun v hv => ?_)
    by_cases e : v = i
    · subst e; rw [pk_us]; exact cz_nar0
    · rw [pk_un e]; exact h v (by omega)
theorem cz_sw {post : Int32 → SY → Prop} {n c : Nat} (hn : n ≤ 40) (hc : c < 3) (V C : Nat → Bool) (D : Nat → Nat → Bool) {key val st needs cm hs cen sh : Nat → Int32}
    (hcm : ∀ v, v < n → cm (c * 40 + v) = cz_bz (C v)) (hnd : ∀ a, a < 40 → ∀ b, b < 40 → needs (a * 40 + b) = cz_bz (D a b))
    (hV : ∀ v, V v = true ↔ (C v = true ∧ ∀ b, b < v → D v b = true → V b = true))
    (hD : ∀ a, a < 40 → ∀ b, D a b = true → b < a) (hE : ∀ v, n ≤ v → V v = false)
    (hp : ∀ s : Nat → Int32, (∀ v, v < 40 → s v = cz_bz (V v)) → post (nI (cz_cnt V n)) (nI n, key, val, st, needs, cm, hs, cen, s)) :
    wpY_sweep post (nI n, key, val, st, needs, cm, hs, cen, sh) (nI c) :=
  ⟨41, cz_swL post n c (fun s hs0 => cz_swR post hn hc V C D hcm hnd hV hD hE hs0 hp) 40 0 rfl sh (fun v hv => by omega)⟩
end
section
theorem cz_wiY (post : Int32 → SY → Prop) {n : Nat} (hn : n ≤ 40) (k : Int32) (p V : Nat → Bool) {key val st needs cm hs cen sh : Nat → Int32}
    (hsh : ∀ v, v < 40 → sh v = cz_bz (V v)) (hst : ∀ v, v < 40 → ∃ s, s ≤ n ∧ st v = nI s)
    (hq : ∀ v, p v = (V v && decide (key v = k))) (hp : post (cz_wb p st n).1 (nI n, key, val, st, needs, cm, hs, cen, sh)) :
    ∀ d i, i + d = n → wY_winner_34 post k (nI n) key val st needs cm hs cen sh (d + 1) (cz_wb p st i).1 (nI i) := by
  intro d
  induction d with
  | zero =>
    intro i hi
    obtain rfl : i = n := by omega
    exact br_t (cz_le hn) hp
  | succ d ih =>
    intro i hi
    have H := ih (i + 1) (by omega)
    have hi2 : vp_in (nI i) 40 := vp_in_nI (by omega) (by omega)
    have hq1 := hq i
    refine br_f (cz_nn (by omega) hn) ⟨hi2, ?_⟩
    rw [nI_clamp (show i < 2 ^ 31 by omega), hsh i (by omega)]
    cases hb : V i with
    | false =>
      rw [hb] at hq1
      rw [cz_wb_f hq1] at H
      exact br_t cz_f (nm_r (nI_1 i) H)
    | true =>
      rw [hb] at hq1
      refine br_f cz_t ⟨hi2, ?_⟩
      by_cases hk : key i = k
      · have hq2 : p i = true := by rw [hq1, decide_eq_true hk]; rfl
        refine br_t hk ?_
        rcases cz_wb_inv (p := p) (st := st) i with e | ⟨j, hj, _, e⟩
        · obtain ⟨s, hs1, hs2⟩ := hst i (by omega)
          have hs : ¬ st i < (cz_wb p st i).2 := by
            rw [e, hs2]
            exact nI_pos (by omega)
          rw [cz_wb_y hq2 hs] at H
          rw [e]
          exact br_t (by decide) (nm_r (nI_1 i) H)
        · have e2 : (cz_wb p st i).2 = st j := by rw [e]
          have e1 : (cz_wb p st i).1 = nI j := by rw [e]
          rw [e1]
          refine br_f (nI_pos (by omega)) ⟨hi2, vp_in_nI (by omega) (by omega), ?_⟩
          rw [nI_clamp (show j < 2 ^ 31 by omega)]
          by_cases hs : st i < st j
          · rw [cz_wb_lt (by rw [e2]; exact hs), e1] at H
            exact br_t hs (nm_r (nI_1 i) H)
          · rw [cz_wb_y hq2 (by rw [e2]; exact hs)] at H
            exact br_f hs (nm_r (nI_1 i) H)
      · have hq2 : p i = false := by rw [hq1, decide_eq_false hk]; rfl
        rw [cz_wb_f hq2] at H
        exact br_f hk (nm_r (nI_1 i) H)
theorem cz_heY (post : Int32 → SY → Prop) {n c : Nat} (hn : n ≤ 40) (hc : c < 3) (V C : Nat → Bool) {key val st needs cm hs cen sh : Nat → Int32}
    (hsh : ∀ v, v < 40 → sh v = cz_bz (V v)) (hcm : ∀ v, v < n → cm (c * 40 + v) = cz_bz (C v))
    (hp : post (nI (cz_cnt (fun v => C v && !V v) n)) (nI n, key, val, st, needs, cm, hs, cen, sh)) :
    ∀ d i, i + d = n → wY_held_21 post (nI c) (nI n) key val st needs cm hs cen sh (d + 1) (nI (cz_cnt (fun v => C v && !V v) i)) (nI i) := by
  intro d
  induction d with
  | zero =>
    intro i hi
    obtain rfl : i = n := by omega
    exact br_t (cz_le hn) hp
  | succ d ih =>
    intro i hi
    have H := ih (i + 1) (by omega)
    refine br_f (cz_nn (by omega) hn) ?_
    rw [cz_ix]
    refine ⟨vp_in_nI (by omega) (by omega), ?_⟩
    rw [nI_clamp (show c * 40 + i < 2 ^ 31 by omega), hcm i (by omega)]
    cases hC : C i with
    | false =>
      have q : (fun v => C v && !V v) i = false := by show (C i && !V i) = false; rw [hC]; rfl
      rw [cz_cnt_f q] at H
      exact br_t cz_f (nm_r (nI_1 i) H)
    | true =>
      refine br_f cz_t ⟨vp_in_nI (by omega) (by omega), ?_⟩
      rw [nI_clamp (show i < 2 ^ 31 by omega), hsh i (by omega)]
      cases hV : V i with
      | false =>
        have q : (fun v => C v && !V v) i = true := by show (C i && !V i) = true; rw [hC, hV]; rfl
        rw [cz_cnt_t q] at H
        exact br_t cz_f (nm_r (nI_1 _) (nm_r (nI_1 i) H))
      | true =>
        have q : (fun v => C v && !V v) i = false := by show (C i && !V i) = false; rw [hC, hV]; rfl
        rw [cz_cnt_f q] at H
        exact br_f cz_t (nm_r (nI_1 i) H)
theorem cz_seY (post : Int32 → Prop) {n c : Nat} (hn : n ≤ 40) (hc : c < 3) (C : Nat → Bool) {key val st needs cm hs cen sh : Nat → Int32}
    (hcm : ∀ v, v < n → hs (c * 40 + v) = cz_bz (C v))
    (hp : post (nI (cz_cnt C n))) :
    ∀ d i, i + d = n → wY_seen_14 post (nI c) (nI n) key val st needs cm hs cen sh (d + 1) (nI (cz_cnt C i)) (nI i) := by
  intro d
  induction d with
  | zero =>
    intro i hi
    obtain rfl : i = n := by omega
    exact br_t (cz_le hn) hp
  | succ d ih =>
    intro i hi
    have H := ih (i + 1) (by omega)
    refine br_f (cz_nn (by omega) hn) ?_
    rw [cz_ix]
    refine ⟨vp_in_nI (by omega) (by omega), ?_⟩
    rw [nI_clamp (show c * 40 + i < 2 ^ 31 by omega), hcm i (by omega)]
    cases hC : C i with
    | false =>
      rw [cz_cnt_f hC] at H
      exact br_t cz_f (nm_r (nI_1 i) H)
    | true =>
      rw [cz_cnt_t hC] at H
      exact br_f cz_t (nm_r (nI_1 _) (nm_r (nI_1 i) H))
theorem cz_moY (post : Int32 → SY → Prop) {n c : Nat} (hn : n ≤ 40) (hc : c < 3) (x2 : Int32) (V C : Nat → Bool) {key val st needs cm hs cen sh : Nat → Int32}
    (hsh : ∀ v, v < 40 → sh v = cz_bz (V v)) (hcm : ∀ v, v < n → hs (c * 40 + v) = cz_bz (C v))
    (h1 : (∀ b, b < n → C b = true → V b = true) → post 0 (nI n, key, val, st, needs, cm, hs, upd cen c x2, sh))
    (h0 : ¬ (∀ b, b < n → C b = true → V b = true) → post (-7) (nI n, key, val, st, needs, cm, hs, cen, sh)) :
    ∀ d j, j + d = n → (∀ b, b < j → C b = true → V b = true) → wY_move_29 post (nI c) x2 (nI n) key val st needs cm hs cen sh (d + 1) (nI j) := by
  intro d
  induction d with
  | zero =>
    intro j hj ha
    obtain rfl : j = n := by omega
    refine br_t (cz_le hn) ⟨vp_in_nI (by omega) (by omega), nm_e ?_⟩
    rw [nI_clamp (show c < 2 ^ 31 by omega)]
    exact h1 ha
  | succ d ih =>
    intro j hj ha
    have H := ih (j + 1) (by omega)
    refine br_f (cz_nn (by omega) hn) ?_
    rw [cz_ix]
    refine ⟨vp_in_nI (by omega) (by omega), ?_⟩
    rw [nI_clamp (show c * 40 + j < 2 ^ 31 by omega), hcm j (by omega)]
    cases hD : C j with
    | false =>
      refine br_t cz_f (nm_r (nI_1 j) (H fun b hb hDb => ?_))
      by_cases e : b = j
      · subst e; rw [hD] at hDb; exact absurd hDb (by decide)
      · exact ha b (by omega) hDb
    | true =>
      refine br_f cz_t ⟨vp_in_nI (by omega) (by omega), ?_⟩
      rw [nI_clamp (show j < 2 ^ 31 by omega), hsh j (by omega)]
      cases hS : V j with
      | false =>
        refine br_t cz_f (h0 fun z => ?_)
        rw [z j (by omega) hD] at hS
        exact absurd hS (by decide)
      | true =>
        refine br_f cz_t (nm_r (nI_1 j) (H fun b hb hDb => ?_))
        by_cases e : b = j
        · subst e; exact hS
        · exact ha b (by omega) hDb
theorem cz_daY (post : Int32 → SY → Prop) {n c : Nat} (hn : n ≤ 40) (hc : c < 3) (x2 : Int32) {key val st needs cm0 hs cen sh : Nat → Int32}
    (hp : ∀ cm : Nat → Int32, (∀ a v, a < 3 → v < 40 → cm (a * 40 + v) = if a = c ∧ v < n then cz_bz true else cm0 (a * 40 + v)) →
      wpY_sweep (fun r u => post (r - x2) u) (nI n, key, val, st, needs, cm, hs, cen, sh) (nI c)) :
    ∀ d i, i + d = n → ∀ cm : Nat → Int32, (∀ a v, a < 3 → v < 40 → cm (a * 40 + v) = if a = c ∧ v < i then cz_bz true else cm0 (a * 40 + v)) →
      wY_deliverAll_19 post (nI c) x2 (nI n) (d + 1) (nI i) key val st needs cm hs cen sh := by
  intro d
  induction d with
  | zero =>
    intro i hi cm h
    obtain rfl : i = n := by omega
    exact br_t (cz_le hn) (hp cm h)
  | succ d ih =>
    intro i hi cm h
    refine br_f (cz_nn (by omega) hn) ?_
    rw [cz_ix]
    refine ⟨vp_in_nI (by omega) (by omega), nm_e (nm_r (nI_1 i) ?_)⟩
    rw [nI_clamp (show c * 40 + i < 2 ^ 31 by omega)]
    refine ih (i + 1) (by omega) _ (fun a v ha hv => ?_)
    by_cases e : a = c ∧ v = i
    · obtain ⟨rfl, rfl⟩ := e
      rw [pk_us, if_pos ⟨rfl, by omega⟩, cz_nar1]
    · rw [pk_un (by omega), h a v ha hv]
      by_cases e2 : a = c ∧ v < i
      · rw [if_pos e2, if_pos ⟨e2.1, by omega⟩]
      · rw [if_neg e2, if_neg (by omega)]
theorem cz_wrY (post : Int32 → SY → Prop) {n c cd : Nat} (hn : n < 40) (hc : c < 3) (hcd : cd < 3) (x2 x3 : Int32) (p : Nat → Bool) {key val st needs0 cm hs cen sh : Nat → Int32}
    (hcen : cen c = nI cd) (hcm : ∀ v, v < 40 → hs (c * 40 + v) = cz_bz (p v))
    (hp : ∀ needs : Nat → Int32, (∀ a b, a < 40 → b < 40 → needs (a * 40 + b) = if a = n ∧ b < n then cz_bz (p b) else needs0 (a * 40 + b)) →
      post (nI n) (nI (n + 1), upd key n x2, upd val n x3, upd st n (cz_gs p st n + 1), needs, upd cm (cd * 40 + n) (cz_bz true), upd hs (c * 40 + n) (cz_bz true), cen, sh)) :
    ∀ d i, i + d = n → ∀ needs : Nat → Int32, (∀ a b, a < 40 → b < 40 → needs (a * 40 + b) = if a = n ∧ b < i then cz_bz (p b) else needs0 (a * 40 + b)) →
      wY_write_39 post (nI c) x2 x3 (nI n) (d + 1) (cz_gs p st i) (nI i) key val st needs cm hs cen sh := by
  intro d
  induction d with
  | zero =>
    intro i hi needs h
    obtain rfl : i = n := by omega
    have hi2 : vp_in (nI i) 40 := vp_in_nI (by omega) (by omega)
    refine br_t (cz_le (by omega)) ⟨hi2, nm_e ⟨hi2, nm_e ⟨hi2, nm_e ⟨vp_in_nI (by omega) (by omega), ?_⟩⟩⟩⟩
    rw [nI_clamp (show c < 2 ^ 31 by omega), hcen, cz_ix, cz_ix, nI_clamp (show i < 2 ^ 31 by omega)]
    refine ⟨vp_in_nI (by omega) (by omega), nm_e ⟨vp_in_nI (by omega) (by omega), nm_e (nm_r (nI_1 i) ?_)⟩⟩
    rw [nI_clamp (show cd * 40 + i < 2 ^ 31 by omega), nI_clamp (show c * 40 + i < 2 ^ 31 by omega), nI_pred, cz_nar1]
    exact hp needs h
  | succ d ih =>
    intro i hi needs h
    have hi2 : vp_in (nI i) 40 := vp_in_nI (by omega) (by omega)
    have H := ih (i + 1) (by omega) (upd needs (n * 40 + i) (vp_nar .boolean (cz_bz (p i)))) (fun a b ha hb => by
      by_cases e : a = n ∧ b = i
      · obtain ⟨rfl, rfl⟩ := e
        rw [pk_us, if_pos ⟨rfl, by omega⟩, cz_narB]
      · rw [pk_un (by omega), h a b ha hb]
        by_cases e2 : a = n ∧ b < i
        · rw [if_pos e2, if_pos ⟨e2.1, by omega⟩]
        · rw [if_neg e2, if_neg (by omega)])
    refine br_f (cz_nn (by omega) (by omega)) ?_
    rw [cz_ix, cz_ix, nI_clamp (show c * 40 + i < 2 ^ 31 by omega), nI_clamp (show n * 40 + i < 2 ^ 31 by omega), hcm i (by omega)]
    refine ⟨vp_in_nI (by omega) (by omega), vp_in_nI (by omega) (by omega), nm_e ⟨vp_in_nI (by omega) (by omega), ?_⟩⟩
    cases hC : p i with
    | false =>
      rw [cz_gs_f hC, hC] at H
      exact br_t cz_f (nm_r (nI_1 i) H)
    | true =>
      refine br_f cz_t ⟨hi2, ?_⟩
      rw [nI_clamp (show i < 2 ^ 31 by omega)]
      rw [hC] at H
      by_cases hs1 : st i ≤ cz_gs p st i
      · rw [cz_gs_le hs1] at H
        exact br_t hs1 (nm_r (nI_1 i) H)
      · rw [cz_gs_y hC hs1] at H
        exact br_f hs1 ⟨hi2, nm_e (nm_r (nI_1 i) H)⟩
end
section
theorem cz_rng (x : Int32) {n : Nat} (hn : n < 2 ^ 31) : (x < 0 ∨ nI n ≤ x) ∨ ∃ j : Nat, j < n ∧ x = nI j := by
  rcases pk_ix x hn with h | h | h
  · exact Or.inl (Or.inl h)
  · exact Or.inl (Or.inr h)
  · exact Or.inr h
theorem cz_b0 {x m : Int32} {P Q : Prop} (h : x < 0 ∨ m ≤ x) (hp : P) : ((x < 0 → P) ∧ (¬ x < 0 → (((m ≤ x → P) ∧ (¬ m ≤ x → Q))))) := by
  by_cases h0 : x < 0
  · exact br_t h0 hp
  · rcases h with h | h
    · exact absurd h h0
    · exact br_f h0 (br_t h hp)
theorem cz_b1 {j n : Nat} {P Q : Prop} (hn : n < 2 ^ 31) (hj : j < n) (hp : Q) : ((nI j < 0 → P) ∧ (¬ nI j < 0 → (((nI n ≤ nI j → P) ∧ (¬ nI n ≤ nI j → Q))))) :=
  br_f (nI_pos (by omega)) (br_f (nI_ge hj hn) hp)
theorem cz_iC0 {post : Int32 → Prop} {x : Int32} (h : x < 0 ∨ nI 3 ≤ x) (hp : post 0) : wpX_isClient post x := cz_b0 (m := 3) h hp
theorem cz_iC1 {post : Int32 → Prop} {j : Nat} (h : j < 3) (hp : post 1) : wpX_isClient post (nI j) := cz_b1 (n := 3) (by decide) h hp
theorem cz_iE0 {post : Int32 → Prop} {x : Int32} (h : x < 0 ∨ nI 3 ≤ x) (hp : post 0) : wpX_isCentre post x := cz_b0 (m := 3) h hp
theorem cz_iE1 {post : Int32 → Prop} {j : Nat} (h : j < 3) (hp : post 1) : wpX_isCentre post (nI j) := cz_b1 (n := 3) (by decide) h hp
theorem cz_iK0 {post : Int32 → Prop} {x : Int32} (h : x < 0 ∨ nI 6 ≤ x) (hp : post 0) : wpX_isKey post x := cz_b0 (m := 6) h hp
theorem cz_iK1 {post : Int32 → Prop} {j : Nat} (h : j < 6) (hp : post 1) : wpX_isKey post (nI j) := cz_b1 (n := 6) (by decide) h hp
theorem cz_iV0 {post : Int32 → Prop} {x : Int32} {f : Int32} {come vis seen dep : Nat → Int64} {cen key val st : Nat → Int32} (h : x < 0 ∨ f ≤ x) (hp : post 0) : wpX_isVersion post (f, come, vis, seen, dep, cen, key, val, st) x := cz_b0 h hp
theorem cz_iV1 {post : Int32 → Prop} {j n : Nat} (hn : n ≤ 40) {come vis seen dep : Nat → Int64} {cen key val st : Nat → Int32} (h : j < n) (hp : post 1) : wpX_isVersion post (nI n, come, vis, seen, dep, cen, key, val, st) (nI j) := cz_b1 (by omega) h hp
theorem cz_tY0 {post : Int32 → Prop} {x : Int32} {n : Nat} {key val st needs cm hs cen sh : Nat → Int32} (h : x < 0 ∨ nI 3 ≤ x) (hp : post 0) : wpY_three post (nI n, key, val, st, needs, cm, hs, cen, sh) x := cz_b0 (m := 3) h hp
theorem cz_tY1 {post : Int32 → Prop} {j n : Nat} {key val st needs cm hs cen sh : Nat → Int32} (h : j < 3) (hp : post 1) : wpY_three post (nI n, key, val, st, needs, cm, hs, cen, sh) (nI j) := cz_b1 (n := 3) (by decide) h hp
theorem cz_kY0 {post : Int32 → Prop} {x : Int32} {n : Nat} {key val st needs cm hs cen sh : Nat → Int32} (h : x < 0 ∨ nI 6 ≤ x) (hp : post 0) : wpY_isKey post (nI n, key, val, st, needs, cm, hs, cen, sh) x := cz_b0 (m := 6) h hp
theorem cz_kY1 {post : Int32 → Prop} {j n : Nat} {key val st needs cm hs cen sh : Nat → Int32} (h : j < 6) (hp : post 1) : wpY_isKey post (nI n, key, val, st, needs, cm, hs, cen, sh) (nI j) := cz_b1 (n := 6) (by decide) h hp
theorem cz_vY0 {post : Int32 → Prop} {x : Int32} {n : Nat} {key val st needs cm hs cen sh : Nat → Int32} (h : x < 0 ∨ nI n ≤ x) (hp : post 0) : wpY_isVersion post (nI n, key, val, st, needs, cm, hs, cen, sh) x := cz_b0 h hp
theorem cz_vY1 {post : Int32 → Prop} {j n : Nat} (hn : n ≤ 40) {key val st needs cm hs cen sh : Nat → Int32} (h : j < n) (hp : post 1) : wpY_isVersion post (nI n, key, val, st, needs, cm, hs, cen, sh) (nI j) := cz_b1 (by omega) h hp
/-! the relation -/
def cz_R (n : Nat) (come vis seen dep : Nat → Int64) (cen st needs cm hs : Nat → Int32) : Prop :=
  n ≤ 40 ∧ (∀ c, c < 3 → ∃ d, d < 3 ∧ cen c = nI d) ∧ (∀ v, v < 40 → ∃ s, s ≤ n ∧ st v = nI s) ∧
  (∀ c v, c < 3 → v < 40 → cm (c * 40 + v) = cz_bz (cz_bit (come c) v)) ∧ (∀ c v, c < 3 → n ≤ v → cz_bit (come c) v = false) ∧
  (∀ c v, c < 3 → v < 40 → hs (c * 40 + v) = cz_bz (cz_bit (seen c) v)) ∧ (∀ c v, c < 3 → n ≤ v → cz_bit (seen c) v = false) ∧
  (∀ a b, a < 40 → b < 40 → needs (a * 40 + b) = cz_bz (cz_bit (dep a) b)) ∧ (∀ a b, a < 40 → a ≤ b → cz_bit (dep a) b = false) ∧
  (∀ c v, c < 3 → cz_bit (vis c) v = cz_V (cz_bit (come c)) (fun a => cz_bit (dep a)) v)
/-- both hold the same count, keys, values, stamps and places; the long sets are the boolean rows; what is visible is the least set -/
def i_Rel (_ : Nat) (u : SX) (v : SY) : Prop := ∃ (n : Nat) (come vis seen dep : Nat → Int64) (cen key val st needs cm hs sh : Nat → Int32),
  u = (nI n, come, vis, seen, dep, cen, key, val, st) ∧ v = (nI n, key, val, st, needs, cm, hs, cen, sh) ∧ cz_R n come vis seen dep cen st needs cm hs
theorem cz_rel {k n : Nat} {come vis seen dep : Nat → Int64} {cen key val st needs cm hs sh : Nat → Int32} (h : cz_R n come vis seen dep cen st needs cm hs) : i_Rel k (nI n, come, vis, seen, dep, cen, key, val, st) (nI n, key, val, st, needs, cm, hs, cen, sh) :=
  ⟨n, come, vis, seen, dep, cen, key, val, st, needs, cm, hs, sh, rfl, rfl, h⟩
theorem i_up {k : Nat} {u : SX} {v : SY} (h : i_Rel k u v) : i_Rel (k + 4) u v := h
def cz_ini : Nat → Nat → Int32
  | 0 => fun _ => 0
  | i + 1 => upd (cz_ini i) i (nI i)
theorem cz_inX (post : SX → Prop) {f : Int32} {come vis seen dep : Nat → Int64} {cen key val st : Nat → Int32} (hp : post (f, come, vis, seen, dep, cz_ini 3, key, val, st)) : ∀ d i, i + d = 3 → wX_init_71 post f (d + 1) (nI i) come vis seen dep (cz_ini i) key val st := by
  intro d
  induction d with
  | zero =>
    intro i hi
    obtain rfl : i = 3 := by omega
    exact br_t (by decide) hp
  | succ d ih =>
    intro i hi
    refine br_f (nI_ge (b := 3) (by omega) (by decide)) ⟨vp_in_nI (by omega) (by omega), nm_e (nm_r (nI_1 i) ?_)⟩
    rw [nI_clamp (show i < 2 ^ 31 by omega)]
    exact ih (i + 1) (by omega)
theorem cz_inY (post : SY → Prop) {f : Int32} {key val st needs cm hs cen sh : Nat → Int32} (hp : post (f, key, val, st, needs, cm, hs, cz_ini 3, sh)) : ∀ d i, i + d = 3 → wY_init_70 post f (d + 1) (nI i) key val st needs cm hs (cz_ini i) sh := by
  intro d
  induction d with
  | zero =>
    intro i hi
    obtain rfl : i = 3 := by omega
    exact br_t (by decide) hp
  | succ d ih =>
    intro i hi
    refine br_f (nI_ge (b := 3) (by omega) (by decide)) ⟨vp_in_nI (by omega) (by omega), nm_e (nm_r (nI_1 i) ?_)⟩
    rw [nI_clamp (show i < 2 ^ 31 by omega)]
    exact ih (i + 1) (by omega)
theorem cz_ini3 : ∀ c, c < 3 → cz_ini 3 c = nI c := by decide
theorem cz_R0 : cz_R 0 (fun _ => 0) (fun _ => 0) (fun _ => 0) (fun _ => 0) (cz_ini 3) (fun _ => 0) (fun _ => 0) (fun _ => 0) (fun _ => 0) := by
  refine ⟨by omega, fun c hc => ⟨c, hc, cz_ini3 c hc⟩, fun v _ => ⟨0, by omega, rfl⟩, fun c v _ _ => ?_, fun c v _ _ => cz_zero v, fun c v _ _ => ?_, fun c v _ _ => cz_zero v, fun a b _ _ => ?_, fun a b _ _ => cz_zero b, fun c v _ => ?_⟩
  · dsimp only; rw [cz_zero]; rfl
  · dsimp only; rw [cz_zero]; rfl
  · dsimp only; rw [cz_zero]; rfl
  · rw [cz_zero, cz_V_C (cz_zero v)]
theorem i_vc0 : wpX_init (fun u => wpY_init (fun v => i_Rel 0 u v)) :=
  ⟨4, cz_inX (cen := fun _ => 0) _ ⟨4, cz_inY (cen := fun _ => 0) _ (cz_rel (n := 0) cz_R0) 3 0 rfl⟩ 3 0 rfl⟩
/-! what the relation gives -/
theorem cz_RV {n : Nat} {come vis seen dep : Nat → Int64} {cen st needs cm hs : Nat → Int32} (hR : cz_R n come vis seen dep cen st needs cm hs) {c : Nat} (hc : c < 3) (v : Nat) :
    cz_bit (vis c) v = true ↔ (cz_bit (come c) v = true ∧ ∀ b, b < v → cz_bit (dep v) b = true → cz_bit (vis c) b = true) := by
  obtain ⟨hn, hcen, hst, hcm, hcb, hhs, hsb, hnd, hdb, hvis⟩ := hR
  rw [hvis c v hc, cz_V_iff]
  constructor
  · intro h; exact ⟨h.1, fun b hb hd => by rw [hvis c b hc]; exact h.2 b hb hd⟩
  · intro h; exact ⟨h.1, fun b hb hd => by rw [← hvis c b hc]; exact h.2 b hb hd⟩
theorem cz_RE {n : Nat} {come vis seen dep : Nat → Int64} {cen st needs cm hs : Nat → Int32} (hR : cz_R n come vis seen dep cen st needs cm hs) {c : Nat} (hc : c < 3) (v : Nat) (hv : n ≤ v) : cz_bit (vis c) v = false := by
  obtain ⟨hn, hcen, hst, hcm, hcb, hhs, hsb, hnd, hdb, hvis⟩ := hR
  rw [hvis c v hc]; exact cz_V_C (hcb c v hc hv)
theorem cz_RD {n : Nat} {come vis seen dep : Nat → Int64} {cen st needs cm hs : Nat → Int32} (hR : cz_R n come vis seen dep cen st needs cm hs) : ∀ a, a < 40 → ∀ b, cz_bit (dep a) b = true → b < a := by
  obtain ⟨hn, hcen, hst, hcm, hcb, hhs, hsb, hnd, hdb, hvis⟩ := hR
  intro a ha b h
  by_cases e : b < a
  · exact e
  · rw [hdb a b ha (by omega)] at h; exact absurd h (by decide)
theorem cz_swN {post : Int32 → SY → Prop} {n c : Nat} {come vis seen dep : Nat → Int64} {key val st needs cm hs cen sh : Nat → Int32} (hR : cz_R n come vis seen dep cen st needs cm hs) (hc : c < 3)
    (hp : ∀ s : Nat → Int32, (∀ v, v < 40 → s v = cz_bz (cz_bit (vis c) v)) → post (nI (cz_cnt (cz_bit (vis c)) n)) (nI n, key, val, st, needs, cm, hs, cen, s)) :
    wpY_sweep post (nI n, key, val, st, needs, cm, hs, cen, sh) (nI c) := by
  have hV := cz_RV hR hc
  have hE := cz_RE hR hc
  have hD := cz_RD hR
  obtain ⟨hn, hcen, hst, hcm, hcb, hhs, hsb, hnd, hdb, hvis⟩ := hR
  exact cz_sw hn hc (cz_bit (vis c)) (cz_bit (come c)) (fun a => cz_bit (dep a)) (fun v hv => hcm c v hc (by omega)) (fun a ha b hb => hnd a b ha hb) hV hD hE hp
theorem cz_wnY {post : Int32 → SY → Prop} {n c k : Nat} {come vis seen dep : Nat → Int64} {key val st needs cm hs cen sh : Nat → Int32} (hR : cz_R n come vis seen dep cen st needs cm hs) (hc : c < 3) (hk : k < 6)
    (hp : ∀ s : Nat → Int32, post (cz_wb (fun v => cz_bit (vis c) v && decide (key v = nI k)) st 40).1 (nI n, key, val, st, needs, cm, hs, cen, s)) :
    wpY_winner post (nI n, key, val, st, needs, cm, hs, cen, sh) (nI c) (nI k) := by
  have hR0 := hR
  have hE := cz_RE hR hc
  obtain ⟨hn, hcen, hst, hcm, hcb, hhs, hsb, hnd, hdb, hvis⟩ := hR0
  rw [cz_wb_40 hn (fun j hj => by rw [hE j hj]; rfl)] at hp
  unfold wpY_winner
  refine cz_tY1 hc (br_f cz_1 (cz_kY1 hk (br_f cz_1 (cz_swN hR hc (fun s hs1 => ⟨n + 1, ?_⟩)))))
  exact cz_wiY post hn (nI k) _ (cz_bit (vis c)) hs1 hst (fun _ => rfl) (hp s) n 0 (by omega)
end
section
theorem i_vc_value {k : Nat} {u : SX} {v : SY} (I : i_Rel k u v) (hk : k + 4 ≤ 2048) (v1 : Int32) : wpX_value (fun r => wpY_value (fun r' => r' = r ∧ i_Rel (k + 4) u v) v v1) u v1 := by
  obtain ⟨n, come, vis, seen, dep, cen, key, val, st, needs, cm, hs, sh, rfl, rfl, hR⟩ := I
  have hn := hR.1
  unfold wpX_value wpY_value
  rcases cz_rng v1 (n := n) (by omega) with h | ⟨a, ha, rfl⟩
  · exact cz_iV0 h (br_t rfl (cz_vY0 h (br_t rfl ⟨rfl, cz_rel hR⟩)))
  · have hi : vp_in (nI a) 40 := vp_in_nI (by omega) (by omega)
    exact cz_iV1 hn ha (br_f cz_1 ⟨hi, cz_vY1 hn ha (br_f cz_1 ⟨hi, rfl, cz_rel hR⟩)⟩)
theorem i_vc_stamp {k : Nat} {u : SX} {v : SY} (I : i_Rel k u v) (hk : k + 4 ≤ 2048) (v1 : Int32) : wpX_stamp (fun r => wpY_stamp (fun r' => r' = r ∧ i_Rel (k + 4) u v) v v1) u v1 := by
  obtain ⟨n, come, vis, seen, dep, cen, key, val, st, needs, cm, hs, sh, rfl, rfl, hR⟩ := I
  have hn := hR.1
  unfold wpX_stamp wpY_stamp
  rcases cz_rng v1 (n := n) (by omega) with h | ⟨a, ha, rfl⟩
  · exact cz_iV0 h (br_t rfl (cz_vY0 h (br_t rfl ⟨rfl, cz_rel hR⟩)))
  · have hi : vp_in (nI a) 40 := vp_in_nI (by omega) (by omega)
    exact cz_iV1 hn ha (br_f cz_1 ⟨hi, cz_vY1 hn ha (br_f cz_1 ⟨hi, rfl, cz_rel hR⟩)⟩)
theorem i_vc_depends {k : Nat} {u : SX} {v : SY} (I : i_Rel k u v) (hk : k + 4 ≤ 2048) (v1 : Int32) (v2 : Int32) : wpX_depends (fun r => wpY_depends (fun r' => r' = r ∧ i_Rel (k + 4) u v) v v1 v2) u v1 v2 := by
  obtain ⟨n, come, vis, seen, dep, cen, key, val, st, needs, cm, hs, sh, rfl, rfl, hR⟩ := I
  have hn := hR.1
  unfold wpX_depends wpY_depends
  rcases cz_rng v1 (n := n) (by omega) with h | ⟨a, ha, rfl⟩
  · exact cz_iV0 h (br_t rfl (cz_vY0 h (br_t rfl ⟨rfl, cz_rel hR⟩)))
  · rcases cz_rng v2 (n := n) (by omega) with h | ⟨b, hb, rfl⟩
    · exact cz_iV1 hn ha (br_f cz_1 (cz_iV0 h (br_t rfl (cz_vY1 hn ha (br_f cz_1 (cz_vY0 h (br_t rfl ⟨rfl, cz_rel hR⟩)))))))
    · refine cz_iV1 hn ha (br_f cz_1 (cz_iV1 hn hb (br_f cz_1 ⟨vp_in_nI (by omega) (by omega), ?_⟩)))
      rw [nI_clamp (show a < 2 ^ 31 by omega)]
      refine cz_has (by omega) ?_
      have hR0 := hR
      obtain ⟨_, hcen, hst, hcm, hcb, hhs, hsb, hnd, hdb, hvis⟩ := hR0
      have hnd1 := hnd a b (by omega) (by omega)
      by_cases hab : a ≤ b
      · rw [hdb a b (by omega) hab]
        exact br_t cz_f (cz_vY1 hn ha (br_f cz_1 (cz_vY1 hn hb (br_f cz_1 (br_t (nI_le hab (by omega)) ⟨rfl, cz_rel hR⟩)))))
      · have hba : ¬ nI a ≤ nI b := nI_ge (by omega) (by omega)
        have hin : vp_in (nI (a * 40 + b)) 1600 := vp_in_nI (by omega) (by omega)
        cases hb1 : cz_bit (dep a) b with
        | false =>
          rw [hb1] at hnd1
          refine br_t cz_f (cz_vY1 hn ha (br_f cz_1 (cz_vY1 hn hb (br_f cz_1 (br_f hba ?_)))))
          rw [cz_ix]
          refine ⟨hin, ?_⟩
          rw [nI_clamp (show a * 40 + b < 2 ^ 31 by omega), hnd1]
          exact br_t cz_f ⟨rfl, cz_rel hR⟩
        | true =>
          rw [hb1] at hnd1
          refine br_f cz_t (cz_vY1 hn ha (br_f cz_1 (cz_vY1 hn hb (br_f cz_1 (br_f hba ?_)))))
          rw [cz_ix]
          refine ⟨hin, ?_⟩
          rw [nI_clamp (show a * 40 + b < 2 ^ 31 by omega), hnd1]
          exact br_f cz_t ⟨rfl, cz_rel hR⟩
theorem i_vc_seen {k : Nat} {u : SX} {v : SY} (I : i_Rel k u v) (hk : k + 4 ≤ 2048) (v1 : Int32) : wpX_seen (fun r => wpY_seen (fun r' => r' = r ∧ i_Rel (k + 4) u v) v v1) u v1 := by
  obtain ⟨n, come, vis, seen, dep, cen, key, val, st, needs, cm, hs, sh, rfl, rfl, hR⟩ := I
  have hn := hR.1
  unfold wpX_seen wpY_seen
  rcases cz_rng v1 (n := 3) (by omega) with h | ⟨c, hc, rfl⟩
  · exact cz_iC0 h (br_t rfl (cz_tY0 h (br_t rfl ⟨rfl, cz_rel hR⟩)))
  · have hR0 := hR
    obtain ⟨_, hcen, hst, hcm, hcb, hhs, hsb, hnd, hdb, hvis⟩ := hR0
    refine cz_iC1 hc (br_f cz_1 ⟨vp_in_nI hc (by omega), ?_⟩)
    rw [nI_clamp (show c < 2 ^ 31 by omega)]
    refine cz_size ?_
    rw [cz_cnt_40 hn (fun j hj => hsb c j hc hj)]
    exact cz_tY1 hc (br_f cz_1 ⟨n + 1, cz_seY _ hn hc (cz_bit (seen c)) (fun v hv => hhs c v hc (by omega)) ⟨rfl, cz_rel hR⟩ n 0 (by omega)⟩)
theorem i_vc_held {k : Nat} {u : SX} {v : SY} (I : i_Rel k u v) (hk : k + 4 ≤ 2048) (v1 : Int32) : wpX_held (fun r => wpY_held (fun r' v' => r' = r ∧ i_Rel (k + 4) u v') v v1) u v1 := by
  obtain ⟨n, come, vis, seen, dep, cen, key, val, st, needs, cm, hs, sh, rfl, rfl, hR⟩ := I
  have hn := hR.1
  unfold wpX_held wpY_held
  rcases cz_rng v1 (n := 3) (by omega) with h | ⟨c, hc, rfl⟩
  · exact cz_iE0 h (br_t rfl (cz_tY0 h (br_t rfl ⟨rfl, cz_rel hR⟩)))
  · have hR0 := hR
    obtain ⟨_, hcen, hst, hcm, hcb, hhs, hsb, hnd, hdb, hvis⟩ := hR0
    have hc2 : vp_in (nI c) 3 := vp_in_nI hc (by omega)
    refine cz_iE1 hc (br_f cz_1 ⟨hc2, hc2, ?_⟩)
    rw [nI_clamp (show c < 2 ^ 31 by omega)]
    refine cz_size ?_
    have e : cz_cnt (cz_bit (come c &&& (vis c ^^^ (-1)))) 40 = cz_cnt (fun v => cz_bit (come c) v && !cz_bit (vis c) v) n := by
      rw [cz_cnt_cong (q := fun v => cz_bit (come c) v && !cz_bit (vis c) v) 40 (fun j _ => cz_andn _ _ j)]
      exact cz_cnt_40 hn (fun j hj => by rw [hcb c j hc hj]; rfl)
    rw [e]
    exact cz_tY1 hc (br_f cz_1 (cz_swN hR hc (fun s hs1 => ⟨n + 1, cz_heY _ hn hc (cz_bit (vis c)) (cz_bit (come c)) hs1 (fun v hv => hcm c v hc (by omega)) ⟨rfl, cz_rel hR⟩ n 0 (by omega)⟩)))
theorem i_vc_visible {k : Nat} {u : SX} {v : SY} (I : i_Rel k u v) (hk : k + 4 ≤ 2048) (v1 : Int32) (v2 : Int32) : wpX_visible (fun r => wpY_visible (fun r' v' => r' = r ∧ i_Rel (k + 4) u v') v v1 v2) u v1 v2 := by
  obtain ⟨n, come, vis, seen, dep, cen, key, val, st, needs, cm, hs, sh, rfl, rfl, hR⟩ := I
  have hn := hR.1
  unfold wpX_visible wpY_visible
  rcases cz_rng v1 (n := n) (by omega) with h | ⟨a, ha, rfl⟩
  · exact cz_iV0 h (br_t rfl (cz_vY0 h (br_t rfl ⟨rfl, cz_rel hR⟩)))
  · rcases cz_rng v2 (n := 3) (by omega) with h | ⟨c, hc, rfl⟩
    · exact cz_iV1 hn ha (br_f cz_1 (cz_iE0 h (br_t rfl (cz_vY1 hn ha (br_f cz_1 (cz_tY0 h (br_t rfl ⟨rfl, cz_rel hR⟩)))))))
    · refine cz_iV1 hn ha (br_f cz_1 (cz_iE1 hc (br_f cz_1 ⟨vp_in_nI hc (by omega), ?_⟩)))
      rw [nI_clamp (show c < 2 ^ 31 by omega)]
      refine cz_has (by omega) ?_
      have hi : vp_in (nI a) 40 := vp_in_nI (by omega) (by omega)
      cases hb1 : cz_bit (vis c) a with
      | false =>
        refine br_t cz_f (cz_vY1 hn ha (br_f cz_1 (cz_tY1 hc (br_f cz_1 (cz_swN hR hc (fun s hs1 => ⟨hi, ?_⟩))))))
        rw [nI_clamp (show a < 2 ^ 31 by omega), hs1 a (by omega), hb1]
        exact ⟨cz_nrw false, rfl, cz_rel hR⟩
      | true =>
        refine br_f cz_t (cz_vY1 hn ha (br_f cz_1 (cz_tY1 hc (br_f cz_1 (cz_swN hR hc (fun s hs1 => ⟨hi, ?_⟩))))))
        rw [nI_clamp (show a < 2 ^ 31 by omega), hs1 a (by omega), hb1]
        exact ⟨cz_nrw true, rfl, cz_rel hR⟩
theorem i_vc_winner {k : Nat} {u : SX} {v : SY} (I : i_Rel k u v) (hk : k + 4 ≤ 2048) (v1 : Int32) (v2 : Int32) : wpX_winner (fun r => wpY_winner (fun r' v' => r' = r ∧ i_Rel (k + 4) u v') v v1 v2) u v1 v2 := by
  obtain ⟨n, come, vis, seen, dep, cen, key, val, st, needs, cm, hs, sh, rfl, rfl, hR⟩ := I
  have hn := hR.1
  unfold wpX_winner
  rcases cz_rng v1 (n := 3) (by omega) with h | ⟨c, hc, rfl⟩
  · unfold wpY_winner
    exact cz_iE0 h (br_t rfl (cz_tY0 h (br_t rfl ⟨rfl, cz_rel hR⟩)))
  · rcases cz_rng v2 (n := 6) (by omega) with h | ⟨q, hq, rfl⟩
    · unfold wpY_winner
      exact cz_iE1 hc (br_f cz_1 (cz_iK0 h (br_t rfl (cz_tY1 hc (br_f cz_1 (cz_kY0 h (br_t rfl ⟨rfl, cz_rel hR⟩)))))))
    · exact cz_iE1 hc (br_f cz_1 (cz_iK1 hq (br_f cz_1 (cz_wiW hc (cz_wnY hR hc hq (fun s => ⟨rfl, cz_rel hR⟩))))))
theorem cz_agX (post : Int32 → Prop) {a b : Nat} (ha : a < 3) (hb : b < 3) {f : Int32} {come vis seen dep : Nat → Int64} {cen key val st : Nat → Int32} (q : Nat → Bool)
    (hq : ∀ k, q k = decide ((cz_wb (fun v => cz_bit (vis a) v && decide (key v = nI k)) st 40).1 = (cz_wb (fun v => cz_bit (vis b) v && decide (key v = nI k)) st 40).1))
    (hp : post (nI (cz_cnt q 6))) : ∀ d i, i + d = 6 → wX_agree_22 post (nI a) (nI b) f come vis seen dep cen key val st (d + 1) (nI (cz_cnt q i)) (nI i) := by
  intro d
  induction d with
  | zero =>
    intro i hi
    obtain rfl : i = 6 := by omega
    exact br_t (by decide) hp
  | succ d ih =>
    intro i hi
    have H := ih (i + 1) (by omega)
    refine br_f (nI_ge (b := 6) (by omega) (by decide)) (cz_wiW ha (cz_wiW hb ?_))
    by_cases e : (cz_wb (fun v => cz_bit (vis a) v && decide (key v = nI i)) st 40).1 = (cz_wb (fun v => cz_bit (vis b) v && decide (key v = nI i)) st 40).1
    · rw [cz_cnt_t (by rw [hq i]; exact decide_eq_true e)] at H
      exact br_t e (nm_r (nI_1 _) (nm_r (nI_1 i) H))
    · rw [cz_cnt_f (by rw [hq i]; exact decide_eq_false e)] at H
      exact br_f e (nm_r (nI_1 i) H)
theorem cz_agY (post : Int32 → SY → Prop) {n a b : Nat} {come vis seen dep : Nat → Int64} {key val st needs cm hs cen : Nat → Int32} (hR : cz_R n come vis seen dep cen st needs cm hs) (ha : a < 3) (hb : b < 3) (q : Nat → Bool)
    (hq : ∀ k, q k = decide ((cz_wb (fun v => cz_bit (vis a) v && decide (key v = nI k)) st 40).1 = (cz_wb (fun v => cz_bit (vis b) v && decide (key v = nI k)) st 40).1))
    (hp : ∀ sh : Nat → Int32, post (nI (cz_cnt q 6)) (nI n, key, val, st, needs, cm, hs, cen, sh)) : ∀ d i, i + d = 6 → ∀ sh : Nat → Int32, wY_agree_24 post (nI a) (nI b) (d + 1) (nI (cz_cnt q i)) (nI i) (nI n) key val st needs cm hs cen sh := by
  intro d
  induction d with
  | zero =>
    intro i hi sh
    obtain rfl : i = 6 := by omega
    exact br_t (by decide) (hp sh)
  | succ d ih =>
    intro i hi sh
    have H := ih (i + 1) (by omega)
    refine br_f (nI_ge (b := 6) (by omega) (by decide)) (cz_wnY hR ha (by omega) (fun s1 => cz_wnY hR hb (by omega) (fun s2 => ?_)))
    by_cases e : (cz_wb (fun v => cz_bit (vis a) v && decide (key v = nI i)) st 40).1 = (cz_wb (fun v => cz_bit (vis b) v && decide (key v = nI i)) st 40).1
    · rw [cz_cnt_t (by rw [hq i]; exact decide_eq_true e)] at H
      exact br_t e (nm_r (nI_1 _) (nm_r (nI_1 i) (H s2)))
    · rw [cz_cnt_f (by rw [hq i]; exact decide_eq_false e)] at H
      exact br_f e (nm_r (nI_1 i) (H s2))
theorem i_vc_agree {k : Nat} {u : SX} {v : SY} (I : i_Rel k u v) (hk : k + 4 ≤ 2048) (v1 : Int32) (v2 : Int32) : wpX_agree (fun r => wpY_agree (fun r' v' => r' = r ∧ i_Rel (k + 4) u v') v v1 v2) u v1 v2 := by
  obtain ⟨n, come, vis, seen, dep, cen, key, val, st, needs, cm, hs, sh, rfl, rfl, hR⟩ := I
  have hn := hR.1
  unfold wpX_agree wpY_agree
  rcases cz_rng v1 (n := 3) (by omega) with h | ⟨a, ha, rfl⟩
  · exact cz_iE0 h (br_t rfl (cz_tY0 h (br_t rfl ⟨rfl, cz_rel hR⟩)))
  · rcases cz_rng v2 (n := 3) (by omega) with h | ⟨b, hb, rfl⟩
    · exact cz_iE1 ha (br_f cz_1 (cz_iE0 h (br_t rfl (cz_tY1 ha (br_f cz_1 (cz_tY0 h (br_t rfl ⟨rfl, cz_rel hR⟩)))))))
    · refine cz_iE1 ha (br_f cz_1 (cz_iE1 hb (br_f cz_1 ⟨7, cz_agX _ ha hb _ (fun _ => rfl) ?_ 6 0 rfl⟩)))
      exact cz_tY1 ha (br_f cz_1 (cz_tY1 hb (br_f cz_1 ⟨7, cz_agY _ hR ha hb _ (fun _ => rfl) (fun sh => ⟨rfl, cz_rel hR⟩) 6 0 rfl sh⟩)))
end
section
theorem cz_bitT {x y : Bool} (h : x = true → y = true) (h2 : y = false) : x = false := by
  cases x with
  | false => rfl
  | true => rw [h rfl] at h2; exact absurd h2 (by decide)
/-! move -/
theorem i_vc_move {k : Nat} {u : SX} {v : SY} (I : i_Rel k u v) (hk : k + 4 ≤ 2048) (v1 : Int32) (v2 : Int32) : wpX_move (fun r u' => wpY_move (fun r' v' => r' = r ∧ i_Rel (k + 4) u' v') v v1 v2) u v1 v2 := by
  obtain ⟨n, come, vis, seen, dep, cen, key, val, st, needs, cm, hs, sh, rfl, rfl, hR⟩ := I
  have hn := hR.1
  unfold wpX_move wpY_move
  rcases cz_rng v1 (n := 3) (by omega) with h | ⟨c, hc, rfl⟩
  · exact cz_iC0 h (br_t rfl (cz_tY0 h (br_t rfl ⟨rfl, cz_rel hR⟩)))
  · rcases cz_rng v2 (n := 3) (by omega) with h | ⟨e, he, rfl⟩
    · exact cz_iC1 hc (br_f cz_1 (cz_iE0 h (br_t rfl (cz_tY1 hc (br_f cz_1 (cz_tY0 h (br_t rfl ⟨rfl, cz_rel hR⟩)))))))
    · have hR0 := hR
      obtain ⟨_, hcen, hst, hcm, hcb, hhs, hsb, hnd, hdb, hvis⟩ := hR0
      have hc2 : vp_in (nI c) 3 := vp_in_nI hc (by omega)
      refine cz_iC1 hc (br_f cz_1 (cz_iE1 he (br_f cz_1 ⟨hc2, ?_⟩)))
      rw [nI_clamp (show c < 2 ^ 31 by omega)]
      refine cz_allV he (fun ha => ?_) (fun ha => ?_)
      · refine br_f cz_1 ⟨hc2, nm_e ?_⟩
        refine cz_tY1 hc (br_f cz_1 (cz_tY1 he (br_f cz_1 (cz_swN hR he (fun s hs1 => ⟨n + 1, ?_⟩)))))
        refine cz_moY _ hn hc (nI e) (cz_bit (vis e)) (cz_bit (seen c)) hs1 (fun v hv => hhs c v hc (by omega)) (fun _ => ?_) (fun hz => absurd (fun b _ hb => ha b hb) hz) n 0 (by omega) (fun b hb => by omega)
        refine ⟨rfl, cz_rel ⟨hn, fun a ha3 => ?_, hst, hcm, hcb, hhs, hsb, hnd, hdb, hvis⟩⟩
        by_cases ea : a = c
        · subst ea; exact ⟨e, he, pk_us⟩
        · rw [pk_un ea]; exact hcen a ha3
      · refine br_t rfl (cz_tY1 hc (br_f cz_1 (cz_tY1 he (br_f cz_1 (cz_swN hR he (fun s hs1 => ⟨n + 1, ?_⟩))))))
        refine cz_moY _ hn hc (nI e) (cz_bit (vis e)) (cz_bit (seen c)) hs1 (fun v hv => hhs c v hc (by omega)) (fun hz => absurd (fun b hb => ?_) ha) (fun _ => ⟨rfl, cz_rel hR⟩) n 0 (by omega) (fun b hb => by omega)
        by_cases hbn : b < n
        · exact hz b hbn hb
        · rw [hsb c b hc (by omega)] at hb; exact absurd hb (by decide)
/-! read -/
theorem cz_Rs {n : Nat} {come vis seen dep : Nat → Int64} {cen st needs cm hs : Nat → Int32} (hR : cz_R n come vis seen dep cen st needs cm hs) {c w : Nat} (hc : c < 3) (hw : w < n) :
    cz_R n come vis (vp_updL seen c (seen c ||| ((1 : Int64) <<< ((nI w).toInt64 &&& 63)))) dep cen st needs cm (upd hs (c * 40 + w) (cz_bz true)) := by
  obtain ⟨hn, hcen, hst, hcm, hcb, hhs, hsb, hnd, hdb, hvis⟩ := hR
  refine ⟨hn, hcen, hst, hcm, hcb, fun a v ha hv => ?_, fun a v ha hv => ?_, hnd, hdb, hvis⟩
  · by_cases ea : a = c
    · subst ea
      rw [pk_uLs, cz_or, cz_only (by omega)]
      by_cases ev : v = w
      · subst ev; rw [pk_us]; simp
      · rw [pk_un (by omega), hhs a v ha hv, decide_eq_false ev]; simp
    · rw [pk_uLn ea, pk_un (by omega)]; exact hhs a v ha hv
  · by_cases ea : a = c
    · subst ea
      rw [pk_uLs, cz_or, cz_only (by omega), hsb a v ha hv, decide_eq_false (by omega)]; rfl
    · rw [pk_uLn ea]; exact hsb a v ha hv
theorem i_vc_read {k : Nat} {u : SX} {v : SY} (I : i_Rel k u v) (hk : k + 4 ≤ 2048) (v1 : Int32) (v2 : Int32) : wpX_read (fun r u' => wpY_read (fun r' v' => r' = r ∧ i_Rel (k + 4) u' v') v v1 v2) u v1 v2 := by
  obtain ⟨n, come, vis, seen, dep, cen, key, val, st, needs, cm, hs, sh, rfl, rfl, hR⟩ := I
  have hn := hR.1
  unfold wpX_read wpY_read
  rcases cz_rng v1 (n := 3) (by omega) with h | ⟨c, hc, rfl⟩
  · exact cz_iC0 h (br_t rfl (cz_tY0 h (br_t rfl ⟨rfl, cz_rel hR⟩)))
  · rcases cz_rng v2 (n := 6) (by omega) with h | ⟨q, hq, rfl⟩
    · exact cz_iC1 hc (br_f cz_1 (cz_iK0 h (br_t rfl (cz_tY1 hc (br_f cz_1 (cz_kY0 h (br_t rfl ⟨rfl, cz_rel hR⟩)))))))
    · have hR0 := hR
      obtain ⟨_, hcen, hst, hcm, hcb, hhs, hsb, hnd, hdb, hvis⟩ := hR0
      have hc2 : vp_in (nI c) 3 := vp_in_nI hc (by omega)
      obtain ⟨e, he, hce⟩ := hcen c hc
      have hE := cz_RE hR he
      refine cz_iC1 hc (br_f cz_1 (cz_iK1 hq (br_f cz_1 ⟨hc2, ?_⟩)))
      rw [nI_clamp (show c < 2 ^ 31 by omega), hce]
      refine cz_wiW he ?_
      have hW := cz_wb_inv (p := fun v => cz_bit (vis e) v && decide (key v = nI q)) (st := st) n
      rw [← cz_wb_40 hn (fun j hj => by rw [hE j hj]; rfl)] at hW
      rcases hW with hW | ⟨w, hw, _, hW⟩
      · have hw1 : (cz_wb (fun v => cz_bit (vis e) v && decide (key v = nI q)) st 40).1 = -5 := by rw [hW]
        rw [hw1]
        refine br_t rfl (cz_tY1 hc (br_f cz_1 (cz_kY1 hq (br_f cz_1 ⟨hc2, ?_⟩))))
        rw [hce]
        refine cz_wnY hR he hq (fun s => ?_)
        rw [hw1]
        exact br_t (by decide) ⟨rfl, cz_rel hR⟩
      · have hw1 : (cz_wb (fun v => cz_bit (vis e) v && decide (key v = nI q)) st 40).1 = nI w := by rw [hW]
        rw [hw1]
        have hw5 : ¬ nI w = -5 := by
          intro z
          have : ¬ nI w < 0 := nI_pos (by omega)
          rw [z] at this
          exact this (by decide)
        refine br_f hw5 ⟨hc2, cz_on ⟨hc2, nm_e ?_⟩⟩
        refine cz_tY1 hc (br_f cz_1 (cz_kY1 hq (br_f cz_1 ⟨hc2, ?_⟩)))
        rw [hce]
        refine cz_wnY hR he hq (fun s => ?_)
        rw [hw1]
        refine br_f (nI_pos (by omega)) ?_
        rw [cz_ix]
        refine ⟨vp_in_nI (by omega) (by omega), nm_e ?_⟩
        rw [nI_clamp (show c * 40 + w < 2 ^ 31 by omega), cz_nar1]
        exact ⟨rfl, cz_rel (cz_Rs hR hc hw)⟩
/-! deliver and deliverAll -/
theorem cz_Rd {n : Nat} {come vis seen dep : Nat → Int64} {cen st needs cm hs : Nat → Int32} (hR : cz_R n come vis seen dep cen st needs cm hs) {c : Nat} (hc : c < 3)
    (come' vf : Nat → Int64) (cm' : Nat → Int32) (h1 : ∀ a, a ≠ c → come' a = come a) (h2 : ∀ v, n ≤ v → cz_bit (come' c) v = false)
    (h3 : ∀ a v, a < 3 → v < 40 → cm' (a * 40 + v) = cz_bz (cz_bit (come' a) v)) (h4 : ∀ a, a ≠ c → vf a = vis a)
    (h5 : ∀ v, cz_bit (vf c) v = cz_V (cz_bit (come' c)) (fun a => cz_bit (dep a)) v) : cz_R n come' vf seen dep cen st needs cm' hs := by
  obtain ⟨hn, hcen, hst, hcm, hcb, hhs, hsb, hnd, hdb, hvis⟩ := hR
  refine ⟨hn, hcen, hst, h3, fun a v ha hv => ?_, hhs, hsb, hnd, hdb, fun a v ha => ?_⟩
  · by_cases ea : a = c
    · subst ea; exact h2 v hv
    · rw [h1 a ea]; exact hcb a v ha hv
  · by_cases ea : a = c
    · subst ea; exact h5 v
    · rw [h1 a ea, h4 a ea]; exact hvis a v ha
/-- X's one pass beside Y's second sweep: both from the same new row of what has come -/
theorem cz_dl {k n c : Nat} {come vis seen dep : Nat → Int64} {cen key val st needs cm hs : Nat → Int32} (hR : cz_R n come vis seen dep cen st needs cm hs) (hc : c < 3)
    (y : Int64) (hm : ∀ v, cz_bit (come c) v = true → cz_bit y v = true) (hb : ∀ v, n ≤ v → cz_bit y v = false)
    (Q : Int32 → SX → Prop)
    (hQ : ∀ vf : Nat → Int64,
      (∀ (cm' sh : Nat → Int32), (∀ a v, a < 3 → v < 40 → cm' (a * 40 + v) = cz_bz (cz_bit (vp_updL come c y a) v)) →
        wpY_sweep (fun r' v' => r' - nI (cz_cnt (cz_bit (vis c)) n) = nI (cz_cnt (fun j => cz_V (cz_bit y) (fun a => cz_bit (dep a)) j && !cz_bit (vis c) j) 40) ∧ i_Rel k (nI n, vp_updL come c y, vf, seen, dep, cen, key, val, st) v') (nI n, key, val, st, needs, cm', hs, cen, sh) (nI c)) →
      Q (nI (cz_cnt (fun j => cz_V (cz_bit y) (fun a => cz_bit (dep a)) j && !cz_bit (vis c) j) 40)) (nI n, vp_updL come c y, vf, seen, dep, cen, key, val, st)) :
    wpX_showReady Q (nI n, vp_updL come c y, vis, seen, dep, cen, key, val, st) (nI c) := by
  have hR0 := hR
  obtain ⟨hn, hcen, hst, hcm, hcb, hhs, hsb, hnd, hdb, hvis⟩ := hR0
  have eT : ∀ v, cz_bit (vis c) v = true → cz_V (cz_bit y) (fun a => cz_bit (dep a)) v = true := by
    intro v h
    rw [hvis c v hc] at h
    exact cz_V_mono hm (fun _ _ _ => rfl) v h
  have eE : ∀ v, n ≤ v → cz_V (cz_bit y) (fun a => cz_bit (dep a)) v = false := fun v hv => cz_V_C (hb v hv)
  refine cz_shW hc (cz_V (cz_bit y) (fun a => cz_bit (dep a))) (cz_bit (vis c)) (fun v => ?_) eT (cz_RD hR) (fun v hv => eE v (by omega)) (fun _ => rfl) (fun vf h1 h2 => hQ vf (fun cm' sh h3 => ?_))
  · rw [pk_uLs]; exact cz_V_iff _ _ v
  · refine cz_sw hn hc (cz_V (cz_bit y) (fun a => cz_bit (dep a))) (cz_bit y) (fun a => cz_bit (dep a)) (fun v hv => ?_) (fun a ha b hb => hnd a b ha hb) (fun v => cz_V_iff _ _ v) (cz_RD hR) eE (fun s hs1 => ?_)
    · rw [h3 c v hc (by omega), pk_uLs]
    · refine ⟨?_, cz_rel (cz_Rd hR hc (vp_updL come c y) vf cm' (fun a ha => pk_uLn ha) (fun v hv => ?_) h3 h1 (fun v => ?_))⟩
      · have e1 := cz_cnt_diff eT n
        rw [cz_cnt_40 hn (fun j hj => by rw [eE j hj]; rfl), pk_sub (by omega)]
        exact congrArg nI (by omega)
      · rw [pk_uLs]; exact hb v hv
      · rw [pk_uLs]; exact h2 v
theorem i_vc_deliver {k : Nat} {u : SX} {v : SY} (I : i_Rel k u v) (hk : k + 4 ≤ 2048) (v1 : Int32) (v2 : Int32) : wpX_deliver (fun r u' => wpY_deliver (fun r' v' => r' = r ∧ i_Rel (k + 4) u' v') v v1 v2) u v1 v2 := by
  obtain ⟨n, come, vis, seen, dep, cen, key, val, st, needs, cm, hs, sh, rfl, rfl, hR⟩ := I
  have hn := hR.1
  unfold wpX_deliver wpY_deliver
  rcases cz_rng v1 (n := n) (by omega) with h | ⟨a, ha, rfl⟩
  · exact cz_iV0 h (br_t rfl (cz_vY0 h (br_t rfl ⟨rfl, cz_rel hR⟩)))
  · rcases cz_rng v2 (n := 3) (by omega) with h | ⟨c, hc, rfl⟩
    · exact cz_iV1 hn ha (br_f cz_1 (cz_iE0 h (br_t rfl (cz_vY1 hn ha (br_f cz_1 (cz_tY0 h (br_t rfl ⟨rfl, cz_rel hR⟩)))))))
    · have hR0 := hR
      obtain ⟨_, hcen, hst, hcm, hcb, hhs, hsb, hnd, hdb, hvis⟩ := hR0
      have hc2 : vp_in (nI c) 3 := vp_in_nI hc (by omega)
      have hin : vp_in (nI (c * 40 + a)) 120 := vp_in_nI (by omega) (by omega)
      have hcm1 := hcm c a hc (by omega)
      refine cz_iV1 hn ha (br_f cz_1 (cz_iE1 hc (br_f cz_1 ⟨hc2, ?_⟩)))
      rw [nI_clamp (show c < 2 ^ 31 by omega)]
      refine cz_has (by omega) ?_
      cases hb1 : cz_bit (come c) a with
      | true =>
        rw [hb1] at hcm1
        refine br_f cz_t (cz_vY1 hn ha (br_f cz_1 (cz_tY1 hc (br_f cz_1 ?_))))
        rw [cz_ix]
        refine ⟨hin, ?_⟩
        rw [nI_clamp (show c * 40 + a < 2 ^ 31 by omega), hcm1]
        exact br_f cz_t ⟨rfl, cz_rel hR⟩
      | false =>
        rw [hb1] at hcm1
        refine br_t cz_f ⟨hc2, cz_on ⟨hc2, nm_e ?_⟩⟩
        refine cz_dl (k := k + 4) hR hc (come c ||| ((1 : Int64) <<< ((nI a).toInt64 &&& 63))) (fun v h => by rw [cz_or, h]; rfl) (fun v h => by rw [cz_or, cz_only (by omega), hcb c v hc h, decide_eq_false (by omega)]; rfl) _ (fun vf hS => ?_)
        refine cz_vY1 hn ha (br_f cz_1 (cz_tY1 hc (br_f cz_1 ?_)))
        rw [cz_ix]
        refine ⟨hin, ?_⟩
        rw [nI_clamp (show c * 40 + a < 2 ^ 31 by omega), hcm1]
        refine br_t cz_f (cz_swN hR hc (fun s hs1 => ⟨hin, nm_e ?_⟩))
        rw [cz_nar1]
        refine hS _ s (fun b v hb hv => ?_)
        by_cases eb : b = c
        · subst eb
          rw [pk_uLs, cz_or, cz_only (by omega)]
          by_cases ev : v = a
          · subst ev; rw [pk_us]; simp
          · rw [pk_un (by omega), hcm b v hb hv, decide_eq_false ev]; simp
        · rw [pk_uLn eb, pk_un (by omega)]; exact hcm b v hb hv
theorem i_vc_deliverAll {k : Nat} {u : SX} {v : SY} (I : i_Rel k u v) (hk : k + 4 ≤ 2048) (v1 : Int32) : wpX_deliverAll (fun r u' => wpY_deliverAll (fun r' v' => r' = r ∧ i_Rel (k + 4) u' v') v v1) u v1 := by
  obtain ⟨n, come, vis, seen, dep, cen, key, val, st, needs, cm, hs, sh, rfl, rfl, hR⟩ := I
  have hn := hR.1
  unfold wpX_deliverAll wpY_deliverAll
  rcases cz_rng v1 (n := 3) (by omega) with h | ⟨c, hc, rfl⟩
  · exact cz_iE0 h (br_t rfl (cz_tY0 h (br_t rfl ⟨rfl, cz_rel hR⟩)))
  · have hR0 := hR
    obtain ⟨_, hcen, hst, hcm, hcb, hhs, hsb, hnd, hdb, hvis⟩ := hR0
    have hc2 : vp_in (nI c) 3 := vp_in_nI hc (by omega)
    refine cz_iE1 hc (br_f cz_1 ⟨hc2, nm_e ?_⟩)
    rw [nI_clamp (show c < 2 ^ 31 by omega)]
    refine cz_dl (k := k + 4) hR hc (((1 : Int64) <<< ((nI n).toInt64 &&& 63)) - 1) (fun v h => ?_) (fun v h => by rw [cz_mask (by omega)]; exact decide_eq_false (by omega)) _ (fun vf hS => ?_)
    · rw [cz_mask (by omega)]
      by_cases e : v < n
      · exact decide_eq_true e
      · rw [hcb c v hc (by omega)] at h; exact absurd h (by decide)
    · refine cz_tY1 hc (br_f cz_1 (cz_swN hR hc (fun s hs1 => ⟨n + 1, ?_⟩)))
      refine cz_daY _ hn hc _ (cm0 := cm) (fun cm' h => ?_) n 0 (by omega) cm (fun a v ha hv => by rw [if_neg (by omega)])
      refine hS cm' s (fun b v hb hv => ?_)
      rw [h b v hb hv]
      by_cases eb : b = c
      · subst eb
        rw [pk_uLs, cz_mask (by omega)]
        by_cases ev : v < n
        · rw [if_pos ⟨rfl, ev⟩, decide_eq_true ev]
        · rw [if_neg (by omega), hcm b v hb hv, hcb b v hb (by omega), decide_eq_false ev]
      · rw [pk_uLn eb, if_neg (by omega)]; exact hcm b v hb hv
end
section
theorem cz_Rw {n : Nat} {come vis seen dep : Nat → Int64} {cen st needs cm hs : Nat → Int32} (hR : cz_R n come vis seen dep cen st needs cm hs) (hn : n < 40) {c e : Nat} (hc : c < 3) (he : e < 3)
    (g : Int32) (hg : ∃ s, s ≤ n + 1 ∧ g = nI s) (needs' : Nat → Int32) (vf : Nat → Int64)
    (h1 : ∀ a b, a < 40 → b < 40 → needs' (a * 40 + b) = if a = n ∧ b < n then cz_bz (cz_bit (seen c) b) else needs (a * 40 + b))
    (h2 : ∀ a, a ≠ e → vf a = vis a)
    (h3 : ∀ v, cz_bit (vf e) v = cz_V (cz_bit (vp_updL come e (come e ||| ((1 : Int64) <<< ((nI n).toInt64 &&& 63))) e)) (fun a => cz_bit (vp_updL dep n (seen c) a)) v) :
    cz_R (n + 1) (vp_updL come e (come e ||| ((1 : Int64) <<< ((nI n).toInt64 &&& 63)))) vf (vp_updL seen c (seen c ||| ((1 : Int64) <<< ((nI n).toInt64 &&& 63)))) (vp_updL dep n (seen c)) cen (upd st n g) needs' (upd cm (e * 40 + n) (cz_bz true)) (upd hs (c * 40 + n) (cz_bz true)) := by
  obtain ⟨_, hcen, hst, hcm, hcb, hhs, hsb, hnd, hdb, hvis⟩ := hR
  refine ⟨by omega, hcen, fun v hv => ?_, fun a v ha hv => ?_, fun a v ha hv => ?_, fun a v ha hv => ?_, fun a v ha hv => ?_, fun a b ha hb => ?_, fun a b ha hb => ?_, fun a v ha => ?_⟩
  · by_cases ev : v = n
    · subst ev; rw [pk_us]; exact hg
    · rw [pk_un ev]
      obtain ⟨s, hs1, hs2⟩ := hst v hv
      exact ⟨s, by omega, hs2⟩
  · by_cases ea : a = e
    · subst ea
      rw [pk_uLs, cz_or, cz_only (by omega)]
      by_cases ev : v = n
      · subst ev; rw [pk_us]; simp
      · rw [pk_un (by omega), hcm a v ha hv, decide_eq_false ev]; simp
    · rw [pk_uLn ea, pk_un (by omega)]; exact hcm a v ha hv
  · by_cases ea : a = e
    · subst ea
      rw [pk_uLs, cz_or, cz_only (by omega), hcb a v ha (by omega), decide_eq_false (by omega)]; rfl
    · rw [pk_uLn ea]; exact hcb a v ha (by omega)
  · by_cases ea : a = c
    · subst ea
      rw [pk_uLs, cz_or, cz_only (by omega)]
      by_cases ev : v = n
      · subst ev; rw [pk_us]; simp
      · rw [pk_un (by omega), hhs a v ha hv, decide_eq_false ev]; simp
    · rw [pk_uLn ea, pk_un (by omega)]; exact hhs a v ha hv
  · by_cases ea : a = c
    · subst ea
      rw [pk_uLs, cz_or, cz_only (by omega), hsb a v ha (by omega), decide_eq_false (by omega)]; rfl
    · rw [pk_uLn ea]; exact hsb a v ha (by omega)
  · rw [h1 a b ha hb]
    by_cases ea : a = n
    · subst ea
      rw [pk_uLs]
      by_cases eb : b < a
      · rw [if_pos ⟨rfl, eb⟩]
      · rw [if_neg (by omega), hnd a b ha hb, hdb a b ha (by omega), hsb c b hc (by omega)]
    · rw [pk_uLn ea, if_neg (by omega)]; exact hnd a b ha hb
  · by_cases ea : a = n
    · subst ea; rw [pk_uLs]; exact hsb c b hc hb
    · rw [pk_uLn ea]; exact hdb a b ha hb
  · by_cases ea : a = e
    · subst ea; exact h3 v
    · rw [h2 a ea, pk_uLn ea, hvis a v ha]
      refine (cz_V_cong (fun _ => rfl) (fun w hw b => ?_) v).symm
      by_cases ew : w = n
      · subst ew; rw [hcb a w ha (Nat.le_refl w)] at hw; exact absurd hw (by decide)
      · rw [pk_uLn ew]
theorem i_vc_write {k : Nat} {u : SX} {v : SY} (I : i_Rel k u v) (hk : k + 4 ≤ 2048) (v1 : Int32) (v2 : Int32) (v3 : Int32) : wpX_write (fun r u' => wpY_write (fun r' v' => r' = r ∧ i_Rel (k + 4) u' v') v v1 v2 v3) u v1 v2 v3 := by
  obtain ⟨n, come, vis, seen, dep, cen, key, val, st, needs, cm, hs, sh, rfl, rfl, hR⟩ := I
  have hn := hR.1
  unfold wpX_write wpY_write
  rcases cz_rng v1 (n := 3) (by omega) with h | ⟨c, hc, rfl⟩
  · exact cz_iC0 h (br_t rfl (cz_tY0 h (br_t rfl ⟨rfl, cz_rel hR⟩)))
  · rcases cz_rng v2 (n := 6) (by omega) with h | ⟨q, hq, rfl⟩
    · exact cz_iC1 hc (br_f cz_1 (cz_iK0 h (br_t rfl (cz_tY1 hc (br_f cz_1 (cz_kY0 h (br_t rfl ⟨rfl, cz_rel hR⟩)))))))
    · have hR0 := hR
      obtain ⟨_, hcen, hst, hcm, hcb, hhs, hsb, hnd, hdb, hvis⟩ := hR0
      have hc2 : vp_in (nI c) 3 := vp_in_nI hc (by omega)
      obtain ⟨e, he, hce⟩ := hcen c hc
      have he2 : vp_in (nI e) 3 := vp_in_nI he (by omega)
      refine cz_iC1 hc (br_f cz_1 (cz_iK1 hq (br_f cz_1 ?_)))
      by_cases h40 : n < 40
      · have hn2 : vp_in (nI n) 40 := vp_in_nI h40 (by omega)
        have hne : ¬ nI n = 40 := by
          intro z
          have z2 : nI n = nI 40 := z
          rw [nI_eq (by omega) (by omega)] at z2
          omega
        have hcc : (nI c).toNatClampNeg = c := nI_clamp (by omega)
        have hnn : (nI n).toNatClampNeg = n := nI_clamp (by omega)
        have hee : (nI e).toNatClampNeg = e := nI_clamp (by omega)
        refine br_t (nI_lt (b := 40) h40 (by decide)) ⟨hc2, nm_r (e' := nI e) (by rw [hcc]; exact hce) ⟨hc2, nm_r (e' := seen c) (by rw [hcc]) ⟨hn2, nm_e ⟨hn2, nm_e (cz_gsW ?_)⟩⟩⟩⟩
        have hg : 1 + cz_gs (cz_bit (seen c)) st 40 = cz_gs (cz_bit (seen c)) st n + 1 := by
          rw [cz_gs_40 hn (fun j hj => hsb c j hc hj), Int32.add_comm]
        refine ⟨hn2, nm_e ⟨hn2, nm_e (cz_on ⟨hc2, nm_e ⟨he2, cz_on ⟨he2, nm_e (nm_r (nI_1 n) ?_)⟩⟩⟩)⟩⟩
        rw [hcc, hnn, hee, hg]
        have hm : ∀ v, cz_bit (come e) v = true → cz_bit (vp_updL come e (come e ||| ((1 : Int64) <<< ((nI n).toInt64 &&& 63))) e) v = true := fun v h => by rw [pk_uLs, cz_or, h]; rfl
        have hdd : ∀ v, cz_bit (come e) v = true → ∀ b, cz_bit (vp_updL dep n (seen c) v) b = cz_bit (dep v) b := by
          intro v h b
          by_cases ev : v = n
          · subst ev; rw [hcb e v he (Nat.le_refl v)] at h; exact absurd h (by decide)
          · rw [pk_uLn ev]
        refine cz_shW he (cz_V (cz_bit (vp_updL come e (come e ||| ((1 : Int64) <<< ((nI n).toInt64 &&& 63))) e)) (fun a => cz_bit (vp_updL dep n (seen c) a))) (cz_bit (vis e)) (fun v => cz_V_iff _ _ v) (fun v h => ?_) (fun v hv b hb => ?_) (fun v hv => ?_) (fun _ => rfl) (fun vf h1 h2 => ?_)
        · rw [hvis e v he] at h
          exact cz_V_mono hm hdd v h
        · by_cases ev : v = n
          · subst ev
            rw [pk_uLs] at hb
            by_cases eb : b < v
            · exact eb
            · rw [hsb c b hc (by omega)] at hb; exact absurd hb (by decide)
          · rw [pk_uLn ev] at hb
            exact cz_RD hR v hv b hb
        · refine cz_V_C ?_
          rw [pk_uLs, cz_or, cz_only (by omega), hcb e v he (by omega), decide_eq_false (by omega)]; rfl
        · refine cz_tY1 hc (br_f cz_1 (cz_kY1 hq (br_f cz_1 (br_f hne ⟨n + 1, ?_⟩))))
          refine cz_wrY _ h40 hc he (nI q) v3 (cz_bit (seen c)) (needs0 := needs) hce (fun v hv => hhs c v hc hv) (fun nd hnd' => ?_) n 0 (by omega) needs (fun a b ha hb => by rw [if_neg (by omega)])
          refine ⟨rfl, cz_rel (cz_Rw hR h40 hc he _ ?_ nd vf hnd' h1 h2)⟩
          obtain ⟨s, hs1, hs2⟩ := cz_gs_bd (p := cz_bit (seen c)) hst n hn
          exact ⟨s + 1, by omega, by rw [hs2, nI_1]⟩
      · obtain rfl : n = 40 := by omega
        exact br_f (nI_nlt (b := 40) (Nat.le_refl 40) (by decide)) (cz_tY1 hc (br_f cz_1 (cz_kY1 hq (br_f cz_1 (br_t rfl ⟨rfl, cz_rel hR⟩)))))
end
