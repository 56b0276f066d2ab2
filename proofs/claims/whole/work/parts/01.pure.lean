theorem pk_us {f : Nat → Int32} {k : Nat} {x : Int32} : upd f k x k = x := if_pos rfl
theorem pk_un {f : Nat → Int32} {k j : Nat} {x : Int32} (h : j ≠ k) : upd f k x j = f j := if_neg h
theorem pk_uLs {f : Nat → Int64} {k : Nat} {x : Int64} : vp_updL f k x k = x := if_pos rfl
theorem pk_uLn {f : Nat → Int64} {k j : Nat} {x : Int64} (h : j ≠ k) : vp_updL f k x j = f j := if_neg h
theorem pk_sub {a b : Nat} (h : b ≤ a) : nI a - nI b = nI (a - b) := by
  obtain ⟨c, rfl⟩ : ∃ c, a = c + b := ⟨a - b, by omega⟩
  rw [← nI_add, Int32.add_sub_cancel, Nat.add_sub_cancel]
theorem pk_mul (a b : Nat) : nI a * nI b = nI (a * b) := (Int32.ofNat_mul a b).symm
theorem pk_ix (x : Int32) {n : Nat} (hn : n < 2 ^ 31) : x < 0 ∨ nI n ≤ x ∨ ∃ j : Nat, j < n ∧ x = nI j := by
  by_cases h : x < 0
  · exact Or.inl h
  · obtain ⟨j, hj, rfl⟩ := nI_of h
    by_cases h2 : j < n
    · exact Or.inr (Or.inr ⟨j, h2, rfl⟩)
    · exact Or.inr (Or.inl (nI_le (by omega) hj))
theorem wb_tb (n : Nat) : (lN n).toBitVec = BitVec.ofNat 64 n := rfl
theorem wb_inj {a b : Int64} (h : a.toBitVec = b.toBitVec) : a = b := Int64.toBitVec_inj.mp h
def cz_bit (x : Int64) (i : Nat) : Bool := x.toBitVec.getLsbD i
def cz_bz : Bool → Int32
  | true => 1
  | false => 0
theorem cz_t : ¬ cz_bz true = 0 := by decide
theorem cz_f : cz_bz false = 0 := rfl
theorem cz_1 : ¬ (1 : Int32) = 0 := by decide
theorem cz_nar1 : vp_nar .boolean 1 = cz_bz true := by decide
theorem cz_nar0 : vp_nar .boolean 0 = cz_bz false := by decide
theorem cz_narB (b : Bool) : vp_nar .boolean (cz_bz b) = cz_bz b := by cases b <;> decide
theorem cz_nrw (b : Bool) : narrow .boolean (.int (cz_bz b)) = .int (cz_bz b) := by
  cases b
  · exact congrArg Value.int (by decide)
  · exact congrArg Value.int (by decide)
theorem cz_sh : ∀ v, v < 64 → ((1 : Int64) <<< ((nI v).toInt64 &&& 63)).toBitVec = BitVec.twoPow 64 v := by decide +kernel
theorem cz_mk : ∀ v, v < 64 → (((1 : Int64) <<< ((nI v).toInt64 &&& 63)) - 1).toBitVec = BitVec.ofNat 64 (2 ^ v - 1) := by decide +kernel
theorem cz_big {x : Int64} {j : Nat} (h : 64 ≤ j) : cz_bit x j = false := BitVec.getLsbD_of_ge _ _ h
theorem cz_only {v : Nat} (hv : v < 64) (j : Nat) : cz_bit ((1 : Int64) <<< ((nI v).toInt64 &&& 63)) j = decide (j = v) := by
  unfold cz_bit
  rw [cz_sh v hv, BitVec.getLsbD_twoPow]
  by_cases h : j = v
  · subst h; simp [hv]
  · have h' : ¬ v = j := fun z => h z.symm
    simp [h, h']
theorem cz_mask {n : Nat} (hn : n < 64) (j : Nat) : cz_bit (((1 : Int64) <<< ((nI n).toInt64 &&& 63)) - 1) j = decide (j < n) := by
  unfold cz_bit
  rw [cz_mk n hn, BitVec.getLsbD_ofNat, Nat.testBit_two_pow_sub_one]
  by_cases h : j < n
  · simp [h]; omega
  · simp [h]
theorem cz_or (x y : Int64) (j : Nat) : cz_bit (x ||| y) j = (cz_bit x j || cz_bit y j) := by
  unfold cz_bit
  rw [Int64.toBitVec_or, BitVec.getLsbD_or]
theorem cz_and (x y : Int64) (j : Nat) : cz_bit (x &&& y) j = (cz_bit x j && cz_bit y j) := by
  unfold cz_bit
  rw [Int64.toBitVec_and, BitVec.getLsbD_and]
theorem cz_m1 : (-1 : Int64).toBitVec = BitVec.allOnes 64 := by decide
theorem cz_andn (x y : Int64) (j : Nat) : cz_bit (x &&& (y ^^^ (-1))) j = (cz_bit x j && !cz_bit y j) := by
  by_cases h : j < 64
  · unfold cz_bit
    rw [Int64.toBitVec_and, BitVec.getLsbD_and, Int64.toBitVec_xor, BitVec.getLsbD_xor, cz_m1, BitVec.getLsbD_allOnes]
    simp [h]
  · rw [cz_big (by omega), cz_big (by omega)]; rfl
theorem cz_ext {x y : Int64} (h : ∀ j, cz_bit x j = cz_bit y j) : x = y := wb_inj (BitVec.eq_of_getLsbD_eq fun i _ => h i)
theorem cz_zero (j : Nat) : cz_bit 0 j = false := by
  unfold cz_bit
  exact BitVec.getLsbD_zero
theorem cz_is0 (x : Int64) : x = 0 ↔ ∀ j, cz_bit x j = false :=
  ⟨fun h j => by rw [h]; exact cz_zero j, fun h => cz_ext fun j => by rw [h j, cz_zero]⟩
theorem cz_hs0 (x : Int64) {v : Nat} (hv : v < 64) : (x &&& ((1 : Int64) <<< ((nI v).toInt64 &&& 63))) = 0 ↔ cz_bit x v = false := by
  rw [cz_is0]
  constructor
  · intro h
    have := h v
    rw [cz_and, cz_only hv] at this
    simpa using this
  · intro h j
    rw [cz_and, cz_only hv]
    by_cases e : j = v
    · subst e; simp [h]
    · simp [e]
theorem cz_sub0 (x y : Int64) : (x &&& (y ^^^ (-1))) = 0 ↔ ∀ j, cz_bit x j = true → cz_bit y j = true := by
  rw [cz_is0]
  constructor
  · intro h j hx
    have := h j
    rw [cz_andn, hx] at this
    simpa using this
  · intro h j
    rw [cz_andn]
    cases e : cz_bit x j with
    | false => rfl
    | true => rw [h j e]; rfl
theorem cz_ix (v j : Nat) : nI v * 40 + nI j = nI (v * 40 + j) := by
  have e : (40 : Int32) = nI 40 := rfl
  rw [e, pk_mul, nI_add]
theorem cz_n40 {i : Nat} (h : i < 40) : ¬ (40 : Int32) ≤ nI i := nI_ge (b := 40) h (by decide)
theorem cz_le40 : (40 : Int32) ≤ nI 40 := nI_le (b := 40) (Nat.le_refl 40) (by decide)
/-! counting -/
def cz_cnt (p : Nat → Bool) : Nat → Nat
  | 0 => 0
  | i + 1 => cz_cnt p i + (cond (p i) 1 0)
theorem cz_cnt_t {p : Nat → Bool} {i : Nat} (h : p i = true) : cz_cnt p (i + 1) = cz_cnt p i + 1 := by
  show cz_cnt p i + (cond (p i) 1 0) = _
  rw [h]; rfl
theorem cz_cnt_f {p : Nat → Bool} {i : Nat} (h : p i = false) : cz_cnt p (i + 1) = cz_cnt p i := by
  show cz_cnt p i + (cond (p i) 1 0) = _
  rw [h]; rfl
theorem cz_cnt_cong {p q : Nat → Bool} : ∀ i, (∀ j, j < i → p j = q j) → cz_cnt p i = cz_cnt q i := by
  intro i
  induction i with
  | zero => intro _; rfl
  | succ i ih =>
    intro h
    show cz_cnt p i + (cond (p i) 1 0) = cz_cnt q i + (cond (q i) 1 0)
    rw [ih (fun j hj => h j (by omega)), h i (by omega)]
theorem cz_cnt_stop {p : Nat → Bool} {n : Nat} (h : ∀ j, n ≤ j → p j = false) : ∀ d, cz_cnt p (n + d) = cz_cnt p n := by
  intro d
  induction d with
  | zero => rfl
  | succ d ih => rw [← ih]; exact cz_cnt_f (h (n + d) (Nat.le_add_right n d))
theorem cz_cnt_40 {p : Nat → Bool} {n : Nat} (hn : n ≤ 40) (h : ∀ j, n ≤ j → p j = false) : cz_cnt p 40 = cz_cnt p n := by
  have := cz_cnt_stop h (40 - n)
  rwa [show n + (40 - n) = 40 by omega] at this
theorem cz_cnt_diff {V T : Nat → Bool} (h : ∀ j, T j = true → V j = true) : ∀ i, cz_cnt (fun j => V j && !T j) i + cz_cnt T i = cz_cnt V i := by
  intro i
  induction i with
  | zero => rfl
  | succ i ih =>
    have e := h i
    show (cz_cnt (fun j => V j && !T j) i + (cond (V i && !T i) 1 0)) + (cz_cnt T i + (cond (T i) 1 0)) = cz_cnt V i + (cond (V i) 1 0)
    cases hT : T i <;> cases hV : V i
    · simp; omega
    · simp; omega
    · rw [hT, hV] at e; exact absurd (e rfl) (by decide)
    · simp; omega
theorem cz_cnt_le {p : Nat → Bool} : ∀ i, cz_cnt p i ≤ i := by
  intro i
  induction i with
  | zero => exact Nat.le_refl 0
  | succ i ih =>
    show cz_cnt p i + (cond (p i) 1 0) ≤ i + 1
    cases p i
    · simp; omega
    · simp; omega
/-! the greatest stamp -/
def cz_gs (p : Nat → Bool) (st : Nat → Int32) : Nat → Int32
  | 0 => 0
  | i + 1 => if p i = true ∧ ¬ st i ≤ cz_gs p st i then st i else cz_gs p st i
theorem cz_gs_n {p : Nat → Bool} {st : Nat → Int32} {i : Nat} (h : ¬ (p i = true ∧ ¬ st i ≤ cz_gs p st i)) : cz_gs p st (i + 1) = cz_gs p st i := if_neg h
theorem cz_gs_y {p : Nat → Bool} {st : Nat → Int32} {i : Nat} (h : p i = true) (h2 : ¬ st i ≤ cz_gs p st i) : cz_gs p st (i + 1) = st i := if_pos ⟨h, h2⟩
theorem cz_gs_f {p : Nat → Bool} {st : Nat → Int32} {i : Nat} (h : p i = false) : cz_gs p st (i + 1) = cz_gs p st i := cz_gs_n (fun z => by rw [h] at z; exact absurd z.1 (by decide))
theorem cz_gs_le {p : Nat → Bool} {st : Nat → Int32} {i : Nat} (h : st i ≤ cz_gs p st i) : cz_gs p st (i + 1) = cz_gs p st i := cz_gs_n (fun z => z.2 h)
theorem cz_gs_stop {p : Nat → Bool} {st : Nat → Int32} {n : Nat} (h : ∀ j, n ≤ j → p j = false) : ∀ d, cz_gs p st (n + d) = cz_gs p st n := by
  intro d
  induction d with
  | zero => rfl
  | succ d ih => rw [← ih]; exact cz_gs_f (h (n + d) (Nat.le_add_right n d))
theorem cz_gs_40 {p : Nat → Bool} {st : Nat → Int32} {n : Nat} (hn : n ≤ 40) (h : ∀ j, n ≤ j → p j = false) : cz_gs p st 40 = cz_gs p st n := by
  have := cz_gs_stop (st := st) h (40 - n)
  rwa [show n + (40 - n) = 40 by omega] at this
theorem cz_gs_bd {p : Nat → Bool} {st : Nat → Int32} {n : Nat} (h : ∀ v, v < 40 → ∃ s, s ≤ n ∧ st v = nI s) : ∀ i, i ≤ 40 → ∃ s, s ≤ n ∧ cz_gs p st i = nI s := by
  intro i
  induction i with
  | zero => intro _; exact ⟨0, Nat.zero_le n, rfl⟩
  | succ i ih =>
    intro hi
    by_cases e : p i = true ∧ ¬ st i ≤ cz_gs p st i
    · rw [cz_gs_y e.1 e.2]; exact h i (by omega)
    · rw [cz_gs_n e]; exact ih (by omega)
/-! the winner -/
def cz_wb (p : Nat → Bool) (st : Nat → Int32) : Nat → Int32 × Int32
  | 0 => (-5, 0)
  | i + 1 => if p i = true ∧ ¬ st i < (cz_wb p st i).2 then (nI i, st i) else cz_wb p st i
theorem cz_wb_n {p : Nat → Bool} {st : Nat → Int32} {i : Nat} (h : ¬ (p i = true ∧ ¬ st i < (cz_wb p st i).2)) : cz_wb p st (i + 1) = cz_wb p st i := if_neg h
theorem cz_wb_y {p : Nat → Bool} {st : Nat → Int32} {i : Nat} (h : p i = true) (h2 : ¬ st i < (cz_wb p st i).2) : cz_wb p st (i + 1) = (nI i, st i) := if_pos ⟨h, h2⟩
theorem cz_wb_f {p : Nat → Bool} {st : Nat → Int32} {i : Nat} (h : p i = false) : cz_wb p st (i + 1) = cz_wb p st i := cz_wb_n (fun z => by rw [h] at z; exact absurd z.1 (by decide))
theorem cz_wb_lt {p : Nat → Bool} {st : Nat → Int32} {i : Nat} (h : st i < (cz_wb p st i).2) : cz_wb p st (i + 1) = cz_wb p st i := cz_wb_n (fun z => z.2 h)
theorem cz_wb_stop {p : Nat → Bool} {st : Nat → Int32} {n : Nat} (h : ∀ j, n ≤ j → p j = false) : ∀ d, cz_wb p st (n + d) = cz_wb p st n := by
  intro d
  induction d with
  | zero => rfl
  | succ d ih => rw [← ih]; exact cz_wb_f (h (n + d) (Nat.le_add_right n d))
theorem cz_wb_40 {p : Nat → Bool} {st : Nat → Int32} {n : Nat} (hn : n ≤ 40) (h : ∀ j, n ≤ j → p j = false) : cz_wb p st 40 = cz_wb p st n := by
  have := cz_wb_stop (st := st) h (40 - n)
  rwa [show n + (40 - n) = 40 by omega] at this
theorem cz_wb_inv {p : Nat → Bool} {st : Nat → Int32} : ∀ i, cz_wb p st i = (-5, 0) ∨ ∃ j, j < i ∧ p j = true ∧ cz_wb p st i = (nI j, st j) := by
  intro i
  induction i with
  | zero => exact Or.inl rfl
  | succ i ih =>
    by_cases e : p i = true ∧ ¬ st i < (cz_wb p st i).2
    · exact Or.inr ⟨i, by omega, e.1, cz_wb_y e.1 e.2⟩
    · rw [cz_wb_n e]
      rcases ih with h | ⟨j, hj, h1, h2⟩
      · exact Or.inl h
      · exact Or.inr ⟨j, by omega, h1, h2⟩
/-! what is shown: the least set, by an ascending pass -/
def cz_A (C : Nat → Bool) (D : Nat → Nat → Bool) : Nat → Nat → Bool
  | 0 => fun _ => false
  | i + 1 => fun v => if v = i then (C i && decide (∀ b, b < i → D i b = true → cz_A C D i b = true)) else cz_A C D i v
def cz_V (C : Nat → Bool) (D : Nat → Nat → Bool) (v : Nat) : Bool := cz_A C D (v + 1) v
theorem cz_A_lt (C : Nat → Bool) (D : Nat → Nat → Bool) : ∀ i v, v < i → cz_A C D i v = cz_V C D v := by
  intro i
  induction i with
  | zero => intro v hv; omega
  | succ i ih =>
    intro v hv
    by_cases e : v = i
    · subst e; rfl
    · have h : cz_A C D (i + 1) v = cz_A C D i v := if_neg e
      rw [h]; exact ih v (by omega)
theorem cz_V_iff (C : Nat → Bool) (D : Nat → Nat → Bool) (v : Nat) : cz_V C D v = true ↔ (C v = true ∧ ∀ b, b < v → D v b = true → cz_V C D b = true) := by
  have e : cz_V C D v = (C v && decide (∀ b, b < v → D v b = true → cz_A C D v b = true)) := if_pos rfl
  rw [e, Bool.and_eq_true, decide_eq_true_iff]
  constructor
  · intro h
    exact ⟨h.1, fun b hb hd => by rw [← cz_A_lt C D v b hb]; exact h.2 b hb hd⟩
  · intro h
    exact ⟨h.1, fun b hb hd => by rw [cz_A_lt C D v b hb]; exact h.2 b hb hd⟩
theorem cz_V_C {C : Nat → Bool} {D : Nat → Nat → Bool} {v : Nat} (h : C v = false) : cz_V C D v = false := by
  cases e : cz_V C D v with
  | false => rfl
  | true => have := ((cz_V_iff C D v).mp e).1; rw [h] at this; exact absurd this (by decide)
theorem cz_V_mono {C C' : Nat → Bool} {D D' : Nat → Nat → Bool} (hC : ∀ v, C v = true → C' v = true) (hD : ∀ v, C v = true → ∀ b, D' v b = D v b) : ∀ v, cz_V C D v = true → cz_V C' D' v = true := by
  intro v
  induction v using Nat.strongRecOn with
  | ind v ih =>
    intro h
    have h2 := (cz_V_iff C D v).mp h
    exact (cz_V_iff C' D' v).mpr ⟨hC v h2.1, fun b hb hd => ih b hb (h2.2 b hb (by rw [← hD v h2.1 b]; exact hd))⟩
theorem cz_V_cong {C C' : Nat → Bool} {D D' : Nat → Nat → Bool} (hC : ∀ v, C' v = C v) (hD : ∀ v, C v = true → ∀ b, D' v b = D v b) (v : Nat) : cz_V C' D' v = cz_V C D v := by
  have h1 := cz_V_mono (C := C) (C' := C') (D := D) (D' := D') (fun v h => by rw [hC v]; exact h) hD v
  have h2 := cz_V_mono (C := C') (C' := C) (D := D') (D' := D) (fun v h => by rw [← hC v]; exact h) (fun v h b => (hD v (by rw [← hC v]; exact h) b).symm) v
  cases e : cz_V C D v with
  | true => exact h1 e
  | false =>
    cases e2 : cz_V C' D' v with
    | false => rfl
    | true => rw [h2 e2] at e; exact absurd e (by decide)
