/-! the reflow: R l rows for line l, from row B l on -/
def rt_mx (a b : Nat) : Nat := if a < b then b else a
theorem rt_mx_lt {a b : Nat} (h : a < b) : rt_mx a b = b := if_pos h
theorem rt_mx_ge {a b : Nat} (h : b ≤ a) : rt_mx a b = a := if_neg (by omega)
theorem rt_mx_sp (a b : Nat) : (a < b ∧ rt_mx a b = b) ∨ (b ≤ a ∧ rt_mx a b = a) := by
  rcases Nat.lt_or_ge a b with h | h
  · exact Or.inl ⟨h, rt_mx_lt h⟩
  · exact Or.inr ⟨h, rt_mx_ge h⟩
def rt_R0 (w2 n : Nat) : Nat := rt_mx 1 ((n + w2 - 1) / w2)
def rt_R (LN : Nat → Nat) (w2 cl ck l : Nat) : Nat := if l = cl then rt_mx (rt_R0 w2 (LN l)) (ck / w2 + 1) else rt_R0 w2 (LN l)
theorem rt_R_c {LN : Nat → Nat} {w2 cl ck : Nat} : rt_R LN w2 cl ck cl = rt_mx (rt_R0 w2 (LN cl)) (ck / w2 + 1) := if_pos rfl
theorem rt_R_n {LN : Nat → Nat} {w2 cl ck l : Nat} (h : l ≠ cl) : rt_R LN w2 cl ck l = rt_R0 w2 (LN l) := if_neg h
theorem rt_R0_le {w w2 k n : Nat} (hw : w ≤ 16) (h2 : 4 ≤ w2) (hk : 1 ≤ k) (hn : n ≤ k * w) : rt_R0 w2 n ≤ 4 * k := by
  have a : k * w ≤ k * 16 := Nat.mul_le_mul_left _ hw
  have b : 4 * k * 4 ≤ 4 * k * w2 := Nat.mul_le_mul_left _ h2
  have c : (n + w2 - 1) / w2 < 4 * k + 1 := by
    apply Nat.div_lt_of_lt_mul
    rw [Nat.mul_comm, Nat.add_mul]
    omega
  unfold rt_R0
  rcases rt_mx_sp 1 ((n + w2 - 1) / w2) with h | h <;> omega
theorem rt_ck_le {w w2 k ck : Nat} (hw : w ≤ 16) (h2 : 4 ≤ w2) (hn : ck < k * w) : ck / w2 < 4 * k := by
  have a : k * w ≤ k * 16 := Nat.mul_le_mul_left _ hw
  have b : 4 * k * 4 ≤ 4 * k * w2 := Nat.mul_le_mul_left _ h2
  apply Nat.div_lt_of_lt_mul
  rw [Nat.mul_comm]
  omega
theorem rt_R_le {LN : Nat → Nat} {w w2 k cl ck l : Nat} (hw : w ≤ 16) (h2 : 4 ≤ w2) (hk : 1 ≤ k) (hn : LN l ≤ k * w) (hc : l = cl → ck < k * w) : rt_R LN w2 cl ck l ≤ 4 * k := by
  have a := rt_R0_le hw h2 hk hn
  by_cases h : l = cl
  · have b := rt_ck_le hw h2 (hc h)
    unfold rt_R
    rw [if_pos h]
    rcases rt_mx_sp (rt_R0 w2 (LN l)) (ck / w2 + 1) with z | z <;> omega
  · rw [rt_R_n h]; exact a
theorem rt_R0_pos (w2 n : Nat) : 1 ≤ rt_R0 w2 n := by
  unfold rt_R0
  rcases rt_mx_sp 1 ((n + w2 - 1) / w2) with h | h <;> omega
theorem rt_R_pos (LN : Nat → Nat) (w2 cl ck l : Nat) : 1 ≤ rt_R LN w2 cl ck l := by
  have a := rt_R0_pos w2 (LN l)
  unfold rt_R
  by_cases h : l = cl
  · rw [if_pos h]
    rcases rt_mx_sp (rt_R0 w2 (LN l)) (ck / w2 + 1) with z | z <;> omega
  · rw [if_neg h]; exact a
theorem rt_R_cur (LN : Nat → Nat) (w2 cl ck : Nat) : ck / w2 < rt_R LN w2 cl ck cl := by
  rw [rt_R_c]
  rcases rt_mx_sp (rt_R0 w2 (LN cl)) (ck / w2 + 1) with z | z <;> omega
def rt_Bs (R : Nat → Nat) : Nat → Nat
  | 0 => 0
  | l + 1 => rt_Bs R l + R l
theorem rt_Bs_s (R : Nat → Nat) (l : Nat) : rt_Bs R (l + 1) = rt_Bs R l + R l := rfl
theorem rt_Bs_m {R : Nat → Nat} {l m : Nat} (h : l < m) : rt_Bs R l + R l ≤ rt_Bs R m := by
  induction m with
  | zero => omega
  | succ m ih =>
    rw [rt_Bs_s]
    by_cases e : l = m
    · rw [e]; exact Nat.le_refl _
    · have := ih (by omega); omega
theorem rt_Bs_le {R V : Nat → Nat} {m : Nat} (hm : ∀ l, l < m → V l ≤ V (l + 1)) (h : ∀ l, l < m → R l ≤ 4 * (V (l + 1) - V l)) : rt_Bs R m ≤ 4 * V m := by
  induction m with
  | zero => exact Nat.zero_le _
  | succ m ih =>
    have a := ih (fun l hl => hm l (by omega)) (fun l hl => h l (by omega))
    have b := h m (by omega)
    have c := hm m (by omega)
    rw [rt_Bs_s]
    omega
def rt_val (tx : Nat → Int32) (len w2 j c : Nat) : Int32 := if c < w2 ∧ j * w2 + c < len then tx (j * w2 + c) else 32
theorem rt_val_t {tx : Nat → Int32} {len w2 j c : Nat} (h1 : c < w2) (h2 : j * w2 + c < len) : rt_val tx len w2 j c = tx (j * w2 + c) := if_pos ⟨h1, h2⟩
theorem rt_val_w {tx : Nat → Int32} {len w2 j c : Nat} (h1 : w2 ≤ c) : rt_val tx len w2 j c = 32 := if_neg (by omega)
theorem rt_val_l {tx : Nat → Int32} {len w2 j c : Nat} (h1 : len ≤ j * w2 + c) : rt_val tx len w2 j c = 32 := if_neg (by omega)
def rt_rowv (tx : Nat → Int32) (len w2 : Nat) : Nat → Int32 := fun i => rt_val tx len w2 (i / 16) (i % 16)
def rt_flg (R : Nat) : Nat → Int32 := fun j => if j + 1 < R then 1 else 0
theorem rt_rowv_at (tx : Nat → Int32) (len w2 j c : Nat) (hc : c < 16) : rt_rowv tx len w2 (j * 16 + c) = rt_val tx len w2 j c := by
  unfold rt_rowv
  rw [show (j * 16 + c) / 16 = j by omega, show (j * 16 + c) % 16 = c by omega]
/-- a line's rows laid into the flow -/
def rt_fa (TX : Nat → Nat → Int32) (LN R : Nat → Nat) (w2 : Nat) (A : Nat → Int32) : Nat → Nat → Int32
  | 0 => A
  | m + 1 => rt_put (rt_fa TX LN R w2 A m) (rt_Bs R m * 16) (R m * 16) (rt_rowv (TX m) (LN m) w2)
def rt_ff (R : Nat → Nat) (A : Nat → Int32) : Nat → Nat → Int32
  | 0 => A
  | m + 1 => rt_put (rt_ff R A m) (rt_Bs R m) (R m) (rt_flg (R m))
theorem rt_fa_s (TX : Nat → Nat → Int32) (LN R : Nat → Nat) (w2 : Nat) (A : Nat → Int32) (m : Nat) : rt_fa TX LN R w2 A (m + 1) = rt_put (rt_fa TX LN R w2 A m) (rt_Bs R m * 16) (R m * 16) (rt_rowv (TX m) (LN m) w2) := rfl
theorem rt_ff_s (R : Nat → Nat) (A : Nat → Int32) (m : Nat) : rt_ff R A (m + 1) = rt_put (rt_ff R A m) (rt_Bs R m) (R m) (rt_flg (R m)) := rfl
theorem rt_fa_u {TX : Nat → Nat → Int32} {LN R : Nat → Nat} {w2 : Nat} (A A' : Nat → Int32) (m : Nat) : ∀ i, i < rt_Bs R m * 16 → rt_fa TX LN R w2 A m i = rt_fa TX LN R w2 A' m i := by
  induction m with
  | zero => intro i hi; rw [show rt_Bs R 0 = 0 from rfl] at hi; omega
  | succ m ih =>
    intro i hi
    rw [rt_Bs_s, Nat.add_mul] at hi
    rw [rt_fa_s, rt_fa_s]
    by_cases h : rt_Bs R m * 16 ≤ i
    · rw [rt_put_in h hi, rt_put_in h hi]
    · rw [rt_put_out (by omega), rt_put_out (by omega)]
      exact ih i (by omega)
theorem rt_ff_u {R : Nat → Nat} (A A' : Nat → Int32) (m : Nat) : ∀ i, i < rt_Bs R m → rt_ff R A m i = rt_ff R A' m i := by
  induction m with
  | zero => intro i hi; rw [show rt_Bs R 0 = 0 from rfl] at hi; omega
  | succ m ih =>
    intro i hi
    rw [rt_Bs_s] at hi
    rw [rt_ff_s, rt_ff_s]
    by_cases h : rt_Bs R m ≤ i
    · rw [rt_put_in h hi, rt_put_in h hi]
    · rw [rt_put_out (by omega), rt_put_out (by omega)]
      exact ih i (by omega)
theorem rt_flg01 (R j : Nat) : rt_01 (rt_flg R j) := by
  unfold rt_flg
  by_cases h : j + 1 < R
  · rw [if_pos h]; exact rt_01_1
  · rw [if_neg h]; exact rt_01_0
theorem rt_ff01 {R : Nat → Nat} {A : Nat → Int32} (hA : rt_B01 A) (m : Nat) : rt_B01 (rt_ff R A m) := by
  induction m with
  | zero => exact hA
  | succ m ih => exact rt_B_put ih (fun j _ => rt_flg01 _ j)
