/-! the lines of a main buffer: f the rows' flags, T the number of rows, L r the line of row r, V l the first row of line l -/
def rt_L (f : Nat → Int32) : Nat → Nat
  | 0 => 0
  | r + 1 => if f r = 0 then rt_L f r + 1 else rt_L f r
theorem rt_L_z {f : Nat → Int32} {r : Nat} (h : f r = 0) : rt_L f (r + 1) = rt_L f r + 1 := by rw [rt_L, if_pos h]
theorem rt_L_n {f : Nat → Int32} {r : Nat} (h : ¬ f r = 0) : rt_L f (r + 1) = rt_L f r := by rw [rt_L, if_neg h]
theorem rt_L_s (f : Nat → Int32) (r : Nat) : rt_L f r ≤ rt_L f (r + 1) ∧ rt_L f (r + 1) ≤ rt_L f r + 1 := by
  by_cases h : f r = 0
  · rw [rt_L_z h]; omega
  · rw [rt_L_n h]; omega
theorem rt_L_m (f : Nat → Int32) {a b : Nat} (h : a ≤ b) : rt_L f a ≤ rt_L f b := by
  induction b with
  | zero =>
    have e : a = 0 := by omega
    subst e; exact Nat.le_refl _
  | succ b ih =>
    by_cases e : a = b + 1
    · subst e; exact Nat.le_refl _
    · exact Nat.le_trans (ih (by omega)) (rt_L_s f b).1
theorem rt_L_le (f : Nat → Int32) (r : Nat) : rt_L f r ≤ r := by
  induction r with
  | zero => exact Nat.le_refl _
  | succ r ih => have := (rt_L_s f r).2; omega
theorem rt_L_ex (f : Nat → Int32) {l r : Nat} (h : l ≤ rt_L f r) : ∃ j, j ≤ r ∧ rt_L f j = l := by
  induction r with
  | zero => exact ⟨0, Nat.le_refl _, by have : rt_L f 0 = 0 := rfl; omega⟩
  | succ r ih =>
    by_cases e : l ≤ rt_L f r
    · obtain ⟨j, hj, ej⟩ := ih e
      exact ⟨j, by omega, ej⟩
    · exact ⟨r + 1, Nat.le_refl _, by have := (rt_L_s f r).2; omega⟩
def rt_V (f : Nat → Int32) : Nat → Nat → Nat
  | 0, _ => 0
  | T + 1, l => if rt_L f T < l then rt_V f T l + 1 else rt_V f T l
theorem rt_V_t {f : Nat → Int32} {T l : Nat} (h : rt_L f T < l) : rt_V f (T + 1) l = rt_V f T l + 1 := by rw [rt_V, if_pos h]
theorem rt_V_f {f : Nat → Int32} {T l : Nat} (h : ¬ rt_L f T < l) : rt_V f (T + 1) l = rt_V f T l := by rw [rt_V, if_neg h]
theorem rt_V_le (f : Nat → Int32) (T l : Nat) : rt_V f T l ≤ T := by
  induction T with
  | zero => exact Nat.le_refl _
  | succ T ih =>
    by_cases h : rt_L f T < l
    · rw [rt_V_t h]; omega
    · rw [rt_V_f h]; omega
theorem rt_V_iff (f : Nat → Int32) (T l : Nat) : ∀ r, r < T → (r < rt_V f T l ↔ rt_L f r < l) := by
  induction T with
  | zero => intro r hr; omega
  | succ T ih =>
    intro r hr
    have hle := rt_V_le f T l
    by_cases h : rt_L f T < l
    · rw [rt_V_t h]
      have full : rt_V f T l = T := by
        rcases Nat.lt_or_ge (rt_V f T l) T with z | z
        · have m := rt_L_m f (Nat.le_of_lt z)
          have := (ih _ z).mpr (by omega)
          omega
        · omega
      have m := rt_L_m f (show r ≤ T by omega)
      constructor
      · intro _; omega
      · intro _; omega
    · rw [rt_V_f h]
      by_cases e : r = T
      · subst e
        constructor
        · intro z; omega
        · intro z; omega
      · exact ih r (by omega)
theorem rt_V_eq {f : Nat → Int32} {T l r : Nat} (hr : r ≤ T) (h1 : ∀ j, j < r → rt_L f j < l) (h2 : ∀ j, r ≤ j → j < T → ¬ rt_L f j < l) : rt_V f T l = r := by
  have hle := rt_V_le f T l
  rcases Nat.lt_trichotomy (rt_V f T l) r with z | z | z
  · have := (rt_V_iff f T l (rt_V f T l) (by omega)).mpr (h1 _ z)
    omega
  · exact z
  · have := (rt_V_iff f T l r (by omega)).mp z
    exact absurd this (h2 r (Nat.le_refl _) (by omega))
theorem rt_V_0 (f : Nat → Int32) (T : Nat) : rt_V f T 0 = 0 := rt_V_eq (Nat.zero_le _) (fun j hj => by omega) (fun j _ _ => by omega)
theorem rt_V_st {f : Nat → Int32} {T r : Nat} (hr : r < T) (h : f r = 0) (hT : r + 1 < T) : rt_V f T (rt_L f (r + 1)) = r + 1 := by
  refine rt_V_eq (by omega) (fun j hj => ?_) (fun j hj _ => ?_)
  · have := rt_L_m f (show j ≤ r by omega)
    rw [rt_L_z h]; omega
  · have := rt_L_m f hj
    omega
theorem rt_V_T {f : Nat → Int32} {T l : Nat} (h0 : 0 < T) (h : rt_L f (T - 1) < l) : rt_V f T l = T := by
  refine rt_V_eq (Nat.le_refl _) (fun j hj => ?_) (fun j h1 h2 => by omega)
  have := rt_L_m f (show j ≤ T - 1 by omega)
  omega
theorem rt_V_mono (f : Nat → Int32) (T : Nat) {l l' : Nat} (h : l ≤ l') : rt_V f T l ≤ rt_V f T l' := by
  rcases Nat.lt_or_ge (rt_V f T l') (rt_V f T l) with z | z
  · have hle := rt_V_le f T l
    have a := (rt_V_iff f T l (rt_V f T l') (by omega)).mp z
    have b := (rt_V_iff f T l' (rt_V f T l') (by omega)).mpr (by omega)
    omega
  · exact z
theorem rt_V_row {f : Nat → Int32} {T r : Nat} (hr : r < T) : rt_V f T (rt_L f r) ≤ r ∧ r < rt_V f T (rt_L f r + 1) := by
  have a := rt_V_iff f T (rt_L f r) r hr
  have b := rt_V_iff f T (rt_L f r + 1) r hr
  omega
theorem rt_V_in {f : Nat → Int32} {T l r : Nat} (h1 : rt_V f T l ≤ r) (h2 : r < rt_V f T (l + 1)) : r < T ∧ rt_L f r = l := by
  have hle := rt_V_le f T (l + 1)
  have hr : r < T := by omega
  have a := rt_V_iff f T l r hr
  have b := rt_V_iff f T (l + 1) r hr
  exact ⟨hr, by omega⟩
theorem rt_V_ne {f : Nat → Int32} {T l : Nat} (h0 : 0 < T) (h : l ≤ rt_L f (T - 1)) : rt_V f T l < rt_V f T (l + 1) := by
  obtain ⟨j, hj, e⟩ := rt_L_ex f h
  have := rt_V_row (f := f) (T := T) (r := j) (by omega)
  rw [e] at this
  omega
/-! the text of a line -/
def rt_len (tx : Nat → Int32) : Nat → Nat
  | 0 => 0
  | k + 1 => if tx k = 32 then rt_len tx k else k + 1
theorem rt_len_b {tx : Nat → Int32} {k : Nat} (h : tx k = 32) : rt_len tx (k + 1) = rt_len tx k := by rw [rt_len, if_pos h]
theorem rt_len_t {tx : Nat → Int32} {k : Nat} (h : ¬ tx k = 32) : rt_len tx (k + 1) = k + 1 := by rw [rt_len, if_neg h]
theorem rt_len_le (tx : Nat → Int32) (k : Nat) : rt_len tx k ≤ k := by
  induction k with
  | zero => exact Nat.le_refl _
  | succ k ih =>
    by_cases h : tx k = 32
    · rw [rt_len_b h]; omega
    · rw [rt_len_t h]; omega
theorem rt_len_0 {tx : Nat → Int32} {k : Nat} : rt_len tx k = 0 ↔ ∀ j, j < k → tx j = 32 := by
  induction k with
  | zero => exact ⟨fun _ j hj => by omega, fun _ => rfl⟩
  | succ k ih =>
    by_cases h : tx k = 32
    · rw [rt_len_b h, ih]
      exact ⟨fun H j hj => by
        by_cases e : j = k
        · rw [e]; exact h
        · exact H j (by omega), fun H j hj => H j (by omega)⟩
    · rw [rt_len_t h]
      exact ⟨fun z => by omega, fun H => absurd (H k (by omega)) h⟩
theorem rt_len_c {tx tx' : Nat → Int32} {k : Nat} (h : ∀ j, j < k → tx j = tx' j) : rt_len tx k = rt_len tx' k := by
  induction k with
  | zero => rfl
  | succ k ih =>
    have e := h k (by omega)
    by_cases z : tx k = 32
    · rw [rt_len_b z, rt_len_b (e ▸ z), ih (fun j hj => h j (by omega))]
    · rw [rt_len_t z, rt_len_t (e ▸ z)]
def rt_tx (g : Nat → Int32) (w s : Nat) : Nat → Int32 := fun j => g ((s + j / w) * 16 + j % w)
/-- the length of line l's text -/
def rt_ln (g f : Nat → Int32) (w T l : Nat) : Nat := rt_len (rt_tx g w (rt_V f T l)) ((rt_V f T (l + 1) - rt_V f T l) * w)
def rt_hT (g : Nat → Int32) (w r : Nat) : Prop := ∃ c, c < w ∧ ¬ g (r * 16 + c) = 32
theorem rt_ln_row {g f : Nat → Int32} {w T l : Nat} (hw : 0 < w) : ¬ rt_ln g f w T l = 0 ↔ ∃ r, r < T ∧ rt_L f r = l ∧ rt_hT g w r := by
  constructor
  · intro h
    apply Classical.byContradiction
    intro H
    apply h
    refine rt_len_0.mpr (fun j hj => ?_)
    apply Classical.byContradiction
    intro hx
    have hq : j / w < rt_V f T (l + 1) - rt_V f T l := Nat.div_lt_of_lt_mul (by rw [Nat.mul_comm]; exact hj)
    have hin := rt_V_in (f := f) (T := T) (l := l) (r := rt_V f T l + j / w) (Nat.le_add_right _ _) (Nat.add_lt_of_lt_sub' hq)
    exact H ⟨_, hin.1, hin.2, j % w, Nat.mod_lt _ hw, hx⟩
  · rintro ⟨r, hr, e, c, hc, hx⟩ h
    have hrow := rt_V_row (f := f) hr
    rw [e] at hrow
    have d := rt_dm (a := r - rt_V f T l) hc
    have key := rt_len_0.mp h ((r - rt_V f T l) * w + c) (by
      have : (r - rt_V f T l + 1) * w ≤ (rt_V f T (l + 1) - rt_V f T l) * w := Nat.mul_le_mul_right _ (by omega)
      rw [Nat.add_mul] at this
      omega)
    unfold rt_tx at key
    rw [d.1, d.2, show rt_V f T l + (r - rt_V f T l) = r by omega] at key
    exact hx key
/-! the number of lines that count -/
noncomputable def rt_C (f : Nat → Int32) (P : Nat → Prop) : Nat → Nat
  | 0 => 0
  | r + 1 => @ite Nat (P r) (Classical.propDecidable _) (rt_L f r + 1) (rt_C f P r)
theorem rt_C_t {f : Nat → Int32} {P : Nat → Prop} {r : Nat} (h : P r) : rt_C f P (r + 1) = rt_L f r + 1 := by rw [rt_C, if_pos h]
theorem rt_C_f {f : Nat → Int32} {P : Nat → Prop} {r : Nat} (h : ¬ P r) : rt_C f P (r + 1) = rt_C f P r := by rw [rt_C, if_neg h]
theorem rt_C_sp {f : Nat → Int32} {P : Nat → Prop} {T r : Nat} (hr : r < T) (hP : P r) : ∃ q, q < T ∧ P q ∧ rt_C f P T = rt_L f q + 1 ∧ ∀ j, q < j → j < T → ¬ P j := by
  induction T with
  | zero => omega
  | succ T ih =>
    by_cases h : P T
    · exact ⟨T, by omega, h, rt_C_t h, fun j h1 h2 => by omega⟩
    · have : r ≠ T := fun e => h (e ▸ hP)
      obtain ⟨q, hq, hPq, e, H⟩ := ih (by omega)
      refine ⟨q, by omega, hPq, by rw [rt_C_f h, e], fun j h1 h2 => ?_⟩
      by_cases ej : j = T
      · rw [ej]; exact h
      · exact H j h1 (by omega)
def rt_M (g f : Nat → Int32) (w T ci m : Nat) : Prop :=
  rt_L f ci < m ∧ m ≤ rt_L f (T - 1) + 1 ∧ (∀ l, m ≤ l → l ≤ rt_L f (T - 1) → rt_ln g f w T l = 0) ∧ (m = rt_L f ci + 1 ∨ ¬ rt_ln g f w T (m - 1) = 0)
theorem rt_M_u {g f : Nat → Int32} {w T ci m m' : Nat} (h : rt_M g f w T ci m) (h' : rt_M g f w T ci m') : m = m' := by
  obtain ⟨a1, a2, a3, a4⟩ := h
  obtain ⟨b1, b2, b3, b4⟩ := h'
  rcases Nat.lt_trichotomy m m' with z | z | z
  · rcases b4 with e | e
    · omega
    · exact absurd (a3 (m' - 1) (by omega) (by omega)) e
  · exact z
  · rcases a4 with e | e
    · omega
    · exact absurd (b3 (m - 1) (by omega) (by omega)) e
/-- X's count of lines -/
noncomputable def rt_N (g f : Nat → Int32) (w T ci : Nat) : Nat := rt_C f (fun r => r = ci ∨ rt_hT g w r) T
theorem rt_N_M {g f : Nat → Int32} {w T ci : Nat} (hw : 0 < w) (hc : ci < T) : rt_M g f w T ci (rt_N g f w T ci) := by
  obtain ⟨q, hq, hP, e, H⟩ := rt_C_sp (f := f) (P := fun r => r = ci ∨ rt_hT g w r) hc (Or.inl rfl)
  have e' : rt_N g f w T ci = rt_L f q + 1 := e
  have hci : ci ≤ q := by
    rcases Nat.lt_or_ge q ci with z | z
    · exact absurd (show ci = ci ∨ rt_hT g w ci from Or.inl rfl) (H ci z hc)
    · exact z
  have m1 := rt_L_m f hci
  have m2 := rt_L_m f (show q ≤ T - 1 by omega)
  refine ⟨by omega, by omega, fun l h1 h2 => ?_, ?_⟩
  · apply Classical.byContradiction
    intro z
    obtain ⟨r, hr, el, ht⟩ := (rt_ln_row hw).mp z
    rcases Nat.lt_or_ge q r with y | y
    · exact H r y hr (show r = ci ∨ rt_hT g w r from Or.inr ht)
    · have := rt_L_m f y
      omega
  · rcases hP with z | z
    · left; rw [e', z]
    · right
      rw [e', Nat.add_sub_cancel]
      exact (rt_ln_row hw).mpr ⟨q, hq, rfl, z⟩
/-! the reference's table of lines over the first i rows: k lines, their first rows, their numbers of rows -/
def rt_yl (f : Nat → Int32) (i k : Nat) (ls lr : Nat → Int32) : Prop :=
  (i = 0 → k = 0) ∧ (0 < i → k = rt_L f (i - 1) + 1) ∧ ∀ l, l < k → ls l = nI (rt_V f i l) ∧ lr l = nI (rt_V f i (l + 1) - rt_V f i l)
theorem rt_yl_0 (f ls lr : Nat → Int32) : rt_yl f 0 0 ls lr := ⟨fun _ => rfl, fun h => by omega, fun l h => by omega⟩
theorem rt_yl_k {f : Nat → Int32} {i k : Nat} {ls lr : Nat → Int32} (H : rt_yl f i k ls lr) : k ≤ i := by
  rcases Nat.eq_zero_or_pos i with h | h
  · have := H.1 h; omega
  · have a := H.2.1 h
    have b := rt_L_le f (i - 1)
    omega
theorem rt_yl_new {f : Nat → Int32} {i k : Nat} {ls lr : Nat → Int32} (H : rt_yl f i k ls lr) (h : i = 0 ∨ f (i - 1) = 0) : rt_yl f (i + 1) (k + 1) (upd ls k (nI i)) (upd lr k (nI 1)) := by
  obtain ⟨a, b, c⟩ := H
  have hL : rt_L f i = k := by
    rcases h with h | h
    · subst h; rw [a rfl]; rfl
    · rcases Nat.eq_zero_or_pos i with z | z
      · subst z; rw [a rfl]; rfl
      · obtain ⟨j, rfl⟩ : ∃ j, i = j + 1 := ⟨i - 1, by omega⟩
        rw [Nat.add_sub_cancel] at h b
        rw [rt_L_z h, b (by omega)]
  refine ⟨fun z => by omega, fun _ => by rw [Nat.add_sub_cancel, hL], fun l hl => ?_⟩
  by_cases e : l = k
  · subst e
    have e1 : rt_V f (i + 1) l = i := by
      rw [rt_V_f (T := i) (l := l) (by omega)]
      rcases Nat.eq_zero_or_pos i with z | z
      · subst z; rfl
      · exact rt_V_T z (by have := b z; omega)
    have e2 : rt_V f (i + 1) (l + 1) = i + 1 := rt_V_T (by omega) (by rw [Nat.add_sub_cancel]; omega)
    rw [pk_us, pk_us, e1, e2, show i + 1 - i = 1 by omega]
    exact ⟨rfl, rfl⟩
  · rw [pk_un e, pk_un e, rt_V_f (T := i) (l := l) (by omega), rt_V_f (T := i) (l := l + 1) (by omega)]
    exact c l (by omega)
theorem rt_yl_old {f : Nat → Int32} {i k : Nat} {ls lr : Nat → Int32} (H : rt_yl f i k ls lr) (h0 : 0 < i) (h : ¬ f (i - 1) = 0) : rt_yl f (i + 1) k ls (upd lr (k - 1) (lr (k - 1) + 1)) := by
  obtain ⟨a, b, c⟩ := H
  obtain ⟨j, rfl⟩ : ∃ j, i = j + 1 := ⟨i - 1, by omega⟩
  rw [Nat.add_sub_cancel] at h b
  have hk := b (by omega)
  have hL : rt_L f (j + 1) = k - 1 := by rw [rt_L_n h]; omega
  refine ⟨fun z => by omega, fun _ => by rw [Nat.add_sub_cancel, hL]; omega, fun l hl => ?_⟩
  have cl := c l hl
  by_cases e : l = k - 1
  · subst e
    rw [pk_us, rt_V_f (T := j + 1) (l := k - 1) (by omega), rt_V_t (T := j + 1) (l := k - 1 + 1) (by omega)]
    refine ⟨cl.1, ?_⟩
    have m := rt_V_mono f (j + 1) (show k - 1 ≤ k - 1 + 1 by omega)
    rw [cl.2, nI_1]
    congr 1
    omega
  · rw [pk_un e, rt_V_f (T := j + 1) (l := l) (by omega), rt_V_f (T := j + 1) (l := l + 1) (by omega)]
    exact cl
