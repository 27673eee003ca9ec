section
theorem pk_us {f : Nat → Int32} {k : Nat} {x : Int32} : upd f k x k = x := if_pos rfl
theorem pk_un {f : Nat → Int32} {k j : Nat} {x : Int32} (h : j ≠ k) : upd f k x j = f j := if_neg h
theorem pk_sub {a b : Nat} (h : b ≤ a) : nI a - nI b = nI (a - b) := by
  obtain ⟨c, rfl⟩ : ∃ c, a = c + b := ⟨a - b, by omega⟩
  rw [← nI_add, Int32.add_sub_cancel, Nat.add_sub_cancel]
theorem pk_m1 (n : Nat) : nI (n + 1) + (-1) = nI n := by
  rw [← nI_1, Int32.add_assoc, show (1 : Int32) + (-1) = 0 from rfl, Int32.add_zero]
theorem pk_mul (a b : Nat) : nI a * nI b = nI (a * b) := (Int32.ofNat_mul a b).symm
theorem pk_div {a d : Nat} (ha : a < 2 ^ 31) (h0 : 0 < d) (hd : d < 2 ^ 31) : nI a / nI d = nI (a / d) := by
  apply Int32.toInt_inj.mp
  rw [lg_idiv_nonneg (by rw [nI_toInt ha]; omega) (by rw [nI_toInt hd]; omega), nI_toInt ha, nI_toInt hd, nI_toInt (Nat.lt_of_le_of_lt (Nat.div_le_self a d) ha)]
  first | rfl | exact (Int.natCast_ediv _ _).symm
theorem pk_rem {a d : Nat} (ha : a < 2 ^ 31) (h0 : 0 < d) (hd : d < 2 ^ 31) : nI a - nI a / nI d * nI d = nI (a % d) := by
  rw [pk_div ha h0 hd, pk_mul, pk_sub (Nat.div_mul_le_self a d)]
  exact congrArg nI (by have := Nat.div_add_mod' a d; omega)
theorem pk_ix (x : Int32) {n : Nat} (hn : n < 2 ^ 31) : x < 0 ∨ nI n ≤ x ∨ ∃ j : Nat, j < n ∧ x = nI j := by
  by_cases h : x < 0
  · exact Or.inl h
  · obtain ⟨j, hj, rfl⟩ := nI_of h
    by_cases h2 : j < n
    · exact Or.inr (Or.inr ⟨j, h2, rfl⟩)
    · exact Or.inr (Or.inl (nI_le (by omega) hj))
theorem pk_le {x y : Int32} {A B : Prop} (a b : Nat) (f : a ≤ b → A) (g : b < a → B) (hx : x = nI a := by rfl) (hy : y = nI b := by rfl) (ha : a < 2 ^ 31 := by omega) (hb : b < 2 ^ 31 := by omega) : (x ≤ y → A) ∧ (¬ x ≤ y → B) := by
  subst hx hy
  rw [nI_leI ha hb]
  exact ⟨f, fun z => g (by omega)⟩
theorem pk_lt {x y : Int32} {A B : Prop} (a b : Nat) (f : a < b → A) (g : b ≤ a → B) (hx : x = nI a := by rfl) (hy : y = nI b := by rfl) (ha : a < 2 ^ 31 := by omega) (hb : b < 2 ^ 31 := by omega) : (x < y → A) ∧ (¬ x < y → B) := by
  subst hx hy
  rw [nI_ltI ha hb]
  exact ⟨f, fun z => g (by omega)⟩
theorem pk_eq {x y : Int32} {A B : Prop} (a b : Nat) (f : a = b → A) (g : a ≠ b → B) (hx : x = nI a := by rfl) (hy : y = nI b := by rfl) (ha : a < 2 ^ 31 := by omega) (hb : b < 2 ^ 31 := by omega) : (x = y → A) ∧ (¬ x = y → B) := by
  subst hx hy
  rw [nI_eq ha hb]
  exact ⟨f, g⟩
theorem pk_in {x : Int32} (n N : Nat) (h : n < N) (hx : x = nI n := by rfl) (hN : N < 2 ^ 31 := by omega) : vp_in x N := by
  subst hx
  exact vp_in_nI h hN
theorem pk_cl {x : Int32} (n : Nat) (hx : x = nI n := by rfl) (h : n < 2 ^ 31 := by omega) : x.toNatClampNeg = n := by
  subst hx
  exact nI_clamp h
theorem pk_loop {σ : Type} (W : Nat → Nat → σ → Prop) (I : Nat → σ → Prop) (e i0 : Nat) (s : σ) (hi : i0 ≤ e) (h0 : I i0 s) (hx : ∀ n s, I e s → W (n + 1) e s)
    (hs : ∀ n i s, i < e → I i s → (∀ s', I (i + 1) s' → W n (i + 1) s') → W (n + 1) i s) : ∃ n, W n i0 s :=
  ⟨e + 1, loop_i W I e hx hs (e + 1) i0 s hi (by omega) h0⟩
theorem pk_loopD {σ : Type} (W : Nat → Nat → σ → Prop) (I : Nat → σ → Prop) (hx : ∀ n s, I 0 s → W (n + 1) 0 s)
    (hs : ∀ n i s, I (i + 1) s → (∀ s', I i s' → W n i s') → W (n + 1) (i + 1) s) : ∀ (e : Nat) (s : σ), I e s → W (e + 1) e s := by
  intro e
  induction e with
  | zero => exact fun s h => hx 0 s h
  | succ e ih => exact fun s h => hs (e + 1) e s h (fun s' h' => ih s' h')
theorem sb_m1 {p : Nat} (h : 0 < p) : nI p + (-1) = nI (p - 1) := by
  obtain ⟨q, rfl⟩ : ∃ q, p = q + 1 := ⟨p - 1, by omega⟩
  exact pk_m1 q
theorem sb_negT {w : Nat} (h : w < 2 ^ 31) : (-nI w).toInt = -(w : Int) := by
  rw [Int32.toInt_neg, nI_toInt h]
  exact Int.bmod_eq_of_le (by omega) (by omega)
/-! blits: m cells of v laid into g from b on -/
def rt_put (g : Nat → Int32) (b m : Nat) (v : Nat → Int32) : Nat → Int32 := fun i => if b ≤ i ∧ i < b + m then v (i - b) else g i
theorem rt_put_in {g v : Nat → Int32} {b m i : Nat} (h1 : b ≤ i) (h2 : i < b + m) : rt_put g b m v i = v (i - b) := by
  unfold rt_put; rw [if_pos ⟨h1, h2⟩]
theorem rt_put_out {g v : Nat → Int32} {b m i : Nat} (h : i < b ∨ b + m ≤ i) : rt_put g b m v i = g i := by
  unfold rt_put; rw [if_neg (by omega)]
theorem rt_put_0 (g : Nat → Int32) (b : Nat) (v : Nat → Int32) : rt_put g b 0 v = g := by
  funext i; exact rt_put_out (by omega)
theorem rt_put_at {g v : Nat → Int32} {b m k : Nat} (h : k < m) : rt_put g b m v (b + k) = v k := by
  rw [rt_put_in (by omega) (by omega), Nat.add_sub_cancel_left]
theorem rt_put_s {g v : Nat → Int32} {b m : Nat} {x : Int32} (hx : x = v m) : upd (rt_put g b m v) (b + m) x = rt_put g b (m + 1) v := by
  funext i
  by_cases h : i = b + m
  · subst h
    rw [pk_us, rt_put_at (by omega), hx]
  · rw [pk_un h]
    by_cases h2 : b ≤ i ∧ i < b + m
    · rw [rt_put_in h2.1 h2.2, rt_put_in h2.1 (by omega)]
    · rw [rt_put_out (by omega), rt_put_out (by omega)]
theorem rt_put_k {g v : Nat → Int32} {b m : Nat} (hx : v m = g (b + m)) : rt_put g b m v = rt_put g b (m + 1) v := by
  funext i
  by_cases h : i = b + m
  · subst h
    rw [rt_put_out (by omega), rt_put_at (by omega), hx]
  · by_cases h2 : b ≤ i ∧ i < b + m
    · rw [rt_put_in h2.1 h2.2, rt_put_in h2.1 (by omega)]
    · rw [rt_put_out (by omega), rt_put_out (by omega)]
theorem rt_put_a {g v v' : Nat → Int32} {b m k b' : Nat} (hb : b' = b + m) (h : ∀ j, j < k → v' j = v (m + j)) : rt_put (rt_put g b m v) b' k v' = rt_put g b (m + k) v := by
  subst hb
  funext i
  by_cases h1 : b + m ≤ i ∧ i < b + m + k
  · rw [rt_put_in h1.1 h1.2, rt_put_in (by omega) (by omega), h _ (by omega)]
    congr 1; omega
  · rw [rt_put_out (by omega)]
    by_cases h2 : b ≤ i ∧ i < b + m
    · rw [rt_put_in h2.1 h2.2, rt_put_in h2.1 (by omega)]
    · rw [rt_put_out (by omega), rt_put_out (by omega)]
theorem rt_put_p {g v v' v'' : Nat → Int32} {b m k b' : Nat} (hb : b' = b + k) (h1 : ∀ j, j < k → v' j = v'' j) (h2 : ∀ j, j < m → v j = v'' (k + j)) : rt_put (rt_put g b' m v) b k v' = rt_put g b (k + m) v'' := by
  subst hb
  funext i
  by_cases z : b ≤ i ∧ i < b + k
  · rw [rt_put_in z.1 z.2, rt_put_in z.1 (by omega), h1 _ (by omega)]
  · rw [rt_put_out (by omega)]
    by_cases z2 : b + k ≤ i ∧ i < b + k + m
    · rw [rt_put_in z2.1 z2.2, rt_put_in (by omega) (by omega), h2 _ (by omega)]
      congr 1; omega
    · rw [rt_put_out (by omega), rt_put_out (by omega)]
theorem rt_put_c {g v v' : Nat → Int32} {b m : Nat} (h : ∀ j, j < m → v j = v' j) : rt_put g b m v = rt_put g b m v' := by
  funext i
  by_cases z : b ≤ i ∧ i < b + m
  · rw [rt_put_in z.1 z.2, rt_put_in z.1 z.2, h _ (by omega)]
  · rw [rt_put_out (by omega), rt_put_out (by omega)]
theorem rt_upd_put (g : Nat → Int32) (b : Nat) (x : Int32) : upd g b x = rt_put g b 1 (fun _ => x) := by
  have h := rt_put_s (g := g) (v := fun _ => x) (b := b) (m := 0) (x := x) rfl
  rw [rt_put_0] at h
  exact h
/-! booleans -/
def rt_01 (x : Int32) : Prop := x = 0 ∨ x = 1
def rt_B01 (f : Nat → Int32) : Prop := ∀ i, rt_01 (f i)
theorem rt_01_0 : rt_01 0 := Or.inl rfl
theorem rt_01_1 : rt_01 1 := Or.inr rfl
theorem rt_B_upd {f : Nat → Int32} {k : Nat} {x : Int32} (h : rt_B01 f) (hx : rt_01 x) : rt_B01 (upd f k x) := by
  intro i
  by_cases e : i = k
  · subst e; rw [pk_us]; exact hx
  · rw [pk_un e]; exact h i
theorem rt_B_put {f v : Nat → Int32} {b m : Nat} (h : rt_B01 f) (hv : ∀ j, j < m → rt_01 (v j)) : rt_B01 (rt_put f b m v) := by
  intro i
  by_cases z : b ≤ i ∧ i < b + m
  · rw [rt_put_in z.1 z.2]; exact hv _ (by omega)
  · rw [rt_put_out (by omega)]; exact h i
/-! numbers -/
theorem rt_ix (r c : Nat) : nI r * 16 + nI c = nI (r * 16 + c) := by
  rw [show (16 : Int32) = nI 16 from rfl, pk_mul, nI_add]
theorem rt_dm {a w c : Nat} (hc : c < w) : (a * w + c) / w = a ∧ (a * w + c) % w = c := by
  constructor
  · rw [Nat.add_comm, Nat.add_mul_div_right _ _ (by omega), Nat.div_eq_of_lt hc]; omega
  · rw [Nat.add_comm, Nat.add_mul_mod_self_right, Nat.mod_eq_of_lt hc]
theorem rt_neg {x : Int32} {n : Nat} (hn : n ≤ 16) (h0 : x < 0) (h1 : -nI n ≤ x) : ∃ j, j < n ∧ nI n + x = nI j := by
  have a : x.toInt < 0 := by
    have := Int32.lt_iff_toInt_lt.mp h0
    rwa [show (0 : Int32).toInt = 0 from by decide] at this
  have b : -(n : Int) ≤ x.toInt := by
    have := Int32.le_iff_toInt_le.mp h1
    rwa [sb_negT (by omega)] at this
  refine ⟨((n : Int) + x.toInt).toNat, by omega, ?_⟩
  apply Int32.toInt_inj.mp
  rw [Int32.toInt_add, nI_toInt (by omega), nI_toInt (by omega)]
  rw [Int.bmod_eq_of_le (by omega) (by omega)]
  omega
theorem rt_nneg {x : Int32} {n : Nat} (hn : n ≤ 16) (h0 : ¬ x < 0) : -nI n ≤ x := by
  obtain ⟨j, hj, rfl⟩ := nI_of h0
  rw [Int32.le_iff_toInt_le, sb_negT (by omega), nI_toInt hj]
  omega
theorem rt_nar0 : vp_nar .boolean 0 = 0 := rfl
theorem rt_nar1 : vp_nar .boolean 1 = 1 := rfl
theorem rt_nar {x : Int32} (h : rt_01 x) : vp_nar .boolean x = x := by rcases h with rfl | rfl <;> rfl
theorem rt_nb {x : Int32} (h : rt_01 x) : narrow .boolean (.int x) = .int x := by rcases h with rfl | rfl <;> rfl
theorem rt_us {a : Nat → Int32} {e v v' : Int32} {k : Nat} (he : e = nI k) (hk : k < 2 ^ 31) (hv : v = v') : upd a e.toNatClampNeg v = upd a k v' := by
  subst he; rw [nI_clamp hk, hv]
theorem rt_rd {a : Nat → Int32} {e : Int32} {k : Nat} (he : e = nI k) (hk : k < 2 ^ 31) : a e.toNatClampNeg = a k := by
  subst he; rw [nI_clamp hk]
theorem rt_loop2 {σ τ : Type} (W : Nat → Nat → σ → τ → Prop) (I : Nat → σ → τ → Prop) (e i0 : Nat) (s : σ) (t : τ) (hi : i0 ≤ e) (h0 : I i0 s t) (hx : ∀ n s t, I e s t → W (n + 1) e s t) (hs : ∀ n i s t, i < e → I i s t → (∀ s' t', I (i + 1) s' t' → W n (i + 1) s' t') → W (n + 1) i s t) : ∃ n, W n i0 s t :=
  pk_loop (fun n i (q : σ × τ) => W n i q.1 q.2) (fun i q => I i q.1 q.2) e i0 (s, t) hi h0 (fun n q H => hx n q.1 q.2 H) (fun n i q hi H K => hs n i q.1 q.2 hi H (fun s' t' H' => K (s', t') H'))
theorem rt_loopD2 {σ τ : Type} (W : Nat → Nat → σ → τ → Prop) (I : Nat → σ → τ → Prop) (hx : ∀ n s t, I 0 s t → W (n + 1) 0 s t) (hs : ∀ n i s t, I (i + 1) s t → (∀ s' t', I i s' t' → W n i s' t') → W (n + 1) (i + 1) s t) (e : Nat) (s : σ) (t : τ) (h0 : I e s t) : W (e + 1) e s t :=
  pk_loopD (fun n i (q : σ × τ) => W n i q.1 q.2) (fun i q => I i q.1 q.2) (fun n q H => hx n q.1 q.2 H) (fun n i q H K => hs n i q.1 q.2 H (fun s' t' H' => K (s', t') H')) e (s, t) h0
theorem rt_loop3 {σ τ υ : Type} (W : Nat → Nat → σ → τ → υ → Prop) (I : Nat → σ → τ → υ → Prop) (e i0 : Nat) (s : σ) (t : τ) (u : υ) (hi : i0 ≤ e) (h0 : I i0 s t u) (hx : ∀ n s t u, I e s t u → W (n + 1) e s t u) (hs : ∀ n i s t u, i < e → I i s t u → (∀ s' t' u', I (i + 1) s' t' u' → W n (i + 1) s' t' u') → W (n + 1) i s t u) : ∃ n, W n i0 s t u :=
  pk_loop (fun n i (q : σ × τ × υ) => W n i q.1 q.2.1 q.2.2) (fun i q => I i q.1 q.2.1 q.2.2) e i0 (s, t, u) hi h0 (fun n q H => hx n q.1 q.2.1 q.2.2 H) (fun n i q hi H K => hs n i q.1 q.2.1 q.2.2 hi H (fun s' t' u' H' => K (s', t', u') H'))
end
section
/-! the lines of a main buffer: f the rows' flags, T the number of rows, L r the line of row r, V l the first row of line l -/
def rt_L (f : Nat → Int32) : Nat → Nat
  | 0 => 0
  | r + 1 => if f r = 0 then rt_L f r + 1 else rt_L f r
theorem rt_L_z {f : Nat → Int32} {r : Nat} (h : f r = 0) : rt_L f (r + 1) = rt_L f r + 1 := by rw [rt_L, if_pos h]
theorem rt_L_n {f : Nat → Int32} {r : Nat} (h : ¬ f r = 0) : rt_L f (r + 1) = rt_L f r := by rw [rt_L, if_neg h]
theorem rt_L_s (f : Nat → Int32) (r : Nat) : rt_L f r ≤ rt_L f (r + 1) ∧ rt_L f (r + 1) ≤ rt_L f r + 1 := by
  by_cases h : f r = 0
  · rw [rt_L_z h]; omega
  · rw [rt_L_n h]; omega
theorem rt_L_m (f : Nat → Int32) {a b : Nat} (h : a ≤ b) : rt_L f a ≤ rt_L f b := by
  induction b with
  | zero =>
    have e : a = 0 := by omega
    subst e; exact Nat.le_refl _
  | succ b ih =>
    by_cases e : a = b + 1
    · subst e; exact Nat.le_refl _
    · exact Nat.le_trans (ih (by omega)) (rt_L_s f b).1
theorem rt_L_le (f : Nat → Int32) (r : Nat) : rt_L f r ≤ r := by
  induction r with
  | zero => exact Nat.le_refl _
  | succ r ih => have := (rt_L_s f r).2; omega
theorem rt_L_ex (f : Nat → Int32) {l r : Nat} (h : l ≤ rt_L f r) : ∃ j, j ≤ r ∧ rt_L f j = l := by
  induction r with
  | zero => exact ⟨0, Nat.le_refl _, by have : rt_L f 0 = 0 := rfl; omega⟩
  | succ r ih =>
    by_cases e : l ≤ rt_L f r
    · obtain ⟨j, hj, ej⟩ := ih e
      exact ⟨j, by omega, ej⟩
    · exact ⟨r + 1, Nat.le_refl _, by have := (rt_L_s f r).2; omega⟩
def rt_V (f : Nat → Int32) : Nat → Nat → Nat
  | 0, _ => 0
  | T + 1, l => if rt_L f T < l then rt_V f T l + 1 else rt_V f T l
theorem rt_V_t {f : Nat → Int32} {T l : Nat} (h : rt_L f T < l) : rt_V f (T + 1) l = rt_V f T l + 1 := by rw [rt_V, if_pos h]
theorem rt_V_f {f : Nat → Int32} {T l : Nat} (h : ¬ rt_L f T < l) : rt_V f (T + 1) l = rt_V f T l := by rw [rt_V, if_neg h]
theorem rt_V_le (f : Nat → Int32) (T l : Nat) : rt_V f T l ≤ T := by
  induction T with
  | zero => exact Nat.le_refl _
  | succ T ih =>
    by_cases h : rt_L f T < l
    · rw [rt_V_t h]; omega
    · rw [rt_V_f h]; omega
theorem rt_V_iff (f : Nat → Int32) (T l : Nat) : ∀ r, r < T → (r < rt_V f T l ↔ rt_L f r < l) := by
  induction T with
  | zero => intro r hr; omega
  | succ T ih =>
    intro r hr
    have hle := rt_V_le f T l
    by_cases h : rt_L f T < l
    · rw [rt_V_t h]
      have full : rt_V f T l = T := by
        rcases Nat.lt_or_ge (rt_V f T l) T with z | z
        · have m := rt_L_m f (Nat.le_of_lt z)
          have := (ih _ z).mpr (by omega)
          omega
        · omega
      have m := rt_L_m f (show r ≤ T by omega)
      constructor
      · intro _; omega
      · intro _; omega
    · rw [rt_V_f h]
      by_cases e : r = T
      · subst e
        constructor
        · intro z; omega
        · intro z; omega
      · exact ih r (by omega)
theorem rt_V_eq {f : Nat → Int32} {T l r : Nat} (hr : r ≤ T) (h1 : ∀ j, j < r → rt_L f j < l) (h2 : ∀ j, r ≤ j → j < T → ¬ rt_L f j < l) : rt_V f T l = r := by
  have hle := rt_V_le f T l
  rcases Nat.lt_trichotomy (rt_V f T l) r with z | z | z
  · have := (rt_V_iff f T l (rt_V f T l) (by omega)).mpr (h1 _ z)
    omega
  · exact z
  · have := (rt_V_iff f T l r (by omega)).mp z
    exact absurd this (h2 r (Nat.le_refl _) (by omega))
theorem rt_V_0 (f : Nat → Int32) (T : Nat) : rt_V f T 0 = 0 := rt_V_eq (Nat.zero_le _) (fun j hj => by omega) (fun j _ _ => by omega)
theorem rt_V_st {f : Nat → Int32} {T r : Nat} (hr : r < T) (h : f r = 0) (hT : r + 1 < T) : rt_V f T (rt_L f (r + 1)) = r + 1 := by
  refine rt_V_eq (by omega) (fun j hj => ?_) (fun j hj _ => ?_)
  · have := rt_L_m f (show j ≤ r by omega)
    rw [rt_L_z h]; omega
  · have := rt_L_m f hj
    omega
theorem rt_V_T {f : Nat → Int32} {T l : Nat} (h0 : 0 < T) (h : rt_L f (T - 1) < l) : rt_V f T l = T := by
  refine rt_V_eq (Nat.le_refl _) (fun j hj => ?_) (fun j h1 h2 => by omega)
  have := rt_L_m f (show j ≤ T - 1 by omega)
  omega
theorem rt_V_mono (f : Nat → Int32) (T : Nat) {l l' : Nat} (h : l ≤ l') : rt_V f T l ≤ rt_V f T l' := by
  rcases Nat.lt_or_ge (rt_V f T l') (rt_V f T l) with z | z
  · have hle := rt_V_le f T l
    have a := (rt_V_iff f T l (rt_V f T l') (by omega)).mp z
    have b := (rt_V_iff f T l' (rt_V f T l') (by omega)).mpr (by omega)
    omega
  · exact z
theorem rt_V_row {f : Nat → Int32} {T r : Nat} (hr : r < T) : rt_V f T (rt_L f r) ≤ r ∧ r < rt_V f T (rt_L f r + 1) := by
  have a := rt_V_iff f T (rt_L f r) r hr
  have b := rt_V_iff f T (rt_L f r + 1) r hr
  omega
theorem rt_V_in {f : Nat → Int32} {T l r : Nat} (h1 : rt_V f T l ≤ r) (h2 : r < rt_V f T (l + 1)) : r < T ∧ rt_L f r = l := by
  have hle := rt_V_le f T (l + 1)
  have hr : r < T := by omega
  have a := rt_V_iff f T l r hr
  have b := rt_V_iff f T (l + 1) r hr
  exact ⟨hr, by omega⟩
theorem rt_V_ne {f : Nat → Int32} {T l : Nat} (h0 : 0 < T) (h : l ≤ rt_L f (T - 1)) : rt_V f T l < rt_V f T (l + 1) := by
  obtain ⟨j, hj, e⟩ := rt_L_ex f h
  have := rt_V_row (f := f) (T := T) (r := j) (by omega)
  rw [e] at this
  omega
/-! the text of a line -/
def rt_len (tx : Nat → Int32) : Nat → Nat
  | 0 => 0
  | k + 1 => if tx k = 32 then rt_len tx k else k + 1
theorem rt_len_b {tx : Nat → Int32} {k : Nat} (h : tx k = 32) : rt_len tx (k + 1) = rt_len tx k := by rw [rt_len, if_pos h]
theorem rt_len_t {tx : Nat → Int32} {k : Nat} (h : ¬ tx k = 32) : rt_len tx (k + 1) = k + 1 := by rw [rt_len, if_neg h]
theorem rt_len_le (tx : Nat → Int32) (k : Nat) : rt_len tx k ≤ k := by
  induction k with
  | zero => exact Nat.le_refl _
  | succ k ih =>
    by_cases h : tx k = 32
    · rw [rt_len_b h]; omega
    · rw [rt_len_t h]; omega
theorem rt_len_0 {tx : Nat → Int32} {k : Nat} : rt_len tx k = 0 ↔ ∀ j, j < k → tx j = 32 := by
  induction k with
  | zero => exact ⟨fun _ j hj => by omega, fun _ => rfl⟩
  | succ k ih =>
    by_cases h : tx k = 32
    · rw [rt_len_b h, ih]
      exact ⟨fun H j hj => by
        by_cases e : j = k
        · rw [e]; exact h
        · exact H j (by omega), fun H j hj => H j (by omega)⟩
    · rw [rt_len_t h]
      exact ⟨fun z => by omega, fun H => absurd (H k (by omega)) h⟩
theorem rt_len_c {tx tx' : Nat → Int32} {k : Nat} (h : ∀ j, j < k → tx j = tx' j) : rt_len tx k = rt_len tx' k := by
  induction k with
  | zero => rfl
  | succ k ih =>
    have e := h k (by omega)
    by_cases z : tx k = 32
    · rw [rt_len_b z, rt_len_b (e ▸ z), ih (fun j hj => h j (by omega))]
    · rw [rt_len_t z, rt_len_t (e ▸ z)]
def rt_tx (g : Nat → Int32) (w s : Nat) : Nat → Int32 := fun j => g ((s + j / w) * 16 + j % w)
/-- the length of line l's text -/
def rt_ln (g f : Nat → Int32) (w T l : Nat) : Nat := rt_len (rt_tx g w (rt_V f T l)) ((rt_V f T (l + 1) - rt_V f T l) * w)
def rt_hT (g : Nat → Int32) (w r : Nat) : Prop := ∃ c, c < w ∧ ¬ g (r * 16 + c) = 32
theorem rt_ln_row {g f : Nat → Int32} {w T l : Nat} (hw : 0 < w) : ¬ rt_ln g f w T l = 0 ↔ ∃ r, r < T ∧ rt_L f r = l ∧ rt_hT g w r := by
  constructor
  · intro h
    apply Classical.byContradiction
    intro H
    apply h
    refine rt_len_0.mpr (fun j hj => ?_)
    apply Classical.byContradiction
    intro hx
    have hq : j / w < rt_V f T (l + 1) - rt_V f T l := Nat.div_lt_of_lt_mul (by rw [Nat.mul_comm]; exact hj)
    have hin := rt_V_in (f := f) (T := T) (l := l) (r := rt_V f T l + j / w) (Nat.le_add_right _ _) (Nat.add_lt_of_lt_sub' hq)
    exact H ⟨_, hin.1, hin.2, j % w, Nat.mod_lt _ hw, hx⟩
  · rintro ⟨r, hr, e, c, hc, hx⟩ h
    have hrow := rt_V_row (f := f) hr
    rw [e] at hrow
    have d := rt_dm (a := r - rt_V f T l) hc
    have key := rt_len_0.mp h ((r - rt_V f T l) * w + c) (by
      have : (r - rt_V f T l + 1) * w ≤ (rt_V f T (l + 1) - rt_V f T l) * w := Nat.mul_le_mul_right _ (by omega)
      rw [Nat.add_mul] at this
      omega)
    unfold rt_tx at key
    rw [d.1, d.2, show rt_V f T l + (r - rt_V f T l) = r by omega] at key
    exact hx key
/-! the number of lines that count -/
noncomputable def rt_C (f : Nat → Int32) (P : Nat → Prop) : Nat → Nat
  | 0 => 0
  | r + 1 => @ite Nat (P r) (Classical.propDecidable _) (rt_L f r + 1) (rt_C f P r)
theorem rt_C_t {f : Nat → Int32} {P : Nat → Prop} {r : Nat} (h : P r) : rt_C f P (r + 1) = rt_L f r + 1 := by rw [rt_C, if_pos h]
theorem rt_C_f {f : Nat → Int32} {P : Nat → Prop} {r : Nat} (h : ¬ P r) : rt_C f P (r + 1) = rt_C f P r := by rw [rt_C, if_neg h]
theorem rt_C_sp {f : Nat → Int32} {P : Nat → Prop} {T r : Nat} (hr : r < T) (hP : P r) : ∃ q, q < T ∧ P q ∧ rt_C f P T = rt_L f q + 1 ∧ ∀ j, q < j → j < T → ¬ P j := by
  induction T with
  | zero => omega
  | succ T ih =>
    by_cases h : P T
    · exact ⟨T, by omega, h, rt_C_t h, fun j h1 h2 => by omega⟩
    · have : r ≠ T := fun e => h (e ▸ hP)
      obtain ⟨q, hq, hPq, e, H⟩ := ih (by omega)
      refine ⟨q, by omega, hPq, by rw [rt_C_f h, e], fun j h1 h2 => ?_⟩
      by_cases ej : j = T
      · rw [ej]; exact h
      · exact H j h1 (by omega)
def rt_M (g f : Nat → Int32) (w T ci m : Nat) : Prop :=
  rt_L f ci < m ∧ m ≤ rt_L f (T - 1) + 1 ∧ (∀ l, m ≤ l → l ≤ rt_L f (T - 1) → rt_ln g f w T l = 0) ∧ (m = rt_L f ci + 1 ∨ ¬ rt_ln g f w T (m - 1) = 0)
theorem rt_M_u {g f : Nat → Int32} {w T ci m m' : Nat} (h : rt_M g f w T ci m) (h' : rt_M g f w T ci m') : m = m' := by
  obtain ⟨a1, a2, a3, a4⟩ := h
  obtain ⟨b1, b2, b3, b4⟩ := h'
  rcases Nat.lt_trichotomy m m' with z | z | z
  · rcases b4 with e | e
    · omega
    · exact absurd (a3 (m' - 1) (by omega) (by omega)) e
  · exact z
  · rcases a4 with e | e
    · omega
    · exact absurd (b3 (m - 1) (by omega) (by omega)) e
/-- X's count of lines -/
noncomputable def rt_N (g f : Nat → Int32) (w T ci : Nat) : Nat := rt_C f (fun r => r = ci ∨ rt_hT g w r) T
theorem rt_N_M {g f : Nat → Int32} {w T ci : Nat} (hw : 0 < w) (hc : ci < T) : rt_M g f w T ci (rt_N g f w T ci) := by
  obtain ⟨q, hq, hP, e, H⟩ := rt_C_sp (f := f) (P := fun r => r = ci ∨ rt_hT g w r) hc (Or.inl rfl)
  have e' : rt_N g f w T ci = rt_L f q + 1 := e
  have hci : ci ≤ q := by
    rcases Nat.lt_or_ge q ci with z | z
    · exact absurd (show ci = ci ∨ rt_hT g w ci from Or.inl rfl) (H ci z hc)
    · exact z
  have m1 := rt_L_m f hci
  have m2 := rt_L_m f (show q ≤ T - 1 by omega)
  refine ⟨by omega, by omega, fun l h1 h2 => ?_, ?_⟩
  · apply Classical.byContradiction
    intro z
    obtain ⟨r, hr, el, ht⟩ := (rt_ln_row hw).mp z
    rcases Nat.lt_or_ge q r with y | y
    · exact H r y hr (show r = ci ∨ rt_hT g w r from Or.inr ht)
    · have := rt_L_m f y
      omega
  · rcases hP with z | z
    · left; rw [e', z]
    · right
      rw [e', Nat.add_sub_cancel]
      exact (rt_ln_row hw).mpr ⟨q, hq, rfl, z⟩
/-! the reference's table of lines over the first i rows: k lines, their first rows, their numbers of rows -/
def rt_yl (f : Nat → Int32) (i k : Nat) (ls lr : Nat → Int32) : Prop :=
  (i = 0 → k = 0) ∧ (0 < i → k = rt_L f (i - 1) + 1) ∧ ∀ l, l < k → ls l = nI (rt_V f i l) ∧ lr l = nI (rt_V f i (l + 1) - rt_V f i l)
theorem rt_yl_0 (f ls lr : Nat → Int32) : rt_yl f 0 0 ls lr := ⟨fun _ => rfl, fun h => by omega, fun l h => by omega⟩
theorem rt_yl_k {f : Nat → Int32} {i k : Nat} {ls lr : Nat → Int32} (H : rt_yl f i k ls lr) : k ≤ i := by
  rcases Nat.eq_zero_or_pos i with h | h
  · have := H.1 h; omega
  · have a := H.2.1 h
    have b := rt_L_le f (i - 1)
    omega
theorem rt_yl_new {f : Nat → Int32} {i k : Nat} {ls lr : Nat → Int32} (H : rt_yl f i k ls lr) (h : i = 0 ∨ f (i - 1) = 0) : rt_yl f (i + 1) (k + 1) (upd ls k (nI i)) (upd lr k (nI 1)) := by
  obtain ⟨a, b, c⟩ := H
  have hL : rt_L f i = k := by
    rcases h with h | h
    · subst h; rw [a rfl]; rfl
    · rcases Nat.eq_zero_or_pos i with z | z
      · subst z; rw [a rfl]; rfl
      · obtain ⟨j, rfl⟩ : ∃ j, i = j + 1 := ⟨i - 1, by omega⟩
        rw [Nat.add_sub_cancel] at h b
        rw [rt_L_z h, b (by omega)]
  refine ⟨fun z => by omega, fun _ => by rw [Nat.add_sub_cancel, hL], fun l hl => ?_⟩
  by_cases e : l = k
  · subst e
    have e1 : rt_V f (i + 1) l = i := by
      rw [rt_V_f (T := i) (l := l) (by omega)]
      rcases Nat.eq_zero_or_pos i with z | z
      · subst z; rfl
      · exact rt_V_T z (by have := b z; omega)
    have e2 : rt_V f (i + 1) (l + 1) = i + 1 := rt_V_T (by omega) (by rw [Nat.add_sub_cancel]; omega)
    rw [pk_us, pk_us, e1, e2, show i + 1 - i = 1 by omega]
    exact ⟨rfl, rfl⟩
  · rw [pk_un e, pk_un e, rt_V_f (T := i) (l := l) (by omega), rt_V_f (T := i) (l := l + 1) (by omega)]
    exact c l (by omega)
theorem rt_yl_old {f : Nat → Int32} {i k : Nat} {ls lr : Nat → Int32} (H : rt_yl f i k ls lr) (h0 : 0 < i) (h : ¬ f (i - 1) = 0) : rt_yl f (i + 1) k ls (upd lr (k - 1) (lr (k - 1) + 1)) := by
  obtain ⟨a, b, c⟩ := H
  obtain ⟨j, rfl⟩ : ∃ j, i = j + 1 := ⟨i - 1, by omega⟩
  rw [Nat.add_sub_cancel] at h b
  have hk := b (by omega)
  have hL : rt_L f (j + 1) = k - 1 := by rw [rt_L_n h]; omega
  refine ⟨fun z => by omega, fun _ => by rw [Nat.add_sub_cancel, hL]; omega, fun l hl => ?_⟩
  have cl := c l hl
  by_cases e : l = k - 1
  · subst e
    rw [pk_us, rt_V_f (T := j + 1) (l := k - 1) (by omega), rt_V_t (T := j + 1) (l := k - 1 + 1) (by omega)]
    refine ⟨cl.1, ?_⟩
    have m := rt_V_mono f (j + 1) (show k - 1 ≤ k - 1 + 1 by omega)
    rw [cl.2, nI_1]
    congr 1
    omega
  · rw [pk_un e, rt_V_f (T := j + 1) (l := l) (by omega), rt_V_f (T := j + 1) (l := l + 1) (by omega)]
    exact cl
end
section
/-! the reflow: R l rows for line l, from row B l on -/
def rt_mx (a b : Nat) : Nat := if a < b then b else a
theorem rt_mx_lt {a b : Nat} (h : a < b) : rt_mx a b = b := if_pos h
theorem rt_mx_ge {a b : Nat} (h : b ≤ a) : rt_mx a b = a := if_neg (by omega)
theorem rt_mx_sp (a b : Nat) : (a < b ∧ rt_mx a b = b) ∨ (b ≤ a ∧ rt_mx a b = a) := by
  rcases Nat.lt_or_ge a b with h | h
  · exact Or.inl ⟨h, rt_mx_lt h⟩
  · exact Or.inr ⟨h, rt_mx_ge h⟩
def rt_R0 (w2 n : Nat) : Nat := rt_mx 1 ((n + w2 - 1) / w2)
def rt_R (LN : Nat → Nat) (w2 cl ck l : Nat) : Nat := if l = cl then rt_mx (rt_R0 w2 (LN l)) (ck / w2 + 1) else rt_R0 w2 (LN l)
theorem rt_R_c {LN : Nat → Nat} {w2 cl ck : Nat} : rt_R LN w2 cl ck cl = rt_mx (rt_R0 w2 (LN cl)) (ck / w2 + 1) := if_pos rfl
theorem rt_R_n {LN : Nat → Nat} {w2 cl ck l : Nat} (h : l ≠ cl) : rt_R LN w2 cl ck l = rt_R0 w2 (LN l) := if_neg h
theorem rt_R0_le {w w2 k n : Nat} (hw : w ≤ 16) (h2 : 4 ≤ w2) (hk : 1 ≤ k) (hn : n ≤ k * w) : rt_R0 w2 n ≤ 4 * k := by
  have a : k * w ≤ k * 16 := Nat.mul_le_mul_left _ hw
  have b : 4 * k * 4 ≤ 4 * k * w2 := Nat.mul_le_mul_left _ h2
  have c : (n + w2 - 1) / w2 < 4 * k + 1 := by
    apply Nat.div_lt_of_lt_mul
    rw [Nat.mul_comm, Nat.add_mul]
    omega
  unfold rt_R0
  rcases rt_mx_sp 1 ((n + w2 - 1) / w2) with h | h <;> omega
theorem rt_ck_le {w w2 k ck : Nat} (hw : w ≤ 16) (h2 : 4 ≤ w2) (hn : ck < k * w) : ck / w2 < 4 * k := by
  have a : k * w ≤ k * 16 := Nat.mul_le_mul_left _ hw
  have b : 4 * k * 4 ≤ 4 * k * w2 := Nat.mul_le_mul_left _ h2
  apply Nat.div_lt_of_lt_mul
  rw [Nat.mul_comm]
  omega
theorem rt_R_le {LN : Nat → Nat} {w w2 k cl ck l : Nat} (hw : w ≤ 16) (h2 : 4 ≤ w2) (hk : 1 ≤ k) (hn : LN l ≤ k * w) (hc : l = cl → ck < k * w) : rt_R LN w2 cl ck l ≤ 4 * k := by
  have a := rt_R0_le hw h2 hk hn
  by_cases h : l = cl
  · have b := rt_ck_le hw h2 (hc h)
    unfold rt_R
    rw [if_pos h]
    rcases rt_mx_sp (rt_R0 w2 (LN l)) (ck / w2 + 1) with z | z <;> omega
  · rw [rt_R_n h]; exact a
theorem rt_R0_pos (w2 n : Nat) : 1 ≤ rt_R0 w2 n := by
  unfold rt_R0
  rcases rt_mx_sp 1 ((n + w2 - 1) / w2) with h | h <;> omega
theorem rt_R_pos (LN : Nat → Nat) (w2 cl ck l : Nat) : 1 ≤ rt_R LN w2 cl ck l := by
  have a := rt_R0_pos w2 (LN l)
  unfold rt_R
  by_cases h : l = cl
  · rw [if_pos h]
    rcases rt_mx_sp (rt_R0 w2 (LN l)) (ck / w2 + 1) with z | z <;> omega
  · rw [if_neg h]; exact a
theorem rt_R_cur (LN : Nat → Nat) (w2 cl ck : Nat) : ck / w2 < rt_R LN w2 cl ck cl := by
  rw [rt_R_c]
  rcases rt_mx_sp (rt_R0 w2 (LN cl)) (ck / w2 + 1) with z | z <;> omega
def rt_Bs (R : Nat → Nat) : Nat → Nat
  | 0 => 0
  | l + 1 => rt_Bs R l + R l
theorem rt_Bs_s (R : Nat → Nat) (l : Nat) : rt_Bs R (l + 1) = rt_Bs R l + R l := rfl
theorem rt_Bs_m {R : Nat → Nat} {l m : Nat} (h : l < m) : rt_Bs R l + R l ≤ rt_Bs R m := by
  induction m with
  | zero => omega
  | succ m ih =>
    rw [rt_Bs_s]
    by_cases e : l = m
    · rw [e]; exact Nat.le_refl _
    · have := ih (by omega); omega
theorem rt_Bs_le {R V : Nat → Nat} {m : Nat} (hm : ∀ l, l < m → V l ≤ V (l + 1)) (h : ∀ l, l < m → R l ≤ 4 * (V (l + 1) - V l)) : rt_Bs R m ≤ 4 * V m := by
  induction m with
  | zero => exact Nat.zero_le _
  | succ m ih =>
    have a := ih (fun l hl => hm l (by omega)) (fun l hl => h l (by omega))
    have b := h m (by omega)
    have c := hm m (by omega)
    rw [rt_Bs_s]
    omega
def rt_val (tx : Nat → Int32) (len w2 j c : Nat) : Int32 := if c < w2 ∧ j * w2 + c < len then tx (j * w2 + c) else 32
theorem rt_val_t {tx : Nat → Int32} {len w2 j c : Nat} (h1 : c < w2) (h2 : j * w2 + c < len) : rt_val tx len w2 j c = tx (j * w2 + c) := if_pos ⟨h1, h2⟩
theorem rt_val_w {tx : Nat → Int32} {len w2 j c : Nat} (h1 : w2 ≤ c) : rt_val tx len w2 j c = 32 := if_neg (by omega)
theorem rt_val_l {tx : Nat → Int32} {len w2 j c : Nat} (h1 : len ≤ j * w2 + c) : rt_val tx len w2 j c = 32 := if_neg (by omega)
def rt_rowv (tx : Nat → Int32) (len w2 : Nat) : Nat → Int32 := fun i => rt_val tx len w2 (i / 16) (i % 16)
def rt_flg (R : Nat) : Nat → Int32 := fun j => if j + 1 < R then 1 else 0
theorem rt_rowv_at (tx : Nat → Int32) (len w2 j c : Nat) (hc : c < 16) : rt_rowv tx len w2 (j * 16 + c) = rt_val tx len w2 j c := by
  unfold rt_rowv
  rw [show (j * 16 + c) / 16 = j by omega, show (j * 16 + c) % 16 = c by omega]
/-- a line's rows laid into the flow -/
def rt_fa (TX : Nat → Nat → Int32) (LN R : Nat → Nat) (w2 : Nat) (A : Nat → Int32) : Nat → Nat → Int32
  | 0 => A
  | m + 1 => rt_put (rt_fa TX LN R w2 A m) (rt_Bs R m * 16) (R m * 16) (rt_rowv (TX m) (LN m) w2)
def rt_ff (R : Nat → Nat) (A : Nat → Int32) : Nat → Nat → Int32
  | 0 => A
  | m + 1 => rt_put (rt_ff R A m) (rt_Bs R m) (R m) (rt_flg (R m))
theorem rt_fa_s (TX : Nat → Nat → Int32) (LN R : Nat → Nat) (w2 : Nat) (A : Nat → Int32) (m : Nat) : rt_fa TX LN R w2 A (m + 1) = rt_put (rt_fa TX LN R w2 A m) (rt_Bs R m * 16) (R m * 16) (rt_rowv (TX m) (LN m) w2) := rfl
theorem rt_ff_s (R : Nat → Nat) (A : Nat → Int32) (m : Nat) : rt_ff R A (m + 1) = rt_put (rt_ff R A m) (rt_Bs R m) (R m) (rt_flg (R m)) := rfl
theorem rt_fa_u {TX : Nat → Nat → Int32} {LN R : Nat → Nat} {w2 : Nat} (A A' : Nat → Int32) (m : Nat) : ∀ i, i < rt_Bs R m * 16 → rt_fa TX LN R w2 A m i = rt_fa TX LN R w2 A' m i := by
  induction m with
  | zero => intro i hi; rw [show rt_Bs R 0 = 0 from rfl] at hi; omega
  | succ m ih =>
    intro i hi
    rw [rt_Bs_s, Nat.add_mul] at hi
    rw [rt_fa_s, rt_fa_s]
    by_cases h : rt_Bs R m * 16 ≤ i
    · rw [rt_put_in h hi, rt_put_in h hi]
    · rw [rt_put_out (by omega), rt_put_out (by omega)]
      exact ih i (by omega)
theorem rt_ff_u {R : Nat → Nat} (A A' : Nat → Int32) (m : Nat) : ∀ i, i < rt_Bs R m → rt_ff R A m i = rt_ff R A' m i := by
  induction m with
  | zero => intro i hi; rw [show rt_Bs R 0 = 0 from rfl] at hi; omega
  | succ m ih =>
    intro i hi
    rw [rt_Bs_s] at hi
    rw [rt_ff_s, rt_ff_s]
    by_cases h : rt_Bs R m ≤ i
    · rw [rt_put_in h hi, rt_put_in h hi]
    · rw [rt_put_out (by omega), rt_put_out (by omega)]
      exact ih i (by omega)
theorem rt_flg01 (R j : Nat) : rt_01 (rt_flg R j) := by
  unfold rt_flg
  by_cases h : j + 1 < R
  · rw [if_pos h]; exact rt_01_1
  · rw [if_neg h]; exact rt_01_0
theorem rt_ff01 {R : Nat → Nat} {A : Nat → Int32} (hA : rt_B01 A) (m : Nat) : rt_B01 (rt_ff R A m) := by
  induction m with
  | zero => exact hA
  | succ m ih => exact rt_B_put ih (fun j _ => rt_flg01 _ j)
end
section
/-! segments: g from b on is sc from c on, m cells -/
def rt_sg (g sc : Nat → Int32) (b c m : Nat) : Prop := ∀ i, i < m → g (b + i) = sc (c + i)
theorem rt_cg {g sc : Nat → Int32} {b c m p q : Nat} (H : rt_sg g sc b c m) (h1 : b ≤ p) (h2 : p < b + m) (h3 : q + b = p + c) : g p = sc q := by
  obtain ⟨i, rfl⟩ : ∃ i, p = b + i := ⟨p - b, by omega⟩
  have e : q = c + i := by omega
  subst e
  exact H i (by omega)
def rt_shC (g : Nat → Int32) (a b : Nat) : Nat → Int32 := fun i => if a * 16 ≤ i ∧ i < b * 16 then g (i + 16) else if b * 16 ≤ i ∧ i < b * 16 + 16 then 32 else g i
def rt_shF (f : Nat → Int32) (a b : Nat) : Nat → Int32 := fun i => if a ≤ i ∧ i < b then f (i + 1) else if i = b then 0 else f i
def rt_grC (g : Nat → Int32) (o e : Nat) : Nat → Int32 := fun i => if (o + 1) * 16 ≤ i ∧ i < (e + 1) * 16 then g (i - 16) else if o * 16 ≤ i ∧ i < o * 16 + 16 then 32 else g i
def rt_grF (f : Nat → Int32) (o e : Nat) : Nat → Int32 := fun i => if o + 1 ≤ i ∧ i < e + 1 then f (i - 1) else if i = o then 0 else f i
/-- the cells of the two sides; the flags of the two sides -/
def rt_Mc (w h n : Nat) (g sb sc : Nat → Int32) : Prop := rt_sg g sb 0 0 (n * 16) ∧ rt_sg g sc (n * 16) 0 (h * 16) ∧ rt_sg g sc 384 128 128 ∧ (∀ i, i < 128 → (h ≤ i / 16 ∨ w ≤ i % 16) → g (384 + i) = 32)
def rt_Mf (h n : Nat) (f sbf scf : Nat → Int32) : Prop := rt_sg f sbf 0 0 n ∧ rt_sg f scf n 0 h ∧ rt_sg f scf 24 8 8 ∧ rt_B01 f ∧ rt_B01 sbf ∧ rt_B01 scf
theorem rt_B_shF {f : Nat → Int32} (h : rt_B01 f) (a b : Nat) : rt_B01 (rt_shF f a b) := by
  intro i
  unfold rt_shF
  split
  · exact h _
  · split
    · exact rt_01_0
    · exact h _
theorem rt_B_grF {f : Nat → Int32} (h : rt_B01 f) (a b : Nat) : rt_B01 (rt_grF f a b) := by
  intro i
  unfold rt_grF
  split
  · exact h _
  · split
    · exact rt_01_0
    · exact h _
theorem rt_Mc_w0 {w h n : Nat} {g sb sc : Nat → Int32} (H : rt_Mc w h n g sb sc) (hw : w ≤ 16) (hh : h ≤ 8) (hn : n ≤ 16) {y x : Nat} {c : Int32} (hy : y < h) (hx : x < 16) : rt_Mc w h n (upd g ((n + y) * 16 + x) c) (sb) (upd sc (y * 16 + x) c) := by
  obtain ⟨h1, h2, h3, h4⟩ := H
  refine ⟨fun i hi => ?_, fun i hi => ?_, fun i hi => ?_, fun i hi hb => ?_⟩ <;> simp only [rt_put, upd, rt_shC, rt_shF, rt_grC, rt_grF] <;> repeat' split
  all_goals (first | omega | rfl | exact rt_cg h1 (by omega) (by omega) (by omega) | exact rt_cg h2 (by omega) (by omega) (by omega) | exact rt_cg h3 (by omega) (by omega) (by omega) | exact h4 _ (by omega) (by omega))
theorem rt_Mc_w1 {w h n : Nat} {g sb sc : Nat → Int32} (H : rt_Mc w h n g sb sc) (hw : w ≤ 16) (hh : h ≤ 8) (hn : n ≤ 16) {y x : Nat} {c : Int32} (hy : y < h) (hx : x < w) : rt_Mc w h n (upd g ((24 + y) * 16 + x) c) (sb) (upd sc (128 + y * 16 + x) c) := by
  obtain ⟨h1, h2, h3, h4⟩ := H
  refine ⟨fun i hi => ?_, fun i hi => ?_, fun i hi => ?_, fun i hi hb => ?_⟩ <;> simp only [rt_put, upd, rt_shC, rt_shF, rt_grC, rt_grF] <;> repeat' split
  all_goals (first | omega | rfl | exact rt_cg h1 (by omega) (by omega) (by omega) | exact rt_cg h2 (by omega) (by omega) (by omega) | exact rt_cg h3 (by omega) (by omega) (by omega) | exact h4 _ (by omega) (by omega))
theorem rt_Mc_e0 {w h n : Nat} {g sb sc : Nat → Int32} (H : rt_Mc w h n g sb sc) (hw : w ≤ 16) (hh : h ≤ 8) (hn : n ≤ 16) {y a m : Nat} (hy : y < h) (hx : a + m ≤ 16) : rt_Mc w h n (rt_put g ((n + y) * 16 + a) m (fun _ => 32)) (sb) (rt_put sc (y * 16 + a) m (fun _ => 32)) := by
  obtain ⟨h1, h2, h3, h4⟩ := H
  refine ⟨fun i hi => ?_, fun i hi => ?_, fun i hi => ?_, fun i hi hb => ?_⟩ <;> simp only [rt_put, upd, rt_shC, rt_shF, rt_grC, rt_grF] <;> repeat' split
  all_goals (first | omega | rfl | exact rt_cg h1 (by omega) (by omega) (by omega) | exact rt_cg h2 (by omega) (by omega) (by omega) | exact rt_cg h3 (by omega) (by omega) (by omega) | exact h4 _ (by omega) (by omega))
theorem rt_Mc_e1 {w h n : Nat} {g sb sc : Nat → Int32} (H : rt_Mc w h n g sb sc) (hw : w ≤ 16) (hh : h ≤ 8) (hn : n ≤ 16) {y a m : Nat} (hy : y < h) (hx : a + m ≤ 16) : rt_Mc w h n (rt_put g ((24 + y) * 16 + a) m (fun _ => 32)) (sb) (rt_put sc (128 + y * 16 + a) m (fun _ => 32)) := by
  obtain ⟨h1, h2, h3, h4⟩ := H
  refine ⟨fun i hi => ?_, fun i hi => ?_, fun i hi => ?_, fun i hi hb => ?_⟩ <;> simp only [rt_put, upd, rt_shC, rt_shF, rt_grC, rt_grF] <;> repeat' split
  all_goals (first | omega | rfl | exact rt_cg h1 (by omega) (by omega) (by omega) | exact rt_cg h2 (by omega) (by omega) (by omega) | exact rt_cg h3 (by omega) (by omega) (by omega) | exact h4 _ (by omega) (by omega))
theorem rt_Mc_s0 {w h n : Nat} {g sb sc : Nat → Int32} (H : rt_Mc w h n g sb sc) (hw : w ≤ 16) (hh : h ≤ 8) (hn : n ≤ 16) {tp bt : Nat} (h5 : tp ≤ bt) (h6 : bt < h) : rt_Mc w h n (rt_shC g (n + tp) (n + bt)) (sb) (rt_shC sc tp bt) := by
  obtain ⟨h1, h2, h3, h4⟩ := H
  refine ⟨fun i hi => ?_, fun i hi => ?_, fun i hi => ?_, fun i hi hb => ?_⟩ <;> simp only [rt_put, upd, rt_shC, rt_shF, rt_grC, rt_grF] <;> repeat' split
  all_goals (first | omega | rfl | exact rt_cg h1 (by omega) (by omega) (by omega) | exact rt_cg h2 (by omega) (by omega) (by omega) | exact rt_cg h3 (by omega) (by omega) (by omega) | exact h4 _ (by omega) (by omega))
theorem rt_Mc_s1 {w h n : Nat} {g sb sc : Nat → Int32} (H : rt_Mc w h n g sb sc) (hw : w ≤ 16) (hh : h ≤ 8) (hn : n ≤ 16) {tp bt : Nat} (h5 : tp ≤ bt) (h6 : bt < h) : rt_Mc w h n (rt_shC g (24 + tp) (24 + bt)) (sb) (rt_shC sc (8 + tp) (8 + bt)) := by
  obtain ⟨h1, h2, h3, h4⟩ := H
  refine ⟨fun i hi => ?_, fun i hi => ?_, fun i hi => ?_, fun i hi hb => ?_⟩ <;> simp only [rt_put, upd, rt_shC, rt_shF, rt_grC, rt_grF] <;> repeat' split
  all_goals (first | omega | rfl | exact rt_cg h1 (by omega) (by omega) (by omega) | exact rt_cg h2 (by omega) (by omega) (by omega) | exact rt_cg h3 (by omega) (by omega) (by omega) | exact h4 _ (by omega) (by omega) | exact (show 384 + (i + 16) = 384 + i + 16 by omega) ▸ h4 (i + 16) (by omega) (by omega))
theorem rt_Mc_sf {w h n : Nat} {g sb sc : Nat → Int32} (H : rt_Mc w h n g sb sc) (hw : w ≤ 16) (hh : h ≤ 8) (hn : n ≤ 16) {bt : Nat} (h6 : bt < h) (h0 : 0 < n) : rt_Mc w h n (rt_shC g 0 (n + bt)) (rt_put (rt_put sb 0 ((n - 1) * 16) (fun j => sb (16 + j))) ((n - 1) * 16) 16 sc) (rt_shC sc 0 bt) := by
  obtain ⟨h1, h2, h3, h4⟩ := H
  refine ⟨fun i hi => ?_, fun i hi => ?_, fun i hi => ?_, fun i hi hb => ?_⟩ <;> simp only [rt_put, upd, rt_shC, rt_shF, rt_grC, rt_grF] <;> repeat' split
  all_goals (first | omega | rfl | exact rt_cg h1 (by omega) (by omega) (by omega) | exact rt_cg h2 (by omega) (by omega) (by omega) | exact rt_cg h3 (by omega) (by omega) (by omega) | exact h4 _ (by omega) (by omega))
theorem rt_Mc_sg {w h n : Nat} {g sb sc : Nat → Int32} (H : rt_Mc w h n g sb sc) (hw : w ≤ 16) (hh : h ≤ 8) (hn : n ≤ 16) {bt : Nat} (h6 : bt < h) (h0 : n < 16) : rt_Mc w h (n + 1) (rt_grC g (n + bt + 1) (n + h)) (rt_put sb (n * 16) 16 sc) (rt_shC sc 0 bt) := by
  obtain ⟨h1, h2, h3, h4⟩ := H
  refine ⟨fun i hi => ?_, fun i hi => ?_, fun i hi => ?_, fun i hi hb => ?_⟩ <;> simp only [rt_put, upd, rt_shC, rt_shF, rt_grC, rt_grF] <;> repeat' split
  all_goals (first | omega | rfl | exact rt_cg h1 (by omega) (by omega) (by omega) | exact rt_cg h2 (by omega) (by omega) (by omega) | exact rt_cg h3 (by omega) (by omega) (by omega) | exact h4 _ (by omega) (by omega))
theorem rt_Mc_ea {w h n : Nat} {g sb sc : Nat → Int32} (H : rt_Mc w h n g sb sc) (hw : w ≤ 16) (hh : h ≤ 8) (hn : n ≤ 16)  : rt_Mc w h n (rt_put g 384 128 (fun _ => 32)) (sb) (rt_put sc 128 128 (fun _ => 32)) := by
  obtain ⟨h1, h2, h3, h4⟩ := H
  refine ⟨fun i hi => ?_, fun i hi => ?_, fun i hi => ?_, fun i hi hb => ?_⟩ <;> simp only [rt_put, upd, rt_shC, rt_shF, rt_grC, rt_grF] <;> repeat' split
  all_goals (first | omega | rfl | exact rt_cg h1 (by omega) (by omega) (by omega) | exact rt_cg h2 (by omega) (by omega) (by omega) | exact rt_cg h3 (by omega) (by omega) (by omega) | exact h4 _ (by omega) (by omega))
theorem rt_Mf_w0 {h n : Nat} {f sbf scf : Nat → Int32} (H : rt_Mf h n f sbf scf) (hh : h ≤ 8) (hn : n ≤ 16) {y : Nat} {v : Int32} (hy : y < h) (hv : rt_01 v) : rt_Mf h n (upd f (n + y) v) (sbf) (upd scf y v) := by
  obtain ⟨h1, h2, h3, h4, h5, h6⟩ := H
  refine ⟨fun i hi => ?_, fun i hi => ?_, fun i hi => ?_, rt_B_upd h4 hv, h5, rt_B_upd h6 hv⟩ <;> simp only [rt_put, upd, rt_shC, rt_shF, rt_grC, rt_grF] <;> repeat' split
  all_goals (first | omega | rfl | exact rt_cg h1 (by omega) (by omega) (by omega) | exact rt_cg h2 (by omega) (by omega) (by omega) | exact rt_cg h3 (by omega) (by omega) (by omega))
theorem rt_Mf_w1 {h n : Nat} {f sbf scf : Nat → Int32} (H : rt_Mf h n f sbf scf) (hh : h ≤ 8) (hn : n ≤ 16) {y : Nat} {v : Int32} (hy : y < h) (hv : rt_01 v) : rt_Mf h n (upd f (24 + y) v) (sbf) (upd scf (8 + y) v) := by
  obtain ⟨h1, h2, h3, h4, h5, h6⟩ := H
  refine ⟨fun i hi => ?_, fun i hi => ?_, fun i hi => ?_, rt_B_upd h4 hv, h5, rt_B_upd h6 hv⟩ <;> simp only [rt_put, upd, rt_shC, rt_shF, rt_grC, rt_grF] <;> repeat' split
  all_goals (first | omega | rfl | exact rt_cg h1 (by omega) (by omega) (by omega) | exact rt_cg h2 (by omega) (by omega) (by omega) | exact rt_cg h3 (by omega) (by omega) (by omega))
theorem rt_Mf_s0 {h n : Nat} {f sbf scf : Nat → Int32} (H : rt_Mf h n f sbf scf) (hh : h ≤ 8) (hn : n ≤ 16) {tp bt : Nat} (h7 : tp ≤ bt) (h8 : bt < h) : rt_Mf h n (rt_shF f (n + tp) (n + bt)) (sbf) (rt_shF scf tp bt) := by
  obtain ⟨h1, h2, h3, h4, h5, h6⟩ := H
  refine ⟨fun i hi => ?_, fun i hi => ?_, fun i hi => ?_, rt_B_shF h4 _ _, h5, rt_B_shF h6 _ _⟩ <;> simp only [rt_put, upd, rt_shC, rt_shF, rt_grC, rt_grF] <;> repeat' split
  all_goals (first | omega | rfl | exact rt_cg h1 (by omega) (by omega) (by omega) | exact rt_cg h2 (by omega) (by omega) (by omega) | exact rt_cg h3 (by omega) (by omega) (by omega))
theorem rt_Mf_s1 {h n : Nat} {f sbf scf : Nat → Int32} (H : rt_Mf h n f sbf scf) (hh : h ≤ 8) (hn : n ≤ 16) {tp bt : Nat} (h7 : tp ≤ bt) (h8 : bt < h) : rt_Mf h n (rt_shF f (24 + tp) (24 + bt)) (sbf) (rt_shF scf (8 + tp) (8 + bt)) := by
  obtain ⟨h1, h2, h3, h4, h5, h6⟩ := H
  refine ⟨fun i hi => ?_, fun i hi => ?_, fun i hi => ?_, rt_B_shF h4 _ _, h5, rt_B_shF h6 _ _⟩ <;> simp only [rt_put, upd, rt_shC, rt_shF, rt_grC, rt_grF] <;> repeat' split
  all_goals (first | omega | rfl | exact rt_cg h1 (by omega) (by omega) (by omega) | exact rt_cg h2 (by omega) (by omega) (by omega) | exact rt_cg h3 (by omega) (by omega) (by omega))
theorem rt_Mf_sf {h n : Nat} {f sbf scf : Nat → Int32} (H : rt_Mf h n f sbf scf) (hh : h ≤ 8) (hn : n ≤ 16) {bt : Nat} (h8 : bt < h) (h0 : 0 < n) : rt_Mf h n (rt_shF f 0 (n + bt)) (upd (rt_put sbf 0 (n - 1) (fun j => sbf (1 + j))) (n - 1) (scf 0)) (rt_shF scf 0 bt) := by
  obtain ⟨h1, h2, h3, h4, h5, h6⟩ := H
  refine ⟨fun i hi => ?_, fun i hi => ?_, fun i hi => ?_, rt_B_shF h4 _ _, rt_B_upd (rt_B_put h5 (fun j _ => h5 _)) (h6 _), rt_B_shF h6 _ _⟩ <;> simp only [rt_put, upd, rt_shC, rt_shF, rt_grC, rt_grF] <;> repeat' split
  all_goals (first | omega | rfl | exact rt_cg h1 (by omega) (by omega) (by omega) | exact rt_cg h2 (by omega) (by omega) (by omega) | exact rt_cg h3 (by omega) (by omega) (by omega))
theorem rt_Mf_sg {h n : Nat} {f sbf scf : Nat → Int32} (H : rt_Mf h n f sbf scf) (hh : h ≤ 8) (hn : n ≤ 16) {bt : Nat} (h8 : bt < h) (h0 : n < 16) : rt_Mf h (n + 1) (rt_grF f (n + bt + 1) (n + h)) (upd sbf n (scf 0)) (rt_shF scf 0 bt) := by
  obtain ⟨h1, h2, h3, h4, h5, h6⟩ := H
  refine ⟨fun i hi => ?_, fun i hi => ?_, fun i hi => ?_, rt_B_grF h4 _ _, rt_B_upd h5 (h6 _), rt_B_shF h6 _ _⟩ <;> simp only [rt_put, upd, rt_shC, rt_shF, rt_grC, rt_grF] <;> repeat' split
  all_goals (first | omega | rfl | exact rt_cg h1 (by omega) (by omega) (by omega) | exact rt_cg h2 (by omega) (by omega) (by omega) | exact rt_cg h3 (by omega) (by omega) (by omega))
theorem rt_Mf_ea {h n : Nat} {f sbf scf : Nat → Int32} (H : rt_Mf h n f sbf scf) (hh : h ≤ 8) (hn : n ≤ 16)  : rt_Mf h n (rt_put f 24 8 (fun _ => 0)) (sbf) (rt_put scf 8 8 (fun _ => 0)) := by
  obtain ⟨h1, h2, h3, h4, h5, h6⟩ := H
  refine ⟨fun i hi => ?_, fun i hi => ?_, fun i hi => ?_, rt_B_put h4 (fun _ _ => rt_01_0), h5, rt_B_put h6 (fun _ _ => rt_01_0)⟩ <;> simp only [rt_put, upd, rt_shC, rt_shF, rt_grC, rt_grF] <;> repeat' split
  all_goals (first | omega | rfl | exact rt_cg h1 (by omega) (by omega) (by omega) | exact rt_cg h2 (by omega) (by omega) (by omega) | exact rt_cg h3 (by omega) (by omega) (by omega))
/-! the blits of the walks are the closed forms -/
theorem rt_shC_eq (g : Nat → Int32) {a b : Nat} (h : a ≤ b) : rt_put (rt_put g (a * 16) ((b - a) * 16) (fun j => g ((a + 1) * 16 + j))) (b * 16) 16 (fun _ => 32) = rt_shC g a b := by
  funext i
  simp only [rt_put, rt_shC]
  repeat' split
  all_goals first | omega | rfl | (congr 1; omega)
theorem rt_shF_eq (f : Nat → Int32) {a b : Nat} (h : a ≤ b) : upd (rt_put f a (b - a) (fun j => f (a + 1 + j))) b 0 = rt_shF f a b := by
  funext i
  simp only [rt_put, upd, rt_shF]
  repeat' split
  all_goals first | omega | rfl | (congr 1; omega)
theorem rt_grC_eq (g : Nat → Int32) {o e : Nat} (h : o ≤ e) : rt_put (rt_put g ((o + 1) * 16) ((e - o) * 16) (fun j => g (o * 16 + j))) (o * 16) 16 (fun _ => 32) = rt_grC g o e := by
  funext i
  simp only [rt_put, rt_grC]
  repeat' split
  all_goals first | omega | rfl | (congr 1; omega)
theorem rt_grF_eq (f : Nat → Int32) {o e : Nat} (h : o ≤ e) : upd (rt_put f (o + 1) (e - o) (fun j => f (o + j))) o 0 = rt_grF f o e := by
  funext i
  simp only [rt_put, upd, rt_grF]
  repeat' split
  all_goals first | omega | rfl | (congr 1; omega)
/-! a resize -/
def rt_gP (g fl : Nat → Int32) (d t m : Nat) : Nat → Int32 := rt_put g 0 (m * 16) (fun i => if d + i / 16 < t then fl (d * 16 + i) else 32)
def rt_fP (f ff : Nat → Int32) (d t m : Nat) : Nat → Int32 := rt_put f 0 m (fun r => if d + r < t then ff (d + r) else 0)
def rt_scP (sc rb : Nat → Int32) (fi t h2 : Nat) : Nat → Int32 := rt_put sc 0 128 (fun i => if i / 16 < h2 ∧ fi + i / 16 < t then rb (fi * 16 + i) else 32)
def rt_sfP (scf rbf : Nat → Int32) (fi t h2 : Nat) : Nat → Int32 := rt_put scf 0 8 (fun r => if r < h2 ∧ fi + r < t then rbf (fi + r) else 0)
def rt_crop (g : Nat → Int32) (b mh mw : Nat) : Nat → Int32 := rt_put g b 128 (fun i => if mh ≤ i / 16 ∨ mw ≤ i % 16 then 32 else g (b + i))
theorem rt_Mc_rm {w h n : Nat} {g sb sc fl rb : Nat → Int32} (H : rt_Mc w h n g sb sc) {w2 h2 n2 d t fi : Nat} (hn : n2 ≤ 16) (hh : h2 ≤ 8) (hd : fi = d + n2) (ht : fi ≤ t) (hfl : rt_sg fl rb 0 0 (t * 16)) : rt_Mc w2 h2 n2 (rt_put (rt_gP g fl d t (n2 + h2)) 384 128 (fun _ => 32)) (rt_put sb 0 (n2 * 16) (fun i => rb (d * 16 + i))) (rt_put (rt_scP sc rb fi t h2) 128 128 (fun _ => 32)) := by
  obtain ⟨h1, h3, h4, h5⟩ := H
  refine ⟨fun i hi => ?_, fun i hi => ?_, fun i hi => ?_, fun i hi hb => ?_⟩ <;> simp only [rt_put, rt_gP, rt_scP] <;> repeat' split
  all_goals first | omega | rfl | exact rt_cg hfl (by omega) (by omega) (by omega)
theorem rt_Mc_ra {w h n : Nat} {g sb sc fl rb : Nat → Int32} (H : rt_Mc w h n g sb sc) {w2 h2 n2 d t fi mh mw : Nat} (hn : n2 ≤ 16) (hh : h2 ≤ 8) (hd : fi = d + n2) (ht : fi ≤ t) (hfl : rt_sg fl rb 0 0 (t * 16)) (hmh : (h < h2 ∧ mh = h) ∨ (h2 ≤ h ∧ mh = h2)) (hmw : (w < w2 ∧ mw = w) ∨ (w2 ≤ w ∧ mw = w2)) : rt_Mc w2 h2 n2 (rt_crop (rt_gP g fl d t (n2 + h2)) 384 h2 w2) (rt_put sb 0 (n2 * 16) (fun i => rb (d * 16 + i))) (rt_crop (rt_scP sc rb fi t h2) 128 mh mw) := by
  obtain ⟨h1, h3, h4, h5⟩ := H
  refine ⟨fun i hi => ?_, fun i hi => ?_, fun i hi => ?_, fun i hi hb => ?_⟩ <;> simp only [rt_put, rt_gP, rt_scP, rt_crop] <;> repeat' split
  all_goals first | omega | rfl | exact rt_cg hfl (by omega) (by omega) (by omega) | exact rt_cg h4 (by omega) (by omega) (by omega) | exact h5 _ (by omega) (by omega) | exact (h5 _ (by omega) (by omega)).symm | (rw [show 384 + (384 + i - 384) = 384 + i by omega]; exact h5 i (by omega) (by omega))
theorem rt_Mf_rz {h n : Nat} {f sbf scf ff rbf : Nat → Int32} (H : rt_Mf h n f sbf scf) {h2 n2 d t fi : Nat} (hn : n2 ≤ 16) (hh : h2 ≤ 8) (hd : fi = d + n2) (ht : fi ≤ t) (hfl : rt_sg ff rbf 0 0 t) (hb : ∀ i, i < t → rt_01 (ff i)) : rt_Mf h2 n2 (rt_put (rt_fP f ff d t (n2 + h2)) 24 8 (fun _ => 0)) (rt_put sbf 0 n2 (fun i => rbf (d + i))) (rt_put (rt_sfP scf rbf fi t h2) 8 8 (fun _ => 0)) := by
  obtain ⟨h1, h3, h4, h5, h6, h7⟩ := H
  have hb' : ∀ i, i < t → rt_01 (rbf i) := fun i hi => by
    have e : ff i = rbf i := rt_cg hfl (by omega) (by omega) (by omega)
    rw [← e]; exact hb i hi
  refine ⟨fun i hi => ?_, fun i hi => ?_, fun i hi => ?_, rt_B_put (rt_B_put h5 (fun j _ => ?_)) (fun _ _ => rt_01_0), rt_B_put h6 (fun j _ => hb' _ (by omega)), rt_B_put (rt_B_put h7 (fun j _ => ?_)) (fun _ _ => rt_01_0)⟩
  · simp only [rt_put, rt_fP]
    repeat' split
    all_goals first | omega | rfl | exact rt_cg hfl (by omega) (by omega) (by omega)
  · simp only [rt_put, rt_fP, rt_sfP]
    repeat' split
    all_goals first | omega | rfl | exact rt_cg hfl (by omega) (by omega) (by omega)
  · simp only [rt_put]
    repeat' split
    all_goals first | omega | rfl
  · split
    · exact hb _ (by omega)
    · exact rt_01_0
  · split
    · exact hb' _ (by omega)
    · exact rt_01_0
end
section
/-! X's stores by rows -/
theorem rx_clearRow {w h s n y x sy sx tp bt : Nat} {al pd sp fn fu : Int32} {g f fc ff : Nat → Int32} {post : SX → Prop} {A : Int32} (k : Nat) (hk : k < 32) (H : post (fn, fu, (nI w), (nI h), (nI s), (nI n), al, (nI tp), (nI bt), (nI y), (nI x), pd, (nI sy), (nI sx), sp, (rt_put g (k * 16) 16 (fun _ => 32)), (upd f k 0), fc, ff)) (eA : A = nI k := by rfl) : wpX_clearRow post (fn, fu, (nI w), (nI h), (nI s), (nI n), al, (nI tp), (nI bt), (nI y), (nI x), pd, (nI sy), (nI sx), sp, g, f, fc, ff) A := by
  subst eA
  refine pk_loop (fun N i a => wX_clearRow_2 post (nI k) fn fu (nI w) (nI h) (nI s) (nI n) al (nI tp) (nI bt) (nI y) (nI x) pd (nI sy) (nI sx) sp N (nI i) a f fc ff) (fun i a => a = rt_put g (k * 16) i (fun _ => 32)) 16 0 g (by omega) (rt_put_0 _ _ _).symm ?_ ?_
  · rintro N a rfl
    exact pk_le 16 16 (fun _ => ⟨pk_in k 32 hk, nm_r (rt_us rfl (by omega) rt_nar0) H⟩) (fun z => absurd z (by omega))
  · rintro N i a hi rfl K
    exact pk_le 16 i (fun z => absurd z (by omega)) (fun _ => ⟨pk_in (k * 16 + i) 512 (by omega) (rt_ix k i), nm_r ((rt_us (rt_ix k i) (by omega) rfl).trans (rt_put_s rfl)) (nm_r (nI_1 i) (K _ rfl))⟩)
theorem rx_copyRow {w h s n y x sy sx tp bt : Nat} {al pd sp fn fu : Int32} {g f fc ff : Nat → Int32} {post : SX → Prop} {A B : Int32} (a b : Nat) (ha : a < 32) (hb : b < 32) (hab : a ≠ b) (hf : rt_01 (f a)) (H : post (fn, fu, (nI w), (nI h), (nI s), (nI n), al, (nI tp), (nI bt), (nI y), (nI x), pd, (nI sy), (nI sx), sp, (rt_put g (b * 16) 16 (fun j => g (a * 16 + j))), (upd f b (f a)), fc, ff)) (eA : A = nI a := by rfl) (eB : B = nI b := by rfl) : wpX_copyRow post (fn, fu, (nI w), (nI h), (nI s), (nI n), al, (nI tp), (nI bt), (nI y), (nI x), pd, (nI sy), (nI sx), sp, g, f, fc, ff) A B := by
  subst eA eB
  refine pk_loop (fun N i c => wX_copyRow_2 post (nI a) (nI b) fn fu (nI w) (nI h) (nI s) (nI n) al (nI tp) (nI bt) (nI y) (nI x) pd (nI sy) (nI sx) sp N (nI i) c f fc ff) (fun i c => c = rt_put g (b * 16) i (fun j => g (a * 16 + j))) 16 0 g (by omega) (rt_put_0 _ _ _).symm ?_ ?_
  · rintro N c rfl
    exact pk_le 16 16 (fun _ => ⟨pk_in a 32 ha, pk_in b 32 hb, nm_r (rt_us rfl (by omega) ((congrArg _ (rt_rd rfl (by omega))).trans (rt_nar hf))) H⟩) (fun z => absurd z (by omega))
  · rintro N i c hi rfl K
    exact pk_le 16 i (fun z => absurd z (by omega)) (fun _ => ⟨pk_in (a * 16 + i) 512 (by omega) (rt_ix a i), pk_in (b * 16 + i) 512 (by omega) (rt_ix b i), nm_r ((rt_us (rt_ix b i) (by omega) ((rt_rd (rt_ix a i) (by omega)).trans (rt_put_out (by omega)))).trans (rt_put_s rfl)) (nm_r (nI_1 i) (K _ rfl))⟩)
theorem rx_takeRow {w h s n y x sy sx tp bt : Nat} {al pd sp fn fu : Int32} {g f fc ff : Nat → Int32} {post : SX → Prop} {A B : Int32} (a b : Nat) (ha : a < 96) (hb : b < 32) (hf : rt_01 (ff a)) (H : post (fn, fu, (nI w), (nI h), (nI s), (nI n), al, (nI tp), (nI bt), (nI y), (nI x), pd, (nI sy), (nI sx), sp, (rt_put g (b * 16) 16 (fun j => fc (a * 16 + j))), (upd f b (ff a)), fc, ff)) (eA : A = nI a := by rfl) (eB : B = nI b := by rfl) : wpX_takeFlowRow post (fn, fu, (nI w), (nI h), (nI s), (nI n), al, (nI tp), (nI bt), (nI y), (nI x), pd, (nI sy), (nI sx), sp, g, f, fc, ff) A B := by
  subst eA eB
  refine pk_loop (fun N i c => wX_takeFlowRow_2 post (nI a) (nI b) fn fu (nI w) (nI h) (nI s) (nI n) al (nI tp) (nI bt) (nI y) (nI x) pd (nI sy) (nI sx) sp N (nI i) c f fc ff) (fun i c => c = rt_put g (b * 16) i (fun j => fc (a * 16 + j))) 16 0 g (by omega) (rt_put_0 _ _ _).symm ?_ ?_
  · rintro N c rfl
    exact pk_le 16 16 (fun _ => ⟨pk_in a 96 ha, pk_in b 32 hb, nm_r (rt_us rfl (by omega) ((congrArg _ (rt_rd rfl (by omega))).trans (rt_nar hf))) H⟩) (fun z => absurd z (by omega))
  · rintro N i c hi rfl K
    exact pk_le 16 i (fun z => absurd z (by omega)) (fun _ => ⟨pk_in (a * 16 + i) 1536 (by omega) (rt_ix a i), pk_in (b * 16 + i) 512 (by omega) (rt_ix b i), nm_r ((rt_us (rt_ix b i) (by omega) (rt_rd (rt_ix a i) (by omega))).trans (rt_put_s rfl)) (nm_r (nI_1 i) (K _ rfl))⟩)
theorem rx_clearCells {w h s n y x sy sx tp bt : Nat} {al pd sp fn fu : Int32} {g f fc ff : Nat → Int32} {post : SX → Prop} {K A B : Int32} (k a b : Nat) (hk : k < 32) (hab : a ≤ b) (hb : b ≤ 16) (H : post (fn, fu, (nI w), (nI h), (nI s), (nI n), al, (nI tp), (nI bt), (nI y), (nI x), pd, (nI sy), (nI sx), sp, (rt_put g (k * 16 + a) (b - a) (fun _ => 32)), f, fc, ff)) (eK : K = nI k := by rfl) (eA : A = nI a := by rfl) (eB : B = nI b := by rfl) : wpX_clearCells post (fn, fu, (nI w), (nI h), (nI s), (nI n), al, (nI tp), (nI bt), (nI y), (nI x), pd, (nI sy), (nI sx), sp, g, f, fc, ff) K A B := by
  subst eK eA eB
  refine pk_loop (fun N i c => wX_clearCells_3 post (nI k) (nI b) fn fu (nI w) (nI h) (nI s) (nI n) al (nI tp) (nI bt) (nI y) (nI x) pd (nI sy) (nI sx) sp N (nI i) c f fc ff) (fun i c => a ≤ i ∧ c = rt_put g (k * 16 + a) (i - a) (fun _ => 32)) b a g hab ⟨Nat.le_refl _, by rw [Nat.sub_self, rt_put_0]⟩ ?_ ?_
  · rintro N c ⟨-, rfl⟩
    exact pk_le b b (fun _ => H) (fun z => absurd z (by omega))
  · rintro N i c hi ⟨ha, rfl⟩ K
    refine pk_le b i (fun z => absurd z (by omega)) (fun _ => ⟨pk_in (k * 16 + i) 512 (by omega) (rt_ix k i), nm_r ((rt_us (rt_ix k i) (by omega) rfl).trans ?_) (nm_r (nI_1 i) (K (rt_put g (k * 16 + a) (i + 1 - a) (fun _ => 32)) ⟨by omega, rfl⟩))⟩)
    rw [show k * 16 + i = k * 16 + a + (i - a) by omega, show i + 1 - a = i - a + 1 by omega]
    exact rt_put_s rfl
theorem rx_clearRows {w h s n y x sy sx tp bt : Nat} {al pd sp fn fu : Int32} {g f fc ff : Nat → Int32} {post : SX → Prop} {A B : Int32} (a b : Nat) (hab : a ≤ b) (hb : b ≤ 32) (H : post (fn, fu, (nI w), (nI h), (nI s), (nI n), al, (nI tp), (nI bt), (nI y), (nI x), pd, (nI sy), (nI sx), sp, (rt_put g (a * 16) ((b - a) * 16) (fun _ => 32)), (rt_put f a (b - a) (fun _ => 0)), fc, ff)) (eA : A = nI a := by rfl) (eB : B = nI b := by rfl) : wpX_clearRows post (fn, fu, (nI w), (nI h), (nI s), (nI n), al, (nI tp), (nI bt), (nI y), (nI x), pd, (nI sy), (nI sx), sp, g, f, fc, ff) A B := by
  subst eA eB
  refine rt_loop2 (fun N i (qa qb : Nat → Int32) => wX_clearRows_2 post (nI b) N (nI i) fn fu (nI w) (nI h) (nI s) (nI n) al (nI tp) (nI bt) (nI y) (nI x) pd (nI sy) (nI sx) sp qa qb fc ff) (fun i qa qb => a ≤ i ∧ qa = rt_put g (a * 16) ((i - a) * 16) (fun _ => 32) ∧ qb = rt_put f a (i - a) (fun _ => 0)) b a g f hab ⟨Nat.le_refl _, by rw [Nat.sub_self, Nat.zero_mul, rt_put_0], by rw [Nat.sub_self, rt_put_0]⟩ ?_ ?_
  · rintro N qa qb ⟨-, rfl, rfl⟩
    exact pk_le b b (fun _ => H) (fun z => absurd z (by omega))
  · rintro N i qa qb hi ⟨ha, rfl, rfl⟩ K
    have e1 : rt_put (rt_put g (a * 16) ((i - a) * 16) (fun _ => 32)) (i * 16) 16 (fun _ => 32) = rt_put g (a * 16) ((i + 1 - a) * 16) (fun _ => 32) := by
      rw [rt_put_a (v := fun _ => 32) (by omega) (fun _ _ => rfl)]; congr 1; omega
    have e2 : upd (rt_put f a (i - a) (fun _ => 0)) i 0 = rt_put f a (i + 1 - a) (fun _ => 0) := by
      have h := rt_put_s (g := f) (v := fun _ => 0) (b := a) (m := i - a) (x := 0) rfl
      rw [show a + (i - a) = i by omega, show i - a + 1 = i + 1 - a by omega] at h
      exact h
    exact pk_le b i (fun z => absurd z (by omega)) (fun _ => rx_clearRow i (by omega) (nm_r (nI_1 i) (K _ _ ⟨by omega, e1, e2⟩)))
theorem rx_shiftUp {w h s n y x sy sx tp bt : Nat} {al pd sp fn fu : Int32} {g f fc ff : Nat → Int32} {post : SX → Prop} {A B : Int32} (a b : Nat) (hab : a ≤ b) (hb : b < 32) (hf : rt_B01 f) (H : post (fn, fu, (nI w), (nI h), (nI s), (nI n), al, (nI tp), (nI bt), (nI y), (nI x), pd, (nI sy), (nI sx), sp, (rt_shC g a b), (rt_shF f a b), fc, ff)) (eA : A = nI a := by rfl) (eB : B = nI b := by rfl) : wpX_shiftRowsUp post (fn, fu, (nI w), (nI h), (nI s), (nI n), al, (nI tp), (nI bt), (nI y), (nI x), pd, (nI sy), (nI sx), sp, g, f, fc, ff) A B := by
  subst eA eB
  refine rt_loop2 (fun N i (qa qb : Nat → Int32) => wX_shiftRowsUp_2 post (nI b) N (nI i) fn fu (nI w) (nI h) (nI s) (nI n) al (nI tp) (nI bt) (nI y) (nI x) pd (nI sy) (nI sx) sp qa qb fc ff) (fun i qa qb => a ≤ i ∧ qa = rt_put g (a * 16) ((i - a) * 16) (fun j => g ((a + 1) * 16 + j)) ∧ qb = rt_put f a (i - a) (fun j => f (a + 1 + j))) b a g f hab ⟨Nat.le_refl _, by rw [Nat.sub_self, Nat.zero_mul, rt_put_0], by rw [Nat.sub_self, rt_put_0]⟩ ?_ ?_
  · rintro N qa qb ⟨-, rfl, rfl⟩
    refine pk_le b b (fun _ => rx_clearRow b hb ?_) (fun z => absurd z (by omega))
    show post _
    rw [rt_shC_eq g hab, rt_shF_eq f hab]
    exact H
  · rintro N i qa qb hi ⟨ha, rfl, rfl⟩ K
    · have e1 : rt_put (rt_put g (a * 16) ((i - a) * 16) (fun j => g ((a + 1) * 16 + j))) (i * 16) 16 (fun j => rt_put g (a * 16) ((i - a) * 16) (fun j => g ((a + 1) * 16 + j)) ((i + 1) * 16 + j)) = rt_put g (a * 16) ((i + 1 - a) * 16) (fun j => g ((a + 1) * 16 + j)) := by
        rw [rt_put_a (v := fun j => g ((a + 1) * 16 + j)) (by omega) (fun j hj => by
          show rt_put _ _ _ _ _ = _
          rw [rt_put_out (by omega)]; congr 1; omega)]
        congr 1; omega
      have e2 : upd (rt_put f a (i - a) (fun j => f (a + 1 + j))) i (rt_put f a (i - a) (fun j => f (a + 1 + j)) (i + 1)) = rt_put f a (i + 1 - a) (fun j => f (a + 1 + j)) := by
        have h := rt_put_s (g := f) (v := fun j => f (a + 1 + j)) (b := a) (m := i - a) (x := rt_put f a (i - a) (fun j => f (a + 1 + j)) (i + 1)) (by
          rw [rt_put_out (by omega)]; congr 1; omega)
        rw [show a + (i - a) = i by omega, show i - a + 1 = i + 1 - a by omega] at h
        exact h
      exact pk_le b i (fun z => absurd z (by omega)) (fun _ => rx_copyRow (i + 1) i (by omega) (by omega) (by omega) (rt_B_put hf (fun j _ => hf _) _) (nm_r (nI_1 i) (K _ _ ⟨by omega, e1, e2⟩)) (nI_1 i))
theorem rx_growL {w h s n y x sy sx tp bt : Nat} {al pd sp fn fu : Int32} {g f fc ff : Nat → Int32} {post : SX → Prop} {o e : Nat} (hf : rt_B01 f) (ho : o + e < 32) (H : post (fn, fu, (nI w), (nI h), (nI s), (nI (n + 1)), al, (nI tp), (nI bt), (nI y), (nI x), pd, (nI sy), (nI sx), sp, (rt_grC g o (o + e)), (rt_grF f o (o + e)), fc, ff)) : wX_growScrollback_22 post (nI o) (e + 1) (nI (o + e)) fn fu (nI w) (nI h) (nI s) (nI n) al (nI tp) (nI bt) (nI y) (nI x) pd (nI sy) (nI sx) sp g f fc ff := by
  refine rt_loopD2 (fun N i (qa qb : Nat → Int32) => wX_growScrollback_22 post (nI o) N (nI (o + i)) fn fu (nI w) (nI h) (nI s) (nI n) al (nI tp) (nI bt) (nI y) (nI x) pd (nI sy) (nI sx) sp qa qb fc ff) (fun i qa qb => i ≤ e ∧ qa = rt_put g ((o + i + 1) * 16) ((e - i) * 16) (fun j => g ((o + i) * 16 + j)) ∧ qb = rt_put f (o + i + 1) (e - i) (fun j => f (o + i + j))) ?_ ?_ e g f ⟨Nat.le_refl _, by rw [Nat.sub_self, Nat.zero_mul, rt_put_0], by rw [Nat.sub_self, rt_put_0]⟩
  · rintro N qa qb ⟨-, rfl, rfl⟩
    refine pk_le (o + 0) o (fun _ => rx_clearRow o (by omega) (nm_r (nI_1 n) ?_)) (fun z => absurd z (by omega))
    have a := rt_grC_eq g (show o ≤ o + e by omega)
    have b := rt_grF_eq f (show o ≤ o + e by omega)
    rw [show o + e - o = e by omega] at a b
    show post _
    simp only [Nat.add_zero, Nat.sub_zero]
    rw [a, b]
    exact H
  · rintro N i qa qb ⟨hi, rfl, rfl⟩ K
    · have e1 : rt_put (rt_put g ((o + (i + 1) + 1) * 16) ((e - (i + 1)) * 16) (fun j => g ((o + (i + 1)) * 16 + j))) ((o + (i + 1)) * 16) 16 (fun j => rt_put g ((o + (i + 1) + 1) * 16) ((e - (i + 1)) * 16) (fun j => g ((o + (i + 1)) * 16 + j)) ((o + i) * 16 + j)) = rt_put g ((o + i + 1) * 16) ((e - i) * 16) (fun j => g ((o + i) * 16 + j)) := by
        rw [rt_put_p (v'' := fun j => g ((o + i) * 16 + j)) (by omega) (fun j hj => rt_put_out (by omega)) (fun j hj => by
          show g _ = g _
          congr 1; omega)]
        rw [show o + (i + 1) = o + i + 1 by omega]
        congr 1; omega
      have e2 : upd (rt_put f (o + (i + 1) + 1) (e - (i + 1)) (fun j => f (o + (i + 1) + j))) (o + (i + 1)) (rt_put f (o + (i + 1) + 1) (e - (i + 1)) (fun j => f (o + (i + 1) + j)) (o + i)) = rt_put f (o + i + 1) (e - i) (fun j => f (o + i + j)) := by
        rw [rt_upd_put, rt_put_p (v'' := fun j => f (o + i + j)) (by omega) (fun j hj => by
          show rt_put _ _ _ _ _ = f _
          rw [rt_put_out (by omega)]; congr 1; omega) (fun j hj => by
          show f _ = f _
          congr 1; omega)]
        rw [show o + (i + 1) = o + i + 1 by omega]
        congr 1; omega
      exact pk_le (o + (i + 1)) o (fun z => absurd z (by omega)) (fun _ => rx_copyRow (o + i) (o + (i + 1)) (by omega) (by omega) (by omega) (rt_B_put hf (fun j _ => hf _) _) (nm_r (pk_m1 (o + i)) (K _ _ ⟨by omega, e1, e2⟩)) (nI_pred (o + i)))
theorem rx_grow {w h s n y x sy sx tp bt : Nat} {al pd sp fn fu : Int32} {g f fc ff : Nat → Int32} {post : SX → Prop} (hb : bt < h) (hn : n + h < 32) (hf : rt_B01 f) (H : post (fn, fu, (nI w), (nI h), (nI s), (nI (n + 1)), al, (nI tp), (nI bt), (nI y), (nI x), pd, (nI sy), (nI sx), sp, (rt_grC g (n + bt + 1) (n + h)), (rt_grF f (n + bt + 1) (n + h)), fc, ff)) : wpX_growScrollback post (fn, fu, (nI w), (nI h), (nI s), (nI n), al, (nI tp), (nI bt), (nI y), (nI x), pd, (nI sy), (nI sx), sp, g, f, fc, ff) := by
  have e : n + bt + 1 + (h - 1 - bt) = n + h := by omega
  refine nm_r (show nI n + nI bt + 1 = nI (n + bt + 1) by rw [nI_add, nI_1]) (nm_r (show nI n + nI h = nI (n + bt + 1 + (h - 1 - bt)) by rw [nI_add, e]) ⟨h - 1 - bt + 1, rx_growL hf (by omega) ?_⟩)
  rw [e]
  exact H
theorem rx_scroll1 {w h s n y x sy sx tp bt : Nat} {al pd sp fn fu : Int32} {g f fc ff : Nat → Int32} {post : SX → Prop} (hal : ¬ al = 0) (h1 : tp ≤ bt) (h2 : bt < 8) (hf : rt_B01 f) (H : post (fn, fu, (nI w), (nI h), (nI s), (nI n), al, (nI tp), (nI bt), (nI y), (nI x), pd, (nI sy), (nI sx), sp, (rt_shC g (24 + tp) (24 + bt)), (rt_shF f (24 + tp) (24 + bt)), fc, ff)) : wpX_scroll post (fn, fu, (nI w), (nI h), (nI s), (nI n), al, (nI tp), (nI bt), (nI y), (nI x), pd, (nI sy), (nI sx), sp, g, f, fc, ff) :=
  br_f hal (br_f hal (rx_shiftUp (24 + tp) (24 + bt) (by omega) (by omega) hf H (nI_add 24 tp) (nI_add 24 bt)))
theorem rx_scroll0 {w h s n y x sy sx tp bt : Nat} {al pd sp fn fu : Int32} {g f fc ff : Nat → Int32} {post : SX → Prop} (hal : al = 0) (ht : 0 < tp) (h1 : tp ≤ bt) (h2 : n + bt < 32) (hf : rt_B01 f) (H : post (fn, fu, (nI w), (nI h), (nI s), (nI n), al, (nI tp), (nI bt), (nI y), (nI x), pd, (nI sy), (nI sx), sp, (rt_shC g (n + tp) (n + bt)), (rt_shF f (n + tp) (n + bt)), fc, ff)) : wpX_scroll post (fn, fu, (nI w), (nI h), (nI s), (nI n), al, (nI tp), (nI bt), (nI y), (nI x), pd, (nI sy), (nI sx), sp, g, f, fc, ff) :=
  br_t hal (br_t hal (pk_le tp 0 (fun z => absurd z (by omega)) (fun _ => rx_shiftUp (n + tp) (n + bt) (by omega) (by omega) hf H (nI_add n tp) (nI_add n bt))))
theorem rx_scrollF {w h s n y x sy sx tp bt : Nat} {al pd sp fn fu : Int32} {g f fc ff : Nat → Int32} {post : SX → Prop} (hal : al = 0) (ht : tp = 0) (hs : s ≤ n) (h2 : n + bt < 32) (hf : rt_B01 f) (H : post (fn, fu, (nI w), (nI h), (nI s), (nI n), al, (nI tp), (nI bt), (nI y), (nI x), pd, (nI sy), (nI sx), sp, (rt_shC g 0 (n + bt)), (rt_shF f 0 (n + bt)), fc, ff)) : wpX_scroll post (fn, fu, (nI w), (nI h), (nI s), (nI n), al, (nI tp), (nI bt), (nI y), (nI x), pd, (nI sy), (nI sx), sp, g, f, fc, ff) :=
  br_t hal (br_t hal (pk_le tp 0 (fun _ => pk_le s n (fun _ => rx_shiftUp 0 (n + bt) (by omega) (by omega) hf H rfl (nI_add n bt)) (fun z => absurd z (by omega))) (fun z => absurd z (by omega))))
theorem rx_scrollG {w h s n y x sy sx tp bt : Nat} {al pd sp fn fu : Int32} {g f fc ff : Nat → Int32} {post : SX → Prop} (hal : al = 0) (ht : tp = 0) (hs : n < s) (hs2 : s ≤ 16) (hb : bt < h) (hh : h ≤ 8) (hf : rt_B01 f) (H : post (fn, fu, (nI w), (nI h), (nI s), (nI (n + 1)), al, (nI tp), (nI bt), (nI y), (nI x), pd, (nI sy), (nI sx), sp, (rt_grC g (n + bt + 1) (n + h)), (rt_grF f (n + bt + 1) (n + h)), fc, ff)) : wpX_scroll post (fn, fu, (nI w), (nI h), (nI s), (nI n), al, (nI tp), (nI bt), (nI y), (nI x), pd, (nI sy), (nI sx), sp, g, f, fc, ff) :=
  br_t hal (br_t hal (pk_le tp 0 (fun _ => pk_le s n (fun z => absurd z (by omega)) (fun _ => rx_grow hb (by omega) hf H)) (fun z => absurd z (by omega))))
end
section
/-! X's reading of its lines -/
def rt_mr (al : Int32) (a b : Nat) : Nat := if al = 0 then a else b
theorem rx_mr {w h s n y x sy sx tp bt : Nat} {al pd sp fn fu : Int32} {g f fc ff : Nat → Int32} {P : Int32 → Prop} (H : P (nI (rt_mr al y sy))) : wpX_mainCursorRow P (fn, fu, (nI w), (nI h), (nI s), (nI n), al, (nI tp), (nI bt), (nI y), (nI x), pd, (nI sy), (nI sx), sp, g, f, fc, ff) := by
  unfold rt_mr at H
  exact br_c (fun h => by rw [if_pos h] at H; exact H) (fun h => by rw [if_neg h] at H; exact H)
theorem rx_mc {w h s n y x sy sx tp bt : Nat} {al pd sp fn fu : Int32} {g f fc ff : Nat → Int32} {P : Int32 → Prop} (H : P (nI (rt_mr al x sx))) : wpX_mainCursorCol P (fn, fu, (nI w), (nI h), (nI s), (nI n), al, (nI tp), (nI bt), (nI y), (nI x), pd, (nI sy), (nI sx), sp, g, f, fc, ff) := by
  unfold rt_mr at H
  exact br_c (fun h => by rw [if_pos h] at H; exact H) (fun h => by rw [if_neg h] at H; exact H)
theorem rt_fl {f : Nat → Int32} {i : Nat} {v : Int32} (hi : i < 2 ^ 31) (h : f (nI i).toNatClampNeg = v) : f i = v := by rwa [nI_clamp hi] at h
theorem rt_nfl {f : Nat → Int32} {i : Nat} {v : Int32} (hi : i < 2 ^ 31) (h : ¬ f (nI i).toNatClampNeg = v) : ¬ f i = v := by rwa [nI_clamp hi] at h
theorem rt_flE {f : Nat → Int32} {e : Int32} (i : Nat) {v : Int32} (he : e = nI i) (hi : i < 2 ^ 31) (h : f e.toNatClampNeg = v) : f i = v := by rwa [he, nI_clamp hi] at h
theorem rt_nflE {f : Nat → Int32} {e : Int32} (i : Nat) {v : Int32} (he : e = nI i) (hi : i < 2 ^ 31) (h : ¬ f e.toNatClampNeg = v) : ¬ f i = v := by rwa [he, nI_clamp hi] at h
theorem rx_cursorLineL {w h s n y x sy sx tp bt : Nat} {al pd sp fn fu : Int32} {g f fc ff : Nat → Int32} {P : Int32 → Prop} {ci : Nat} (hc : ci ≤ 32) (H : P (nI (rt_L f ci))) : ∃ N, wX_cursorLine_14 P (nI ci) fn fu (nI w) (nI h) (nI s) (nI n) al (nI tp) (nI bt) (nI y) (nI x) pd (nI sy) (nI sx) sp g f fc ff N 0 0 := by
  refine pk_loop (fun N i (l : Int32) => wX_cursorLine_14 P (nI ci) fn fu (nI w) (nI h) (nI s) (nI n) al (nI tp) (nI bt) (nI y) (nI x) pd (nI sy) (nI sx) sp g f fc ff N l (nI i)) (fun i l => l = nI (rt_L f i)) ci 0 0 (Nat.zero_le _) rfl ?_ ?_
  · rintro N l rfl
    exact pk_le ci ci (fun _ => H) (fun z => absurd z (by omega))
  · rintro N i l hi rfl K
    exact pk_le ci i (fun z => absurd z (by omega)) (fun _ => ⟨pk_in i 32 (by omega), br_c (fun h => nm_r (nI_1 _) (nm_r (nI_1 i) (K _ (by rw [rt_L_z (rt_fl (by omega) h)])))) (fun h => nm_r (nI_1 i) (K _ (by rw [rt_L_n (rt_nfl (by omega) h)])))⟩)
theorem rx_cursorLine {w h s n y x sy sx tp bt : Nat} {al pd sp fn fu : Int32} {g f fc ff : Nat → Int32} {P : Int32 → Prop} (hc : n + rt_mr al y sy ≤ 32) (H : P (nI (rt_L f (n + rt_mr al y sy)))) : wpX_cursorLine P (fn, fu, (nI w), (nI h), (nI s), (nI n), al, (nI tp), (nI bt), (nI y), (nI x), pd, (nI sy), (nI sx), sp, g, f, fc, ff) := by
  unfold wpX_cursorLine
  exact rx_mr (nm_r (nI_add _ _) (rx_cursorLineL hc H))
theorem rx_lineStart {w h s n y x sy sx tp bt : Nat} {al pd sp fn fu : Int32} {g f fc ff : Nat → Int32} {P : Int32 → Prop} {A : Int32} (l : Nat) (hT : n + h ≤ 32) (h0 : 0 < n + h) (hl : l ≤ rt_L f (n + h - 1)) (H : P (nI (rt_V f (n + h) l))) (eA : A = nI l := by rfl) : wpX_lineStart P (fn, fu, (nI w), (nI h), (nI s), (nI n), al, (nI tp), (nI bt), (nI y), (nI x), pd, (nI sy), (nI sx), sp, g, f, fc, ff) A := by
  subst eA
  have hle := rt_L_le f (n + h - 1)
  refine nm_r (nI_add _ _) ?_
  refine rt_loop2 (fun N i (qa qb : Int32) => wX_lineStart_18 P (nI l) (nI (n + h)) fn fu (nI w) (nI h) (nI s) (nI n) al (nI tp) (nI bt) (nI y) (nI x) pd (nI sy) (nI sx) sp g f fc ff N qa qb (nI i)) (fun i qa qb => 1 ≤ i ∧ rt_L f (i - 1) ≤ l ∧ qa = nI (rt_V f (n + h) (rt_L f (i - 1))) ∧ qb = nI (rt_L f (i - 1))) (n + h) 1 0 0 (by omega) ⟨Nat.le_refl _, Nat.zero_le _, by rw [show rt_L f (1 - 1) = 0 from rfl, rt_V_0]; rfl, rfl⟩ ?_ ?_
  · rintro N qa qb ⟨h1, h2, rfl, rfl⟩
    refine pk_le (n + h) (n + h) (fun _ => ?_) (fun z => absurd z (by omega))
    rw [show l = rt_L f (n + h - 1) by omega] at H
    exact H
  · rintro N i qa qb hi ⟨h1, h2, rfl, rfl⟩ K
    obtain ⟨j, rfl⟩ : ∃ j, i = j + 1 := ⟨i - 1, by omega⟩
    have hj : rt_L f j ≤ l := h2
    refine pk_le (n + h) (j + 1) (fun z => absurd z (by omega)) (fun _ => pk_le l (rt_L f j) (fun z => ?_) (fun z => ⟨pk_in j 32 (by omega) (nI_pred j), br_c (fun hf => ?_) (fun hf => ?_)⟩))
    · rw [show l = rt_L f j by omega] at H
      exact H
    · have z0 := rt_flE j (nI_pred j) (by omega) hf
      have e := rt_L_z z0
      exact nm_r (nI_1 _) (nm_r (nI_1 (j + 1)) (K _ _ ⟨by omega, show rt_L f (j + 1) ≤ l by omega, show nI (j + 1) = nI (rt_V f (n + h) (rt_L f (j + 1))) by rw [rt_V_st (by omega) z0 (by omega)], show _ = nI (rt_L f (j + 1)) by rw [e]; rfl⟩))
    · have z0 := rt_nflE j (nI_pred j) (by omega) hf
      have e := rt_L_n z0
      exact nm_r (nI_1 (j + 1)) (K _ _ ⟨by omega, show rt_L f (j + 1) ≤ l by omega, show _ = nI (rt_V f (n + h) (rt_L f (j + 1))) by rw [e]; rfl, show _ = nI (rt_L f (j + 1)) by rw [e]; rfl⟩)
/-- the cursor's offset in its line -/
def rt_ck (f : Nat → Int32) (w T ci mc : Nat) : Nat := (ci - rt_V f T (rt_L f ci)) * w + mc
theorem rx_cursorOffset {w h s n y x sy sx tp bt : Nat} {al pd sp fn fu : Int32} {g f fc ff : Nat → Int32} {P : Int32 → Prop} (hT : n + h ≤ 32) (hm : rt_mr al y sy < h) (H : P (nI (rt_ck f w (n + h) (n + rt_mr al y sy) (rt_mr al x sx)))) : wpX_cursorOffset P (fn, fu, (nI w), (nI h), (nI s), (nI n), al, (nI tp), (nI bt), (nI y), (nI x), pd, (nI sy), (nI sx), sp, g, f, fc, ff) := by
  have hr := rt_V_row (f := f) (T := n + h) (r := n + rt_mr al y sy) (by omega)
  have hl := rt_L_m f (show n + rt_mr al y sy ≤ n + h - 1 by omega)
  unfold wpX_cursorOffset
  refine rx_cursorLine (by omega) (rx_lineStart _ hT (by omega) hl (rx_mr (nm_r (e' := nI (n + rt_mr al y sy - rt_V f (n + h) (rt_L f (n + rt_mr al y sy)))) ?_ (rx_mc ?_))))
  · rw [nI_add, pk_sub hr.1]
  · show P (_ * nI w + _)
    rw [pk_mul, nI_add]
    exact H
theorem rx_hasText {w h s n y x sy sx tp bt : Nat} {al pd sp fn fu : Int32} {g f fc ff : Nat → Int32} {P : Int32 → Prop} {A : Int32} (r : Nat) (hr : r < 32) (hw : w ≤ 16) (H1 : rt_hT g w r → P 1) (H0 : ¬ rt_hT g w r → P 0) (eA : A = nI r := by rfl) : wpX_hasText P (fn, fu, (nI w), (nI h), (nI s), (nI n), al, (nI tp), (nI bt), (nI y), (nI x), pd, (nI sy), (nI sx), sp, g, f, fc, ff) A := by
  subst eA
  refine pk_loop (fun N i (_ : Unit) => wX_hasText_2 P (nI r) fn fu (nI w) (nI h) (nI s) (nI n) al (nI tp) (nI bt) (nI y) (nI x) pd (nI sy) (nI sx) sp g f fc ff N (nI i)) (fun i _ => ∀ j, j < i → g (r * 16 + j) = 32) w 0 () (Nat.zero_le _) (fun j hj => by omega) ?_ ?_
  · rintro N _ I
    exact pk_le w w (fun _ => H0 (fun ⟨c, hc, hx⟩ => hx (I c hc))) (fun z => absurd z (by omega))
  · rintro N i _ hi I K
    exact pk_le w i (fun z => absurd z (by omega)) (fun _ => ⟨pk_in (r * 16 + i) 512 (by omega) (rt_ix r i), br_c (fun hx => nm_r (nI_1 i) (K () (lt_s I (rt_flE (r * 16 + i) (rt_ix r i) (by omega) hx)))) (fun hx => H1 ⟨i, hi, rt_nflE (r * 16 + i) (rt_ix r i) (by omega) hx⟩)⟩)
theorem rx_lc54 {w h s n y x sy sx tp bt : Nat} {al pd sp fn fu : Int32} {g f fc ff : Nat → Int32} {P : Int32 → Prop} {J : Int32 → Int32 → Int32 → Prop} {x1 x2 c : Int32} {i : Nat} (hi : i < 32) (H : J (nI (rt_L f (i + 1))) c (nI (i + 1))) : wX_lineCount_54 P J x1 x2 (nI (rt_L f i)) c (nI i) fn fu (nI w) (nI h) (nI s) (nI n) al (nI tp) (nI bt) (nI y) (nI x) pd (nI sy) (nI sx) sp g f fc ff :=
  ⟨pk_in i 32 hi, br_c (fun h => nm_r (by rw [nI_1, rt_L_z (rt_fl (by omega) h)]) (nm_r (nI_1 i) H)) (fun h => by
    rw [rt_L_n (rt_nfl (by omega) h)] at H
    exact nm_r (nI_1 i) H)⟩
theorem rx_lineCount {w h s n y x sy sx tp bt : Nat} {al pd sp fn fu : Int32} {g f fc ff : Nat → Int32} {P : Int32 → Prop} (hT : n + h ≤ 32) (hw : w ≤ 16) (hm : rt_mr al y sy < h) (H : P (nI (rt_N g f w (n + h) (n + rt_mr al y sy)))) : wpX_lineCount P (fn, fu, (nI w), (nI h), (nI s), (nI n), al, (nI tp), (nI bt), (nI y), (nI x), pd, (nI sy), (nI sx), sp, g, f, fc, ff) := by
  refine nm_r (nI_add _ _) (rx_mr (nm_r (nI_add _ _) ?_))
  refine rt_loop2 (fun N i (qa qb : Int32) => wX_lineCount_28 P (nI (n + h)) (nI (n + rt_mr al y sy)) fn fu (nI w) (nI h) (nI s) (nI n) al (nI tp) (nI bt) (nI y) (nI x) pd (nI sy) (nI sx) sp g f fc ff N qa qb (nI i)) (fun i qa qb => qa = nI (rt_L f i) ∧ qb = nI (rt_C f (fun r => r = n + rt_mr al y sy ∨ rt_hT g w r) i)) (n + h) 0 0 0 (Nat.zero_le _) ⟨rfl, rfl⟩ ?_ ?_
  · rintro N qa qb ⟨rfl, rfl⟩
    exact pk_le (n + h) (n + h) (fun _ => H) (fun z => absurd z (by omega))
  · rintro N i qa qb hi ⟨rfl, rfl⟩ K
    have yes : (i = n + rt_mr al y sy ∨ rt_hT g w i) → wX_lineCount_49 P (wX_lineCount_28 P (nI (n + h)) (nI (n + rt_mr al y sy)) fn fu (nI w) (nI h) (nI s) (nI n) al (nI tp) (nI bt) (nI y) (nI x) pd (nI sy) (nI sx) sp g f fc ff N) (nI (n + h)) (nI (n + rt_mr al y sy)) (nI (rt_L f i)) (nI i) fn fu (nI w) (nI h) (nI s) (nI n) al (nI tp) (nI bt) (nI y) (nI x) pd (nI sy) (nI sx) sp g f fc ff := fun hp =>
      nm_r (nI_1 _) (rx_lc54 (by omega) (K _ _ ⟨rfl, by rw [rt_C_t (P := fun r => r = n + rt_mr al y sy ∨ rt_hT g w r) hp]⟩))
    refine pk_le (n + h) i (fun z => absurd z (by omega)) (fun _ => pk_eq i (n + rt_mr al y sy) (fun e => yes (Or.inl e)) (fun e => rx_hasText i (by omega) hw (fun hx => br_f (by decide) (yes (Or.inr hx))) (fun hx => br_t rfl (rx_lc54 (by omega) (K _ _ ⟨rfl, ?_⟩)))))
    rw [rt_C_f (P := fun r => r = n + rt_mr al y sy ∨ rt_hT g w r) (fun z => z.elim e hx)]
theorem rx_lineEnd {w h s n y x sy sx tp bt : Nat} {al pd sp fn fu : Int32} {g f fc ff : Nat → Int32} {P : Int32 → Prop} {A : Int32} (l : Nat) (hT : n + h ≤ 32) (h0 : 0 < n + h) (hl : l ≤ rt_L f (n + h - 1)) (H : P (nI (rt_V f (n + h) (l + 1)))) (eA : A = nI (rt_V f (n + h) l) := by rfl) : wpX_lineEnd P (fn, fu, (nI w), (nI h), (nI s), (nI n), al, (nI tp), (nI bt), (nI y), (nI x), pd, (nI sy), (nI sx), sp, g, f, fc, ff) A := by
  subst eA
  have hne := rt_V_ne h0 hl
  have hle := rt_V_le f (n + h) (l + 1)
  refine nm_r (nI_add _ _) (nm_r (nI_1 _) ?_)
  refine pk_loop (fun N i (_ : Unit) => wX_lineEnd_14 P (nI (n + h)) fn fu (nI w) (nI h) (nI s) (nI n) al (nI tp) (nI bt) (nI y) (nI x) pd (nI sy) (nI sx) sp g f fc ff N (nI i)) (fun i _ => 1 ≤ i ∧ rt_L f (i - 1) = l) (n + h) (rt_V f (n + h) l + 1) () (by omega) ⟨by omega, (rt_V_in (Nat.le_refl _) hne).2⟩ ?_ ?_
  · rintro N _ ⟨h1, h2⟩
    refine pk_le (n + h) (n + h) (fun _ => ?_) (fun z => absurd z (by omega))
    rw [rt_V_T h0 (by omega)] at H
    exact H
  · rintro N i _ hi ⟨h1, h2⟩ K
    obtain ⟨j, rfl⟩ : ∃ j, i = j + 1 := ⟨i - 1, by omega⟩
    have hj : rt_L f j = l := h2
    refine pk_le (n + h) (j + 1) (fun z => absurd z (by omega)) (fun _ => ⟨pk_in j 32 (by omega) (nI_pred j), br_c (fun hf => ?_) (fun hf => nm_r (nI_1 (j + 1)) (K () ⟨by omega, ?_⟩))⟩)
    · have z0 := rt_flE j (nI_pred j) (by omega) hf
      have e := rt_V_st (T := n + h) (by omega) z0 (by omega)
      rw [rt_L_z z0, hj] at e
      rw [e] at H
      exact H
    · show rt_L f (j + 1) = l
      rw [rt_L_n (rt_nflE j (nI_pred j) (by omega) hf), hj]
theorem rx_textChar {w h s n y x sy sx tp bt : Nat} {al pd sp fn fu : Int32} {g f fc ff : Nat → Int32} {P : Int32 → Prop} {A B : Int32} (st j : Nat) (h0 : 0 < w) (hw : w ≤ 16) (hst : st + j / w < 32) (hj : j < 2 ^ 20) (H : P (rt_tx g w st j)) (eA : A = nI st := by rfl) (eB : B = nI j := by rfl) : wpX_textChar P (fn, fu, (nI w), (nI h), (nI s), (nI n), al, (nI tp), (nI bt), (nI y), (nI x), pd, (nI sy), (nI sx), sp, g, f, fc, ff) A B := by
  subst eA eB
  have hm := Nat.mod_lt j h0
  have e : (nI st + nI j / nI w) * 16 + (nI j - nI j / nI w * nI w) = nI ((st + j / w) * 16 + j % w) := by
    rw [pk_rem (by omega) h0 (by omega), pk_div (by omega) h0 (by omega), nI_add, rt_ix]
  refine ⟨nI_ne0 h0 (by omega), nI_ne0 h0 (by omega), pk_in _ 512 (by omega) e, ?_⟩
  rw [rt_rd (a := g) e (by omega)]
  exact H
theorem rx_textLength {w h s n y x sy sx tp bt : Nat} {al pd sp fn fu : Int32} {g f fc ff : Nat → Int32} {P : Int32 → Prop} {A : Int32} (l : Nat) (hT : n + h ≤ 32) (h0 : 0 < n + h) (hw0 : 0 < w) (hw : w ≤ 16) (hl : l ≤ rt_L f (n + h - 1)) (H : P (nI (rt_ln g f w (n + h) l))) (eA : A = nI (rt_V f (n + h) l) := by rfl) : wpX_textLength P (fn, fu, (nI w), (nI h), (nI s), (nI n), al, (nI tp), (nI bt), (nI y), (nI x), pd, (nI sy), (nI sx), sp, g, f, fc, ff) A := by
  subst eA
  have hne := rt_V_ne h0 hl
  have hle := rt_V_le f (n + h) (l + 1)
  have hpl : (rt_V f (n + h) (l + 1) - rt_V f (n + h) l) * w ≤ 32 * 16 := Nat.mul_le_mul (by omega) hw
  unfold wpX_textLength
  refine rx_lineEnd l hT h0 hl (nm_r (show (nI (rt_V f (n + h) (l + 1)) - nI (rt_V f (n + h) l)) * nI w = nI ((rt_V f (n + h) (l + 1) - rt_V f (n + h) l) * w) by rw [pk_sub (by omega), pk_mul]) ⟨_, pk_loopD (fun N i (_ : Unit) => wX_textLength_15 P (nI (rt_V f (n + h) l)) fn fu (nI w) (nI h) (nI s) (nI n) al (nI tp) (nI bt) (nI y) (nI x) pd (nI sy) (nI sx) sp g f fc ff N (nI i)) (fun i _ => i ≤ (rt_V f (n + h) (l + 1) - rt_V f (n + h) l) * w ∧ rt_len (rt_tx g w (rt_V f (n + h) l)) i = rt_ln g f w (n + h) l) ?_ ?_ _ () ⟨Nat.le_refl _, rfl⟩⟩)
  · rintro N _ ⟨h1, h2⟩
    refine pk_le 0 0 (fun _ => ?_) (fun z => absurd z (by omega))
    rw [← h2] at H
    exact H
  · rintro N i _ ⟨h1, h2⟩ K
    have hq : i / w < rt_V f (n + h) (l + 1) - rt_V f (n + h) l := Nat.div_lt_of_lt_mul (by rw [Nat.mul_comm]; omega)
    refine pk_le (i + 1) 0 (fun z => absurd z (by omega)) (fun _ => rx_textChar (rt_V f (n + h) l) i hw0 hw (by omega) (by omega) (br_c (fun hx => nm_r (pk_m1 i) (K () ⟨by omega, ?_⟩)) (fun hx => ?_)) rfl (nI_pred i))
    · rw [← h2, rt_len_b hx]
    · rw [← h2, rt_len_t hx] at H
      exact H
end
section
/-! Y's scroll -/
theorem rt_iy (a r c : Nat) : nI a + nI r * 16 + nI c = nI (a + r * 16 + c) := by
  rw [show (16 : Int32) = nI 16 from rfl, pk_mul, nI_add, nI_add]
theorem ry_298 {w h s n y x sy sx tp bt : Nat} {al pd sp lc cl ck : Int32} {sb sbf sc scf rb rbf ls lr ll : Nat → Int32} {post : SY → Prop} {bb : Nat} (hbb : bb ≤ 8) (hb : bt < 8) (H : post ((nI w), (nI h), (nI s), (nI n), (nI y), (nI x), (nI sy), (nI sx), (nI tp), (nI bt), al, pd, sp, lc, cl, ck, sb, sbf, (rt_put sc ((bb + bt) * 16) 16 (fun _ => 32)), (upd scf (bb + bt) 0), rb, rbf, ls, lr, ll)) : ∃ N, wY_scroll_298 post (nI (bb * 16)) (nI bb) (nI w) (nI h) (nI s) (nI n) (nI y) (nI x) (nI sy) (nI sx) (nI tp) (nI bt) al pd sp lc cl ck N 0 sb sbf sc scf rb rbf ls lr ll := by
  have e : ∀ i, nI (bb * 16) + nI bt * 16 + nI i = nI ((bb + bt) * 16 + i) := fun i => by rw [rt_iy]; congr 1; omega
  refine pk_loop (fun N i c => wY_scroll_298 post (nI (bb * 16)) (nI bb) (nI w) (nI h) (nI s) (nI n) (nI y) (nI x) (nI sy) (nI sx) (nI tp) (nI bt) al pd sp lc cl ck N (nI i) sb sbf c scf rb rbf ls lr ll) (fun i c => c = rt_put sc ((bb + bt) * 16) i (fun _ => 32)) 16 0 sc (by omega) (rt_put_0 _ _ _).symm ?_ ?_
  · rintro N c rfl
    exact pk_le 16 16 (fun _ => ⟨pk_in (bb + bt) 16 (by omega) (nI_add bb bt), nm_r (rt_us (nI_add bb bt) (by omega) rt_nar0) H⟩) (fun z => absurd z (by omega))
  · rintro N i c hi rfl K
    exact pk_le 16 i (fun z => absurd z (by omega)) (fun _ => ⟨pk_in ((bb + bt) * 16 + i) 256 (by omega) (e i), nm_r ((rt_us (e i) (by omega) rfl).trans (rt_put_s rfl)) (nm_r (nI_1 i) (K _ rfl))⟩)
theorem ry_229 {w h s n y x sy sx tp bt : Nat} {al pd sp lc cl ck : Int32} {sb sbf sc scf rb rbf ls lr ll : Nat → Int32} {post : SY → Prop} {J : Int32 → (Nat → Int32) → (Nat → Int32) → (Nat → Int32) → (Nat → Int32) → (Nat → Int32) → (Nat → Int32) → (Nat → Int32) → (Nat → Int32) → (Nat → Int32) → Prop} {bb r : Nat} (hbb : bb ≤ 8) (hr : r < 7) (hf : rt_01 (scf (bb + r + 1))) (H : J (nI (r + 1)) sb sbf (rt_put sc ((bb + r) * 16) 16 (fun j => sc ((bb + r + 1) * 16 + j))) (upd scf (bb + r) (scf (bb + r + 1))) rb rbf ls lr ll) : ∃ N, wY_scroll_229 post J (nI (bb * 16)) (nI bb) (nI r) (nI w) (nI h) (nI s) (nI n) (nI y) (nI x) (nI sy) (nI sx) (nI tp) (nI bt) al pd sp lc cl ck N 0 sb sbf sc scf rb rbf ls lr ll := by
  have e : ∀ i, nI (bb * 16) + nI r * 16 + nI i = nI ((bb + r) * 16 + i) := fun i => by rw [rt_iy]; congr 1; omega
  have e1 : ∀ i, nI (bb * 16) + (nI r + 1) * 16 + nI i = nI ((bb + r + 1) * 16 + i) := fun i => by rw [nI_1, rt_iy]; congr 1; omega
  have e2 : nI bb + nI r + 1 = nI (bb + r + 1) := by rw [nI_add, nI_1]
  refine pk_loop (fun N i c => wY_scroll_229 post J (nI (bb * 16)) (nI bb) (nI r) (nI w) (nI h) (nI s) (nI n) (nI y) (nI x) (nI sy) (nI sx) (nI tp) (nI bt) al pd sp lc cl ck N (nI i) sb sbf c scf rb rbf ls lr ll) (fun i c => c = rt_put sc ((bb + r) * 16) i (fun j => sc ((bb + r + 1) * 16 + j))) 16 0 sc (by omega) (rt_put_0 _ _ _).symm ?_ ?_
  · rintro N c rfl
    exact pk_le 16 16 (fun _ => ⟨pk_in (bb + r + 1) 16 (by omega) e2, pk_in (bb + r) 16 (by omega) (nI_add bb r), nm_r (rt_us (nI_add bb r) (by omega) ((congrArg _ (rt_rd e2 (by omega))).trans (rt_nar hf))) (nm_r (nI_1 r) H)⟩) (fun z => absurd z (by omega))
  · rintro N i c hi rfl K
    exact pk_le 16 i (fun z => absurd z (by omega)) (fun _ => ⟨pk_in ((bb + r + 1) * 16 + i) 256 (by omega) (e1 i), pk_in ((bb + r) * 16 + i) 256 (by omega) (e i), nm_r ((rt_us (e i) (by omega) ((rt_rd (e1 i) (by omega)).trans (rt_put_out (by omega)))).trans (rt_put_s rfl)) (nm_r (nI_1 i) (K _ rfl))⟩)
theorem ry_212 {w h s n y x sy sx tp bt : Nat} {al pd sp lc cl ck : Int32} {sb sbf sc scf rb rbf ls lr ll : Nat → Int32} {post : SY → Prop} {bb : Nat} (hbb : bb ≤ 8) (h1 : tp ≤ bt) (h2 : bt < 8) (hf : rt_B01 scf) (H : post ((nI w), (nI h), (nI s), (nI n), (nI y), (nI x), (nI sy), (nI sx), (nI tp), (nI bt), al, pd, sp, lc, cl, ck, sb, sbf, (rt_shC sc (bb + tp) (bb + bt)), (rt_shF scf (bb + tp) (bb + bt)), rb, rbf, ls, lr, ll)) : ∃ N, wY_scroll_212 post (nI (bb * 16)) (nI bb) (nI w) (nI h) (nI s) (nI n) (nI y) (nI x) (nI sy) (nI sx) (nI tp) (nI bt) al pd sp lc cl ck N (nI tp) sb sbf sc scf rb rbf ls lr ll := by
  refine rt_loop2 (fun N i (qa qb : Nat → Int32) => wY_scroll_212 post (nI (bb * 16)) (nI bb) (nI w) (nI h) (nI s) (nI n) (nI y) (nI x) (nI sy) (nI sx) (nI tp) (nI bt) al pd sp lc cl ck N (nI i) sb sbf qa qb rb rbf ls lr ll) (fun i qa qb => tp ≤ i ∧ qa = rt_put sc ((bb + tp) * 16) ((i - tp) * 16) (fun j => sc ((bb + tp + 1) * 16 + j)) ∧ qb = rt_put scf (bb + tp) (i - tp) (fun j => scf (bb + tp + 1 + j))) bt tp sc scf h1 ⟨Nat.le_refl _, by rw [Nat.sub_self, Nat.zero_mul, rt_put_0], by rw [Nat.sub_self, rt_put_0]⟩ ?_ ?_
  · rintro N qa qb ⟨-, rfl, rfl⟩
    refine pk_le bt bt (fun _ => ry_298 hbb h2 ?_) (fun z => absurd z (by omega))
    have a := rt_shC_eq sc (show bb + tp ≤ bb + bt by omega)
    have b := rt_shF_eq scf (show bb + tp ≤ bb + bt by omega)
    rw [show bb + bt - (bb + tp) = bt - tp by omega] at a b
    show post _
    rw [a, b]
    exact H
  · rintro N i qa qb hi ⟨ha, rfl, rfl⟩ K
    · have e1 : rt_put (rt_put sc ((bb + tp) * 16) ((i - tp) * 16) (fun j => sc ((bb + tp + 1) * 16 + j))) ((bb + i) * 16) 16 (fun j => rt_put sc ((bb + tp) * 16) ((i - tp) * 16) (fun j => sc ((bb + tp + 1) * 16 + j)) ((bb + i + 1) * 16 + j)) = rt_put sc ((bb + tp) * 16) ((i + 1 - tp) * 16) (fun j => sc ((bb + tp + 1) * 16 + j)) := by
        rw [rt_put_a (v := fun j => sc ((bb + tp + 1) * 16 + j)) (by omega) (fun j hj => by
          show rt_put _ _ _ _ _ = _
          rw [rt_put_out (by omega)]; congr 1; omega)]
        congr 1; omega
      have e2 : upd (rt_put scf (bb + tp) (i - tp) (fun j => scf (bb + tp + 1 + j))) (bb + i) (rt_put scf (bb + tp) (i - tp) (fun j => scf (bb + tp + 1 + j)) (bb + i + 1)) = rt_put scf (bb + tp) (i + 1 - tp) (fun j => scf (bb + tp + 1 + j)) := by
        have h := rt_put_s (g := scf) (v := fun j => scf (bb + tp + 1 + j)) (b := bb + tp) (m := i - tp) (x := rt_put scf (bb + tp) (i - tp) (fun j => scf (bb + tp + 1 + j)) (bb + i + 1)) (by
          rw [rt_put_out (by omega)]; congr 1; omega)
        rw [show bb + tp + (i - tp) = bb + i by omega, show i - tp + 1 = i + 1 - tp by omega] at h
        exact h
      exact pk_le bt i (fun z => absurd z (by omega)) (fun _ => pk_le 7 i (fun z => absurd z (by omega)) (fun _ => ry_229 hbb (by omega) (rt_B_put hf (fun j _ => hf _) _) (K _ _ ⟨by omega, e1, e2⟩)))
theorem ry_63 {w h s n y x sy sx tp bt : Nat} {al pd sp lc cl ck : Int32} {sb sbf sc scf rb rbf ls lr ll : Nat → Int32} {post : SY → Prop} {J : Int32 → (Nat → Int32) → (Nat → Int32) → (Nat → Int32) → (Nat → Int32) → (Nat → Int32) → (Nat → Int32) → (Nat → Int32) → (Nat → Int32) → (Nat → Int32) → Prop} {x1 x2 : Int32} {r : Nat} (hr : r < 15) (hf : rt_01 (sbf (r + 1))) (H : J (nI (r + 1)) (rt_put sb (r * 16) 16 (fun j => sb ((r + 1) * 16 + j))) (upd sbf r (sbf (r + 1))) sc scf rb rbf ls lr ll) : ∃ N, wY_scroll_63 post J x1 x2 (nI r) (nI w) (nI h) (nI s) (nI n) (nI y) (nI x) (nI sy) (nI sx) (nI tp) (nI bt) al pd sp lc cl ck N 0 sb sbf sc scf rb rbf ls lr ll := by
  have e1 : ∀ i, (nI r + 1) * 16 + nI i = nI ((r + 1) * 16 + i) := fun i => by rw [nI_1, rt_ix]
  refine pk_loop (fun N i c => wY_scroll_63 post J x1 x2 (nI r) (nI w) (nI h) (nI s) (nI n) (nI y) (nI x) (nI sy) (nI sx) (nI tp) (nI bt) al pd sp lc cl ck N (nI i) c sbf sc scf rb rbf ls lr ll) (fun i c => c = rt_put sb (r * 16) i (fun j => sb ((r + 1) * 16 + j))) 16 0 sb (by omega) (rt_put_0 _ _ _).symm ?_ ?_
  · rintro N c rfl
    exact pk_le 16 16 (fun _ => ⟨pk_in (r + 1) 16 (by omega) (nI_1 r), pk_in r 16 (by omega), nm_r (rt_us rfl (by omega) ((congrArg _ (rt_rd (nI_1 r) (by omega))).trans (rt_nar hf))) (nm_r (nI_1 r) H)⟩) (fun z => absurd z (by omega))
  · rintro N i c hi rfl K
    exact pk_le 16 i (fun z => absurd z (by omega)) (fun _ => ⟨pk_in ((r + 1) * 16 + i) 256 (by omega) (e1 i), pk_in (r * 16 + i) 256 (by omega) (rt_ix r i), nm_r ((rt_us (rt_ix r i) (by omega) ((rt_rd (e1 i) (by omega)).trans (rt_put_out (by omega)))).trans (rt_put_s rfl)) (nm_r (nI_1 i) (K _ rfl))⟩)
theorem ry_44 {w h s n y x sy sx tp bt : Nat} {al pd sp lc cl ck : Int32} {sb sbf sc scf rb rbf ls lr ll : Nat → Int32} {post : SY → Prop} {x1 x2 : Int32} (h0 : 0 < n) (hn : n ≤ 16) (hf : rt_B01 sbf) (H : wY_scroll_122 post x1 x2 (nI w) (nI h) (nI s) (nI n) (nI y) (nI x) (nI sy) (nI sx) (nI tp) (nI bt) al pd sp lc cl ck (rt_put sb 0 ((n - 1) * 16) (fun j => sb (16 + j))) (rt_put sbf 0 (n - 1) (fun j => sbf (1 + j))) sc scf rb rbf ls lr ll) : ∃ N, wY_scroll_44 post x1 x2 (nI w) (nI h) (nI s) (nI n) (nI y) (nI x) (nI sy) (nI sx) (nI tp) (nI bt) al pd sp lc cl ck N 0 sb sbf sc scf rb rbf ls lr ll := by
  refine rt_loop2 (fun N i (qa qb : Nat → Int32) => wY_scroll_44 post x1 x2 (nI w) (nI h) (nI s) (nI n) (nI y) (nI x) (nI sy) (nI sx) (nI tp) (nI bt) al pd sp lc cl ck N (nI i) qa qb sc scf rb rbf ls lr ll) (fun i qa qb => qa = rt_put sb 0 (i * 16) (fun j => sb (16 + j)) ∧ qb = rt_put sbf 0 i (fun j => sbf (1 + j))) (n - 1) 0 sb sbf (Nat.zero_le _) ⟨by rw [Nat.zero_mul, rt_put_0], by rw [rt_put_0]⟩ ?_ ?_
  · rintro N qa qb ⟨rfl, rfl⟩
    exact pk_le n (n - 1 + 1) (fun _ => H) (fun z => absurd z (by omega)) rfl (nI_1 _)
  · rintro N i qa qb hi ⟨rfl, rfl⟩ K
    · have e1 : rt_put (rt_put sb 0 (i * 16) (fun j => sb (16 + j))) (i * 16) 16 (fun j => rt_put sb 0 (i * 16) (fun j => sb (16 + j)) ((i + 1) * 16 + j)) = rt_put sb 0 ((i + 1) * 16) (fun j => sb (16 + j)) := by
        rw [rt_put_a (v := fun j => sb (16 + j)) (by omega) (fun j hj => by
          show rt_put _ _ _ _ _ = _
          rw [rt_put_out (by omega)]; congr 1; omega)]
        congr 1; omega
      have e2 : upd (rt_put sbf 0 i (fun j => sbf (1 + j))) i (rt_put sbf 0 i (fun j => sbf (1 + j)) (i + 1)) = rt_put sbf 0 (i + 1) (fun j => sbf (1 + j)) := by
        have h := rt_put_s (g := sbf) (v := fun j => sbf (1 + j)) (b := 0) (m := i) (x := rt_put sbf 0 i (fun j => sbf (1 + j)) (i + 1)) (by
          rw [rt_put_out (by omega)]; congr 1; omega)
        rw [Nat.zero_add] at h
        exact h
      exact pk_le n (i + 1) (fun z => absurd z (by omega)) (fun _ => pk_le 15 i (fun z => absurd z (by omega)) (fun _ => ry_63 (by omega) (rt_B_put hf (fun j _ => hf _) _) (K _ _ ⟨e1, e2⟩))) rfl (nI_1 _)
theorem ry_150 {w h s n y x sy sx tp bt : Nat} {al pd sp lc cl ck : Int32} {sb sbf sc scf rb rbf ls lr ll : Nat → Int32} {post : SY → Prop} {x1 x2 : Int32} (hn : n < 16) (hf : rt_01 (scf 0)) (H : ∃ N, wY_scroll_212 post x1 x2 (nI w) (nI h) (nI s) (nI (n + 1)) (nI y) (nI x) (nI sy) (nI sx) (nI tp) (nI bt) al pd sp lc cl ck N (nI tp) (rt_put sb (n * 16) 16 sc) (upd sbf n (scf 0)) sc scf rb rbf ls lr ll) : ∃ N, wY_scroll_150 post x1 x2 (nI w) (nI h) (nI s) (nI n) (nI y) (nI x) (nI sy) (nI sx) (nI tp) (nI bt) al pd sp lc cl ck N 0 sb sbf sc scf rb rbf ls lr ll := by
  refine pk_loop (fun N i c => wY_scroll_150 post x1 x2 (nI w) (nI h) (nI s) (nI n) (nI y) (nI x) (nI sy) (nI sx) (nI tp) (nI bt) al pd sp lc cl ck N (nI i) c sbf sc scf rb rbf ls lr ll) (fun i c => c = rt_put sb (n * 16) i sc) 16 0 sb (by omega) (rt_put_0 _ _ _).symm ?_ ?_
  · rintro N c rfl
    exact pk_le 16 16 (fun _ => ⟨pk_in n 16 hn, nm_r (rt_us rfl (by omega) (rt_nar hf)) (nm_r (nI_1 n) H)⟩) (fun z => absurd z (by omega))
  · rintro N i c hi rfl K
    exact pk_le 16 i (fun z => absurd z (by omega)) (fun _ => ⟨pk_in i 256 (by omega), pk_in (n * 16 + i) 256 (by omega) (rt_ix n i), nm_r ((rt_us (rt_ix n i) (by omega) (rt_rd rfl (by omega))).trans (rt_put_s rfl)) (nm_r (nI_1 i) (K _ rfl))⟩)
theorem ry_scroll1 {w h s n y x sy sx tp bt : Nat} {al pd sp lc cl ck : Int32} {sb sbf sc scf rb rbf ls lr ll : Nat → Int32} {post : SY → Prop} (hal : ¬ al = 0) (h1 : tp ≤ bt) (h2 : bt < 8) (hf : rt_B01 scf) (H : post ((nI w), (nI h), (nI s), (nI n), (nI y), (nI x), (nI sy), (nI sx), (nI tp), (nI bt), al, pd, sp, lc, cl, ck, sb, sbf, (rt_shC sc (8 + tp) (8 + bt)), (rt_shF scf (8 + tp) (8 + bt)), rb, rbf, ls, lr, ll)) : wpY_scroll post ((nI w), (nI h), (nI s), (nI n), (nI y), (nI x), (nI sy), (nI sx), (nI tp), (nI bt), al, pd, sp, lc, cl, ck, sb, sbf, sc, scf, rb, rbf, ls, lr, ll) :=
  br_f hal (br_f hal (br_f hal (ry_212 (bb := 8) (by omega) h1 h2 hf H)))
theorem ry_212z {w h s n y x sy sx tp bt : Nat} {al pd sp lc cl ck : Int32} {sb sbf sc scf rb rbf ls lr ll : Nat → Int32} {post : SY → Prop} (h1 : tp ≤ bt) (h2 : bt < 8) (hf : rt_B01 scf) (H : post ((nI w), (nI h), (nI s), (nI n), (nI y), (nI x), (nI sy), (nI sx), (nI tp), (nI bt), al, pd, sp, lc, cl, ck, sb, sbf, (rt_shC sc tp bt), (rt_shF scf tp bt), rb, rbf, ls, lr, ll)) : ∃ N, wY_scroll_212 post 0 0 (nI w) (nI h) (nI s) (nI n) (nI y) (nI x) (nI sy) (nI sx) (nI tp) (nI bt) al pd sp lc cl ck N (nI tp) sb sbf sc scf rb rbf ls lr ll :=
  ry_212 (bb := 0) (by omega) h1 h2 hf (by rw [Nat.zero_add, Nat.zero_add]; exact H)
theorem ry_scroll0 {w h s n y x sy sx tp bt : Nat} {al pd sp lc cl ck : Int32} {sb sbf sc scf rb rbf ls lr ll : Nat → Int32} {post : SY → Prop} (hal : al = 0) (ht : 0 < tp ∨ s = 0) (h1 : tp ≤ bt) (h2 : bt < 8) (hs : s ≤ 16) (hf : rt_B01 scf) (H : post ((nI w), (nI h), (nI s), (nI n), (nI y), (nI x), (nI sy), (nI sx), (nI tp), (nI bt), al, pd, sp, lc, cl, ck, sb, sbf, (rt_shC sc tp bt), (rt_shF scf tp bt), rb, rbf, ls, lr, ll)) : wpY_scroll post ((nI w), (nI h), (nI s), (nI n), (nI y), (nI x), (nI sy), (nI sx), (nI tp), (nI bt), al, pd, sp, lc, cl, ck, sb, sbf, sc, scf, rb, rbf, ls, lr, ll) :=
  br_t hal (br_t hal (br_t hal (pk_eq tp 0 (fun z => pk_le s 0 (fun _ => ry_212z h1 h2 hf H) (fun z => absurd ht (by omega))) (fun _ => ry_212z h1 h2 hf H))))
theorem ry_scrollF {w h s n y x sy sx tp bt : Nat} {al pd sp lc cl ck : Int32} {sb sbf sc scf rb rbf ls lr ll : Nat → Int32} {post : SY → Prop} (hal : al = 0) (ht : tp = 0) (h0 : 0 < n) (hs : n = s) (hs2 : s ≤ 16) (h2 : bt < 8) (hf : rt_B01 scf) (hf2 : rt_B01 sbf) (H : post ((nI w), (nI h), (nI s), (nI n), (nI y), (nI x), (nI sy), (nI sx), (nI tp), (nI bt), al, pd, sp, lc, cl, ck, (rt_put (rt_put sb 0 ((n - 1) * 16) (fun j => sb (16 + j))) ((n - 1) * 16) 16 sc), (upd (rt_put sbf 0 (n - 1) (fun j => sbf (1 + j))) (n - 1) (scf 0)), (rt_shC sc tp bt), (rt_shF scf tp bt), rb, rbf, ls, lr, ll)) : wpY_scroll post ((nI w), (nI h), (nI s), (nI n), (nI y), (nI x), (nI sy), (nI sx), (nI tp), (nI bt), al, pd, sp, lc, cl, ck, sb, sbf, sc, scf, rb, rbf, ls, lr, ll) := by
  refine br_t hal (br_t hal (br_t hal (pk_eq tp 0 (fun _ => pk_le s 0 (fun z => absurd z (by omega)) (fun _ => pk_eq n s (fun _ => ry_44 h0 (by omega) hf2 ?_) (fun z => absurd hs z))) (fun z => absurd ht z))))
  refine nm_r (pk_sub (b := 1) (by omega)) (pk_lt (n - 1) 0 (fun z => absurd z (by omega)) (fun _ => pk_le 16 (n - 1) (fun z => absurd z (by omega)) (fun _ => ry_150 (by omega) (hf 0) ?_)))
  rw [show n - 1 + 1 = n by omega]
  exact ry_212z (by omega) h2 hf H
theorem ry_scrollG {w h s n y x sy sx tp bt : Nat} {al pd sp lc cl ck : Int32} {sb sbf sc scf rb rbf ls lr ll : Nat → Int32} {post : SY → Prop} (hal : al = 0) (ht : tp = 0) (hs : n < s) (hs2 : s ≤ 16) (h2 : bt < 8) (hf : rt_B01 scf) (H : post ((nI w), (nI h), (nI s), (nI (n + 1)), (nI y), (nI x), (nI sy), (nI sx), (nI tp), (nI bt), al, pd, sp, lc, cl, ck, (rt_put sb (n * 16) 16 sc), (upd sbf n (scf 0)), (rt_shC sc tp bt), (rt_shF scf tp bt), rb, rbf, ls, lr, ll)) : wpY_scroll post ((nI w), (nI h), (nI s), (nI n), (nI y), (nI x), (nI sy), (nI sx), (nI tp), (nI bt), al, pd, sp, lc, cl, ck, sb, sbf, sc, scf, rb, rbf, ls, lr, ll) :=
  br_t hal (br_t hal (br_t hal (pk_eq tp 0 (fun _ => pk_le s 0 (fun z => absurd z (by omega)) (fun _ => pk_eq n s (fun z => absurd z (by omega)) (fun _ => pk_lt n 0 (fun z => absurd z (by omega)) (fun _ => pk_le 16 n (fun z => absurd z (by omega)) (fun _ => ry_150 (by omega) (hf 0) (ry_212z (by omega) h2 hf H)))))) (fun z => absurd ht z))))
end
section
/-! the relation -/
def rt_I (w h s n y x sy sx tp bt : Nat) (al pd sp : Int32) : Prop := 4 ≤ w ∧ w ≤ 16 ∧ 2 ≤ h ∧ h ≤ 8 ∧ s ≤ 16 ∧ n ≤ s ∧ y < h ∧ x < w ∧ tp < bt ∧ bt < h ∧ rt_01 al ∧ rt_01 pd ∧ rt_01 sp ∧ (¬ al = 0 → sy < h ∧ sx < w)
def i_Rel (_ : Nat) (u : SX) (v : SY) : Prop := ∃ (w h s n y x sy sx tp bt : Nat) (al pd sp fn fu lc cl ck : Int32) (g f fc ff sb sbf sc scf rb rbf ls lr ll : Nat → Int32), u = (fn, fu, (nI w), (nI h), (nI s), (nI n), al, (nI tp), (nI bt), (nI y), (nI x), pd, (nI sy), (nI sx), sp, g, f, fc, ff) ∧ v = ((nI w), (nI h), (nI s), (nI n), (nI y), (nI x), (nI sy), (nI sx), (nI tp), (nI bt), al, pd, sp, lc, cl, ck, sb, sbf, sc, scf, rb, rbf, ls, lr, ll) ∧ rt_I w h s n y x sy sx tp bt al pd sp ∧ rt_Mc w h n g sb sc ∧ rt_Mf h n f sbf scf
theorem i_up {k : Nat} {u : SX} {v : SY} (h : i_Rel k u v) : i_Rel (k + 3) u v := h
theorem rl_mk {w h s n y x sy sx tp bt : Nat} {al pd sp fn fu : Int32} {g f fc ff : Nat → Int32} {lc cl ck : Int32} {sb sbf sc scf rb rbf ls lr ll : Nat → Int32} {k : Nat} (I : rt_I w h s n y x sy sx tp bt al pd sp) (C : rt_Mc w h n g sb sc) (F : rt_Mf h n f sbf scf) : i_Rel k (fn, fu, (nI w), (nI h), (nI s), (nI n), al, (nI tp), (nI bt), (nI y), (nI x), pd, (nI sy), (nI sx), sp, g, f, fc, ff) ((nI w), (nI h), (nI s), (nI n), (nI y), (nI x), (nI sy), (nI sx), (nI tp), (nI bt), al, pd, sp, lc, cl, ck, sb, sbf, sc, scf, rb, rbf, ls, lr, ll) :=
  ⟨w, h, s, n, y, x, sy, sx, tp, bt, al, pd, sp, fn, fu, lc, cl, ck, g, f, fc, ff, sb, sbf, sc, scf, rb, rbf, ls, lr, ll, rfl, rfl, I, C, F⟩
theorem rt_I_y {w h s n y x sy sx tp bt : Nat} {al pd sp : Int32} (I : rt_I w h s n y x sy sx tp bt al pd sp) {y' x' : Nat} {pd' : Int32} (hy : y' < h) (hx : x' < w) (hp : rt_01 pd') : rt_I w h s n y' x' sy sx tp bt al pd' sp := by
  obtain ⟨a1, a2, a3, a4, a5, a6, a7, a8, a9, a10, a11, a12, a13, a14⟩ := I
  exact ⟨a1, a2, a3, a4, a5, a6, hy, hx, a9, a10, a11, hp, a13, a14⟩
theorem rt_al1 {al : Int32} (h : rt_01 al) (h0 : ¬ al = 0) : al = 1 := h.resolve_left h0
theorem rt_iy0 (r c : Nat) : 0 + nI r * 16 + nI c = nI (r * 16 + c) := by
  have h := rt_iy 0 r c
  rw [Nat.zero_add] at h
  exact h
theorem rt_z0 (r : Nat) : 0 + nI r = nI r := by
  have h := nI_add 0 r
  rw [Nat.zero_add] at h
  exact h
theorem rl_lf {w h s n y x sy sx tp bt : Nat} {al pd sp fn fu : Int32} {g f fc ff : Nat → Int32} {lc cl ck : Int32} {sb sbf sc scf rb rbf ls lr ll : Nat → Int32} (I : rt_I w h s n y x sy sx tp bt al pd sp) (C : rt_Mc w h n g sb sc) (F : rt_Mf h n f sbf scf) : ∃ (n' y' : Nat) (g' f' sb' sbf' sc' scf' : Nat → Int32), rt_I w h s n' y' x sy sx tp bt al pd sp ∧ rt_Mc w h n' g' sb' sc' ∧ rt_Mf h n' f' sbf' scf' ∧ (∀ post : SX → Prop, post (fn, fu, (nI w), (nI h), (nI s), (nI n'), al, (nI tp), (nI bt), (nI y'), (nI x), pd, (nI sy), (nI sx), sp, g', f', fc, ff) → wpX_lineFeed post (fn, fu, (nI w), (nI h), (nI s), (nI n), al, (nI tp), (nI bt), (nI y), (nI x), pd, (nI sy), (nI sx), sp, g, f, fc, ff)) ∧ (∀ post : SY → Prop, post ((nI w), (nI h), (nI s), (nI n'), (nI y'), (nI x), (nI sy), (nI sx), (nI tp), (nI bt), al, pd, sp, lc, cl, ck, sb', sbf', sc', scf', rb, rbf, ls, lr, ll) → wpY_lineFeed post ((nI w), (nI h), (nI s), (nI n), (nI y), (nI x), (nI sy), (nI sx), (nI tp), (nI bt), al, pd, sp, lc, cl, ck, sb, sbf, sc, scf, rb, rbf, ls, lr, ll)) := by
  have I0 := I
  obtain ⟨a1, a2, a3, a4, a5, a6, a7, a8, a9, a10, a11, a12, a13, a14⟩ := I
  have f4 := F.2.2.2.1
  have f5 := F.2.2.2.2.1
  have f6 := F.2.2.2.2.2
  by_cases hy : y = bt
  · by_cases hal : al = 0
    · by_cases ht : tp = 0
      · by_cases hs : n < s
        · subst ht
          exact ⟨n + 1, y, _, _, _, _, _, _, ⟨a1, a2, a3, a4, a5, by omega, a7, a8, a9, a10, a11, a12, a13, a14⟩, rt_Mc_sg C a2 a4 (by omega) a10 (by omega), rt_Mf_sg F a4 (by omega) a10 (by omega), fun post H => pk_eq y bt (fun _ => rx_scrollG hal rfl hs a5 a10 a4 f4 H) (fun z => absurd hy z), fun post H => pk_eq y bt (fun _ => ry_scrollG hal rfl hs a5 (by omega) f6 H) (fun z => absurd hy z)⟩
        · by_cases h0 : n = 0
          · refine ⟨n, y, rt_shC g (n + tp) (n + bt), rt_shF f (n + tp) (n + bt), sb, sbf, rt_shC sc tp bt, rt_shF scf tp bt, I0, rt_Mc_s0 C a2 a4 (by omega) (by omega) a10, rt_Mf_s0 F a4 (by omega) (by omega) a10, fun post H => pk_eq y bt (fun _ => rx_scrollF hal ht (by omega) (by omega) f4 ?_) (fun z => absurd hy z), fun post H => pk_eq y bt (fun _ => ry_scroll0 hal (Or.inr (by omega)) (by omega) (by omega) a5 f6 H) (fun z => absurd hy z)⟩
            rw [show n + tp = 0 by omega] at H
            exact H
          · subst ht
            exact ⟨n, y, _, _, _, _, _, _, I0, rt_Mc_sf C a2 a4 (by omega) a10 (by omega), rt_Mf_sf F a4 (by omega) a10 (by omega), fun post H => pk_eq y bt (fun _ => rx_scrollF hal rfl (by omega) (by omega) f4 H) (fun z => absurd hy z), fun post H => pk_eq y bt (fun _ => ry_scrollF hal rfl (by omega) (by omega) a5 (by omega) f6 f5 H) (fun z => absurd hy z)⟩
      · exact ⟨n, y, _, _, _, _, _, _, I0, rt_Mc_s0 C a2 a4 (by omega) (Nat.le_of_lt a9) a10, rt_Mf_s0 F a4 (by omega) (Nat.le_of_lt a9) a10, fun post H => pk_eq y bt (fun _ => rx_scroll0 hal (by omega) (by omega) (by omega) f4 H) (fun z => absurd hy z), fun post H => pk_eq y bt (fun _ => ry_scroll0 hal (Or.inl (by omega)) (by omega) (by omega) a5 f6 H) (fun z => absurd hy z)⟩
    · exact ⟨n, y, _, _, _, _, _, _, I0, rt_Mc_s1 C a2 a4 (by omega) (Nat.le_of_lt a9) a10, rt_Mf_s1 F a4 (by omega) (Nat.le_of_lt a9) a10, fun post H => pk_eq y bt (fun _ => rx_scroll1 hal (by omega) (by omega) f4 H) (fun z => absurd hy z), fun post H => pk_eq y bt (fun _ => ry_scroll1 hal (by omega) (by omega) f6 H) (fun z => absurd hy z)⟩
  · by_cases hh : h - 1 ≤ y
    · exact ⟨n, y, g, f, sb, sbf, sc, scf, I0, C, F, fun post H => pk_eq y bt (fun z => absurd z hy) (fun _ => pk_le (h - 1) y (fun _ => H) (fun z => absurd z (by omega)) (pk_sub (b := 1) (by omega))), fun post H => pk_eq y bt (fun z => absurd z hy) (fun _ => pk_le (h - 1) y (fun _ => H) (fun z => absurd z (by omega)) (pk_sub (b := 1) (by omega)))⟩
    · exact ⟨n, y + 1, g, f, sb, sbf, sc, scf, rt_I_y I0 (by omega) a8 a12, C, F, fun post H => pk_eq y bt (fun z => absurd z hy) (fun _ => pk_le (h - 1) y (fun z => absurd z hh) (fun _ => nm_r (nI_1 y) H) (pk_sub (b := 1) (by omega))), fun post H => pk_eq y bt (fun z => absurd z hy) (fun _ => pk_le (h - 1) y (fun z => absurd z hh) (fun _ => nm_r (nI_1 y) H) (pk_sub (b := 1) (by omega)))⟩
theorem rl_p36 {w h s n y x sy sx tp bt : Nat} {al pd sp fn fu : Int32} {g f fc ff : Nat → Int32} {lc cl ck : Int32} {sb sbf sc scf rb rbf ls lr ll : Nat → Int32} (c : Int32) (I : rt_I w h s n y x sy sx tp bt al pd sp) (C : rt_Mc w h n g sb sc) : ∃ (x' : Nat) (pd' : Int32) (g' sc' : Nat → Int32), rt_I w h s n y x' sy sx tp bt al pd' sp ∧ rt_Mc w h n g' sb sc' ∧ (∀ post : SX → Prop, post (fn, fu, (nI w), (nI h), (nI s), (nI n), al, (nI tp), (nI bt), (nI y), (nI x'), pd', (nI sy), (nI sx), sp, g', f, fc, ff) → wX_print_36 post c fn fu (nI w) (nI h) (nI s) (nI n) al (nI tp) (nI bt) (nI y) (nI x) pd (nI sy) (nI sx) sp g f fc ff) ∧ (∀ post : Int32 → SY → Prop, post 1 ((nI w), (nI h), (nI s), (nI n), (nI y), (nI x'), (nI sy), (nI sx), (nI tp), (nI bt), al, pd', sp, lc, cl, ck, sb, sbf, sc', scf, rb, rbf, ls, lr, ll) → wY_put_48 post c (nI w) (nI h) (nI s) (nI n) (nI y) (nI x) (nI sy) (nI sx) (nI tp) (nI bt) al pd sp lc cl ck sb sbf sc scf rb rbf ls lr ll) := by
  have I0 := I
  obtain ⟨a1, a2, a3, a4, a5, a6, a7, a8, a9, a10, a11, a12, a13, a14⟩ := I
  have ew : nI w - 1 = nI (w - 1) := pk_sub (b := 1) (by omega)
  have e0 : (nI n + nI y) * 16 + nI x = nI ((n + y) * 16 + x) := by rw [nI_add, rt_ix]
  have e1 : (24 + nI y) * 16 + nI x = nI ((24 + y) * 16 + x) := by rw [show (24 : Int32) = nI 24 from rfl, nI_add, rt_ix]
  by_cases hal : al = 0
  · have M := rt_Mc_w0 (c := c) C a2 a4 (by omega) a7 (show x < 16 by omega)
    by_cases hx : x = w - 1
    · exact ⟨x, 1, _, _, rt_I_y I0 a7 a8 rt_01_1, M, fun post H => br_t hal ⟨pk_in _ 512 (by omega) e0, nm_r (rt_us e0 (by omega) rfl) (pk_eq x (w - 1) (fun _ => H) (fun z => absurd hx z) rfl ew)⟩, fun post H => br_t hal ⟨pk_in _ 256 (by omega) (rt_iy0 y x), nm_r (rt_us (rt_iy0 y x) (by omega) rfl) (pk_eq x (w - 1) (fun _ => H) (fun z => absurd hx z) rfl ew)⟩⟩
    · exact ⟨x + 1, pd, _, _, rt_I_y I0 a7 (by omega) a12, M, fun post H => br_t hal ⟨pk_in _ 512 (by omega) e0, nm_r (rt_us e0 (by omega) rfl) (pk_eq x (w - 1) (fun z => absurd z hx) (fun _ => nm_r (nI_1 x) H) rfl ew)⟩, fun post H => br_t hal ⟨pk_in _ 256 (by omega) (rt_iy0 y x), nm_r (rt_us (rt_iy0 y x) (by omega) rfl) (pk_eq x (w - 1) (fun z => absurd z hx) (fun _ => nm_r (nI_1 x) H) rfl ew)⟩⟩
  · have M := rt_Mc_w1 (c := c) C a2 a4 (by omega) a7 a8
    by_cases hx : x = w - 1
    · exact ⟨x, 1, _, _, rt_I_y I0 a7 a8 rt_01_1, M, fun post H => br_f hal ⟨pk_in _ 512 (by omega) e1, nm_r (rt_us e1 (by omega) rfl) (pk_eq x (w - 1) (fun _ => H) (fun z => absurd hx z) rfl ew)⟩, fun post H => br_f hal ⟨pk_in _ 256 (by omega) (rt_iy 128 y x), nm_r (rt_us (rt_iy 128 y x) (by omega) rfl) (pk_eq x (w - 1) (fun _ => H) (fun z => absurd hx z) rfl ew)⟩⟩
    · exact ⟨x + 1, pd, _, _, rt_I_y I0 a7 (by omega) a12, M, fun post H => br_f hal ⟨pk_in _ 512 (by omega) e1, nm_r (rt_us e1 (by omega) rfl) (pk_eq x (w - 1) (fun z => absurd z hx) (fun _ => nm_r (nI_1 x) H) rfl ew)⟩, fun post H => br_f hal ⟨pk_in _ 256 (by omega) (rt_iy 128 y x), nm_r (rt_us (rt_iy 128 y x) (by omega) rfl) (pk_eq x (w - 1) (fun z => absurd z hx) (fun _ => nm_r (nI_1 x) H) rfl ew)⟩⟩
end
section
/-! larger, smaller, clamp -/
def rt_mn (a b : Nat) : Nat := if b ≤ a then b else a
theorem rt_mn_sp (a b : Nat) : (b ≤ a ∧ rt_mn a b = b) ∨ (a < b ∧ rt_mn a b = a) := by
  rcases Nat.lt_or_ge a b with h | h
  · exact Or.inr ⟨h, if_neg (by omega)⟩
  · exact Or.inl ⟨h, if_pos h⟩
theorem rx_larger {P : Int32 → Prop} {A B : Int32} (a b : Nat) (H : P (nI (rt_mx a b))) (eA : A = nI a := by rfl) (eB : B = nI b := by rfl) (ha : a < 2 ^ 31 := by omega) (hb : b < 2 ^ 31 := by omega) : wpX_larger P A B := by
  subst eA eB
  refine pk_le a b (fun z => ?_) (fun z => ?_)
  · rcases rt_mx_sp a b with ⟨h, e⟩ | ⟨h, e⟩
    · rw [e] at H; exact H
    · rw [e, show a = b by omega] at H; exact H
  · rw [rt_mx_ge (by omega)] at H; exact H
theorem rx_smaller {P : Int32 → Prop} {A B : Int32} (a b : Nat) (H : P (nI (rt_mn a b))) (eA : A = nI a := by rfl) (eB : B = nI b := by rfl) (ha : a < 2 ^ 31 := by omega) (hb : b < 2 ^ 31 := by omega) : wpX_smaller P A B := by
  subst eA eB
  refine pk_le b a (fun z => ?_) (fun z => ?_)
  · rcases rt_mn_sp a b with ⟨h, e⟩ | ⟨h, e⟩
    · rw [e] at H; exact H
    · omega
  · rcases rt_mn_sp a b with ⟨h, e⟩ | ⟨h, e⟩
    · omega
    · rw [e] at H; exact H
theorem rx_larger0 {P : Int32 → Prop} {B : Int32} (a b : Nat) (H : P (nI (a - b))) (eB : B = nI a - nI b := by rfl) (ha : a < 2 ^ 30 := by omega) (hb : b < 2 ^ 30 := by omega) : wpX_larger P 0 B := by
  subst eB
  rcases Nat.lt_or_ge a b with z | z
  · have hn : nI a - nI b < 0 := by
      rw [Int32.lt_iff_toInt_lt, Int32.toInt_sub, nI_toInt (by omega), nI_toInt (by omega), show (0 : Int32).toInt = 0 from by decide, Int.bmod_eq_of_le (by omega) (by omega)]
      omega
    rw [show a - b = 0 by omega] at H
    exact br_f (Int32.not_le.mpr hn) H
  · exact pk_le 0 (a - b) (fun _ => by rw [pk_sub z]; exact H) (fun z => absurd z (by omega)) rfl (pk_sub z)
/-- the clamped number -/
theorem rt_clamp (v : Int32) (lo hi : Nat) (h : lo ≤ hi) (hb : hi < 2 ^ 31) : ∃ c : Nat, lo ≤ c ∧ c ≤ hi ∧ (∀ P : Int32 → Prop, P (nI c) → ((nI lo ≤ v → ((v ≤ nI hi → P v) ∧ (¬ v ≤ nI hi → P (nI hi)))) ∧ (¬ nI lo ≤ v → P (nI lo)))) := by
  by_cases h1 : nI lo ≤ v
  · by_cases h2 : v ≤ nI hi
    · have h0 : ¬ v < 0 := by
        intro z
        have := Int32.lt_of_le_of_lt (Int32.le_trans (nI_pos' (n := lo) (by omega)) h1) z
        exact Int32.lt_irrefl this
      obtain ⟨j, hj, rfl⟩ := nI_of h0
      rw [nI_leI (by omega) hj] at h1
      rw [nI_leI hj hb] at h2
      exact ⟨j, h1, h2, fun P H => br_t (nI_le h1 hj) (br_t (nI_le h2 hb) H)⟩
    · exact ⟨hi, h, Nat.le_refl _, fun P H => br_t h1 (br_f h2 H)⟩
  · exact ⟨lo, Nat.le_refl _, h, fun P H => br_f h1 H⟩
/-! put -/
theorem rl_104 {w h s n y x sy sx tp bt : Nat} {al pd sp fn fu : Int32} {g f fc ff : Nat → Int32} {lc cl ck : Int32} {sb sbf sc scf rb rbf ls lr ll : Nat → Int32} {k : Nat} {v1 : Int32} (hY : ∀ post : Int32 → SY → Prop, wY_put_104 post v1 (nI w) (nI h) (nI s) (nI n) (nI y) (nI x) (nI sy) (nI sx) (nI tp) (nI bt) al pd sp lc cl ck sb sbf sc scf rb rbf ls lr ll → wpY_put post ((nI w), (nI h), (nI s), (nI n), (nI y), (nI x), (nI sy), (nI sx), (nI tp), (nI bt), al, pd, sp, lc, cl, ck, sb, sbf, sc, scf, rb, rbf, ls, lr, ll) v1) (I : rt_I w h s n y x sy sx tp bt al pd sp) (C : rt_Mc w h n g sb sc) (F : rt_Mf h n f sbf scf) : wX_put_19 (fun r u' => wpY_put (fun r' v' => r' = r ∧ i_Rel k u' v') ((nI w), (nI h), (nI s), (nI n), (nI y), (nI x), (nI sy), (nI sx), (nI tp), (nI bt), al, pd, sp, lc, cl, ck, sb, sbf, sc, scf, rb, rbf, ls, lr, ll) v1) v1 fn fu (nI w) (nI h) (nI s) (nI n) al (nI tp) (nI bt) (nI y) (nI x) pd (nI sy) (nI sx) sp g f fc ff := by
  have I0 := I
  obtain ⟨a1, a2, a3, a4, a5, a6, a7, a8, a9, a10, a11, a12, a13, a14⟩ := I
  by_cases h13 : v1 = 13
  · subst h13
    exact br_f (by decide) (br_f (by decide) (br_f (by decide) (br_f (by decide) (br_f (by decide) (br_f (by decide) (br_f (by decide) (br_t rfl (hY _ (br_t rfl ⟨rfl, rl_mk (x := 0) (rt_I_y I0 a7 (by omega) rt_01_0) C F⟩)))))))))
  by_cases h10 : v1 = 10
  · subst h10
    obtain ⟨n', y', g', f', sb', sbf', sc', scf', I', C', F', hX, hY'⟩ := rl_lf (fn := fn) (fu := fu) (fc := fc) (ff := ff) (lc := lc) (cl := cl) (ck := ck) (rb := rb) (rbf := rbf) (ls := ls) (lr := lr) (ll := ll) I0 C F
    exact br_f (by decide) (br_f (by decide) (br_f (by decide) (br_f (by decide) (br_t rfl (hX _ (hY _ (br_f (by decide) (br_t rfl (hY' _ ⟨rfl, rl_mk (rt_I_y I' I'.2.2.2.2.2.2.1 a8 rt_01_0) C' F'⟩)))))))))
  by_cases h8 : v1 = 8
  · subst h8
    refine br_f (by decide) (br_f (by decide) (br_t rfl (rx_larger0 x 1 (hY _ (br_f (by decide) (br_f (by decide) (br_t rfl (pk_le x 0 (fun z => ?_) (fun z => nm_r (pk_sub (b := 1) (by omega)) ?_)))))))))
    · refine ⟨rfl, ?_⟩
      rw [show x - 1 = x by omega]
      exact rl_mk (rt_I_y I0 a7 a8 rt_01_0) C F
    · exact ⟨rfl, rl_mk (rt_I_y I0 a7 (by omega) rt_01_0) C F⟩
  by_cases h9 : v1 = 9
  · subst h9
    have e8 : nI x - (nI x - nI x / 8 * 8) + 8 = nI (x - x % 8 + 8) := by
      rw [show (8 : Int32) = nI 8 from rfl, pk_rem (by omega) (by omega) (by omega), pk_sub (Nat.mod_le _ _), nI_add]
    have ew : nI w - 1 = nI (w - 1) := pk_sub (b := 1) (by omega)
    refine br_f (by decide) (br_f (by decide) (br_f (by decide) (br_t rfl ⟨by decide, rx_smaller (w - 1) (x - x % 8 + 8) (hY _ (br_f (by decide) (br_f (by decide) (br_f (by decide) (br_t rfl ⟨by decide, nm_r e8 (pk_le (w - 1) (x - x % 8 + 8) (fun z => nm_r ew ?_) (fun z => ?_) ew)⟩))))) ew e8⟩)))
    · refine ⟨rfl, ?_⟩
      rcases rt_mn_sp (w - 1) (x - x % 8 + 8) with ⟨h, e⟩ | ⟨h, e⟩
      · rw [e, show x - x % 8 + 8 = w - 1 by omega]
        exact rl_mk (rt_I_y I0 a7 (by omega) rt_01_0) C F
      · rw [e]
        exact rl_mk (rt_I_y I0 a7 (by omega) rt_01_0) C F
    · refine ⟨rfl, ?_⟩
      rcases rt_mn_sp (w - 1) (x - x % 8 + 8) with ⟨h, e⟩ | ⟨h, e⟩
      · rw [e]
        exact rl_mk (rt_I_y I0 a7 (by omega) rt_01_0) C F
      · omega
  have R : wpY_put (fun r' v' => r' = 0 ∧ i_Rel k (fn, fu, (nI w), (nI h), (nI s), (nI n), al, (nI tp), (nI bt), (nI y), (nI x), pd, (nI sy), (nI sx), sp, g, f, fc, ff) v') ((nI w), (nI h), (nI s), (nI n), (nI y), (nI x), (nI sy), (nI sx), (nI tp), (nI bt), al, pd, sp, lc, cl, ck, sb, sbf, sc, scf, rb, rbf, ls, lr, ll) v1 := hY _ (br_f h13 (br_f h10 (br_f h8 (br_f h9 ⟨rfl, rl_mk I0 C F⟩))))
  exact br_c (fun _ => R) (fun _ => br_c (fun _ => R) (fun _ => br_f h8 (br_f h9 (br_f h10 (br_c (fun _ => R) (fun _ => br_c (fun _ => R) (fun _ => br_f h13 trivial)))))))
theorem i_vc_put {k : Nat} {u : SX} {v : SY} (I : i_Rel k u v) (hk : k + 3 ≤ 1539) (v1 : Int32) : wpX_put (fun r u' => wpY_put (fun r' v' => r' = r ∧ i_Rel (k + 3) u' v') v v1) u v1 := by
  obtain ⟨w, h, s, n, y, x, sy, sx, tp, bt, al, pd, sp, fn, fu, lc, cl, ck, g, f, fc, ff, sb, sbf, sc, scf, rb, rbf, ls, lr, ll, rfl, rfl, I, C, F⟩ := I
  by_cases h1 : v1 < 32
  · exact br_t h1 (rl_104 (fun post H => br_t h1 H) I C F)
  by_cases h2 : 126 < v1
  · exact br_f h1 (br_t h2 (rl_104 (fun post H => br_f h1 (br_t h2 H)) I C F))
  refine br_f h1 (br_f h2 ?_)
  have I0 := I
  obtain ⟨a1, a2, a3, a4, a5, a6, a7, a8, a9, a10, a11, a12, a13, a14⟩ := I
  by_cases hp : pd = 0
  · obtain ⟨x', pd', g', sc', I', C', hX, hY⟩ := rl_p36 (fn := fn) (fu := fu) (f := f) (fc := fc) (ff := ff) (lc := lc) (cl := cl) (ck := ck) (sbf := sbf) (scf := scf) (rb := rb) (rbf := rbf) (ls := ls) (lr := lr) (ll := ll) v1 I0 C
    exact br_t hp (hX _ (br_f h1 (br_f h2 (br_t hp (hY _ ⟨rfl, rl_mk I' C' F⟩)))))
  · by_cases hal : al = 0
    · have F1 := rt_Mf_w0 F a4 (by omega) a7 rt_01_1
      obtain ⟨n', y', g', f', sb', sbf', sc', scf', I', C', F', hX, hY⟩ := rl_lf (fn := fn) (fu := fu) (fc := fc) (ff := ff) (lc := lc) (cl := cl) (ck := ck) (rb := rb) (rbf := rbf) (ls := ls) (lr := lr) (ll := ll) I0 C F1
      obtain ⟨x'', pd'', g'', sc'', I'', C'', hX', hY'⟩ := rl_p36 (fn := fn) (fu := fu) (f := f') (fc := fc) (ff := ff) (lc := lc) (cl := cl) (ck := ck) (sbf := sbf') (scf := scf') (rb := rb) (rbf := rbf) (ls := ls) (lr := lr) (ll := ll) v1 (rt_I_y (x' := 0) I' I'.2.2.2.2.2.2.1 (by omega) rt_01_0) C'
      exact br_f hp (br_t hal ⟨pk_in (n + y) 32 (by omega) (nI_add n y), nm_r (rt_us (nI_add n y) (by omega) rt_nar1) (hX _ (hX' _ (br_f h1 (br_f h2 (br_f hp (br_t hal ⟨pk_in y 16 (by omega) (rt_z0 y), nm_r (rt_us (rt_z0 y) (by omega) rt_nar1) (hY _ (hY' _ ⟨rfl, rl_mk I'' C'' F'⟩))⟩))))))⟩)
    · have F1 := rt_Mf_w1 F a4 (by omega) a7 rt_01_1
      obtain ⟨n', y', g', f', sb', sbf', sc', scf', I', C', F', hX, hY⟩ := rl_lf (fn := fn) (fu := fu) (fc := fc) (ff := ff) (lc := lc) (cl := cl) (ck := ck) (rb := rb) (rbf := rbf) (ls := ls) (lr := lr) (ll := ll) I0 C F1
      obtain ⟨x'', pd'', g'', sc'', I'', C'', hX', hY'⟩ := rl_p36 (fn := fn) (fu := fu) (f := f') (fc := fc) (ff := ff) (lc := lc) (cl := cl) (ck := ck) (sbf := sbf') (scf := scf') (rb := rb) (rbf := rbf) (ls := ls) (lr := lr) (ll := ll) v1 (rt_I_y (x' := 0) I' I'.2.2.2.2.2.2.1 (by omega) rt_01_0) C'
      exact br_f hp (br_f hal ⟨pk_in (24 + y) 32 (by omega) (nI_add 24 y), nm_r (rt_us (nI_add 24 y) (by omega) rt_nar1) (hX _ (hX' _ (br_f h1 (br_f h2 (br_f hp (br_f hal ⟨pk_in (8 + y) 16 (by omega) (nI_add 8 y), nm_r (rt_us (nI_add 8 y) (by omega) rt_nar1) (hY _ (hY' _ ⟨rfl, rl_mk I'' C'' F'⟩))⟩))))))⟩)
end
section
/-! erase, region, cursor, alternate screen, cell, wrapped -/
theorem rt_fb {x : Int32} (h : rt_01 x) : fits .boolean (.int x) = true := by rcases h with rfl | rfl <;> first | rfl | decide
theorem rx_move {w h s n y x sy sx tp bt : Nat} {al pd sp fn fu : Int32} {g f fc ff : Nat → Int32} {P : SX → Prop} {A B : Int32} (H : P (fn, fu, (nI w), (nI h), (nI s), (nI n), al, (nI tp), (nI bt), A, B, 0, (nI sy), (nI sx), sp, g, f, fc, ff)) : wpX_moveCursor P (fn, fu, (nI w), (nI h), (nI s), (nI n), al, (nI tp), (nI bt), (nI y), (nI x), pd, (nI sy), (nI sx), sp, g, f, fc, ff) A B := H
theorem i_vc_setScrollRegion {k : Nat} {u : SX} {v : SY} (I : i_Rel k u v) (hk : k + 3 ≤ 1539) (v1 : Int32) (v2 : Int32) : wpX_setScrollRegion (fun r u' => wpY_setScrollRegion (fun r' v' => r' = r ∧ i_Rel (k + 3) u' v') v v1 v2) u v1 v2 := by
  obtain ⟨w, h, s, n, y, x, sy, sx, tp, bt, al, pd, sp, fn, fu, lc, cl, ck, g, f, fc, ff, sb, sbf, sc, scf, rb, rbf, ls, lr, ll, rfl, rfl, I, C, F⟩ := I
  have I0 := I
  obtain ⟨a1, a2, a3, a4, a5, a6, a7, a8, a9, a10, a11, a12, a13, a14⟩ := I
  by_cases h1 : v1 < 0
  · exact br_t h1 (br_t h1 ⟨rfl, rl_mk I0 C F⟩)
  by_cases h2 : v2 ≤ v1
  · exact br_f h1 (br_t h2 (br_f h1 (br_t h2 ⟨rfl, rl_mk I0 C F⟩)))
  have e1 : nI h - 1 = nI (h - 1) := pk_sub (b := 1) (by omega)
  obtain ⟨a, ha, rfl⟩ := nI_of h1
  have h3 : ¬ v2 < 0 := fun z => h2 (Int32.le_trans (Int32.le_of_lt z) (nI_pos' ha))
  obtain ⟨b, hb, rfl⟩ := nI_of h3
  have hab : a < b := by
    rw [nI_leI hb ha] at h2; omega
  refine br_f h1 (br_f h2 (pk_lt b h (fun z => rx_move (br_f h1 (br_f h2 (pk_le b (h - 1) (fun _ => ⟨rfl, rl_mk (y := 0) (x := 0) ⟨a1, a2, a3, a4, a5, a6, by omega, by omega, hab, z, a11, rt_01_0, a13, a14⟩ C F⟩) (fun z => absurd z (by omega)) rfl e1)))) (fun z => br_f h1 (br_f h2 (pk_le b (h - 1) (fun z => absurd z (by omega)) (fun _ => ⟨rfl, rl_mk I0 C F⟩) rfl e1)))))
theorem i_vc_setCursor {k : Nat} {u : SX} {v : SY} (I : i_Rel k u v) (hk : k + 3 ≤ 1539) (v1 : Int32) (v2 : Int32) : wpX_setCursor (fun r u' => wpY_setCursor (fun r' v' => r' = r ∧ i_Rel (k + 3) u' v') v v1 v2) u v1 v2 := by
  obtain ⟨w, h, s, n, y, x, sy, sx, tp, bt, al, pd, sp, fn, fu, lc, cl, ck, g, f, fc, ff, sb, sbf, sc, scf, rb, rbf, ls, lr, ll, rfl, rfl, I, C, F⟩ := I
  have I0 := I
  obtain ⟨a1, a2, a3, a4, a5, a6, a7, a8, a9, a10, a11, a12, a13, a14⟩ := I
  have e1 : nI h - 1 = nI (h - 1) := pk_sub (b := 1) (by omega)
  have e2 : nI w - 1 = nI (w - 1) := pk_sub (b := 1) (by omega)
  by_cases h1 : v1 < 0
  · exact br_t h1 (br_t h1 ⟨rfl, rl_mk I0 C F⟩)
  obtain ⟨a, ha, rfl⟩ := nI_of h1
  by_cases h2 : h ≤ a
  · exact br_f h1 (pk_le h a (fun _ => br_f h1 (pk_lt (h - 1) a (fun _ => ⟨rfl, rl_mk I0 C F⟩) (fun z => absurd z (by omega)) e1)) (fun z => absurd z (by omega)))
  by_cases h3 : v2 < 0
  · exact br_f h1 (pk_le h a (fun z => absurd z h2) (fun _ => br_t h3 (br_f h1 (pk_lt (h - 1) a (fun z => absurd z (by omega)) (fun _ => br_t h3 ⟨rfl, rl_mk I0 C F⟩) e1))))
  obtain ⟨b, hb, rfl⟩ := nI_of h3
  refine br_f h1 (pk_le h a (fun z => absurd z h2) (fun _ => br_f h3 (pk_lt b w (fun z => rx_move ?_) (fun z => ?_))))
  · exact br_f h1 (pk_lt (h - 1) a (fun z => absurd z (by omega)) (fun _ => br_f h3 (pk_le b (w - 1) (fun _ => ⟨rfl, rl_mk (rt_I_y I0 (by omega) z rt_01_0) C F⟩) (fun z => absurd z (by omega)) rfl e2)) e1)
  · exact br_f h1 (pk_lt (h - 1) a (fun z => absurd z (by omega)) (fun _ => br_f h3 (pk_le b (w - 1) (fun z => absurd z (by omega)) (fun _ => ⟨rfl, rl_mk I0 C F⟩) rfl e2)) e1)
theorem i_vc_leaveAlt {k : Nat} {u : SX} {v : SY} (I : i_Rel k u v) (hk : k + 3 ≤ 1539) : wpX_leaveAlt (fun r u' => wpY_leaveAlt (fun r' v' => r' = r ∧ i_Rel (k + 3) u' v') v) u := by
  obtain ⟨w, h, s, n, y, x, sy, sx, tp, bt, al, pd, sp, fn, fu, lc, cl, ck, g, f, fc, ff, sb, sbf, sc, scf, rb, rbf, ls, lr, ll, rfl, rfl, I, C, F⟩ := I
  have I0 := I
  obtain ⟨a1, a2, a3, a4, a5, a6, a7, a8, a9, a10, a11, a12, a13, a14⟩ := I
  have e1 : nI h - 1 = nI (h - 1) := pk_sub (b := 1) (by omega)
  by_cases hal : al = 0
  · exact br_t hal (br_t hal ⟨rfl, rl_mk I0 C F⟩)
  · have a15 := a14 hal
    exact br_f hal ⟨rt_nb a13, rt_fb a13, nm_r e1 (br_f hal ⟨rt_nb a13, rt_fb a13, nm_r e1 ⟨rfl, rl_mk (tp := 0) (bt := h - 1) ⟨a1, a2, a3, a4, a5, a6, a15.1, a15.2, by omega, by omega, rt_01_0, a13, a13, fun z => absurd rfl z⟩ C F⟩⟩)⟩
theorem ry_ea {w h s n y x sy sx tp bt : Nat} {al pd sp lc cl ck : Int32} {sb sbf sc scf rb rbf ls lr ll : Nat → Int32} {post : Int32 → SY → Prop} (H : post 1 ((nI w), (nI h), (nI s), (nI n), 0, 0, (nI sy), (nI sx), 0, (nI h - 1), 1, 0, sp, lc, cl, ck, sb, sbf, (rt_put sc 128 128 (fun _ => 32)), (rt_put scf 8 8 (fun _ => 0)), rb, rbf, ls, lr, ll)) : ∃ N, wY_enterAlt_37 post (nI w) (nI h) (nI s) (nI n) (nI y) (nI x) (nI sy) (nI sx) (nI tp) (nI bt) al pd sp lc cl ck N 128 sb sbf sc scf rb rbf ls lr ll := by
  refine pk_loop (fun N i c => wY_enterAlt_37 post (nI w) (nI h) (nI s) (nI n) (nI y) (nI x) (nI sy) (nI sx) (nI tp) (nI bt) al pd sp lc cl ck N (nI i) sb sbf c scf rb rbf ls lr ll) (fun i c => 128 ≤ i ∧ c = rt_put sc 128 (i - 128) (fun _ => 32)) 256 128 sc (by omega) ⟨Nat.le_refl _, by rw [Nat.sub_self, rt_put_0]⟩ ?_ ?_
  · rintro N c ⟨-, rfl⟩
    refine pk_le 256 256 (fun _ => ?_) (fun z => absurd z (by omega))
    refine pk_loop (fun N i c => wY_enterAlt_61 post (nI w) (nI h) (nI s) (nI n) (nI y) (nI x) (nI sy) (nI sx) (nI tp) (nI bt) al pd sp lc cl ck N (nI i) sb sbf (rt_put sc 128 128 (fun _ => 32)) c rb rbf ls lr ll) (fun i c => 8 ≤ i ∧ c = rt_put scf 8 (i - 8) (fun _ => 0)) 16 8 scf (by omega) ⟨Nat.le_refl _, by rw [Nat.sub_self, rt_put_0]⟩ ?_ ?_
    · rintro N c ⟨-, rfl⟩
      exact pk_le 16 16 (fun _ => nm_e H) (fun z => absurd z (by omega))
    · rintro N i c hi ⟨ha, rfl⟩ K
      have e : upd (rt_put scf 8 (i - 8) (fun _ => 0)) i 0 = rt_put scf 8 (i + 1 - 8) (fun _ => 0) := by
        have h := rt_put_s (g := scf) (v := fun _ => 0) (b := 8) (m := i - 8) (x := 0) rfl
        rw [show 8 + (i - 8) = i by omega, show i - 8 + 1 = i + 1 - 8 by omega] at h
        exact h
      exact pk_le 16 i (fun z => absurd z (by omega)) (fun _ => ⟨pk_in i 16 (by omega), nm_r ((rt_us rfl (by omega) rt_nar0).trans e) (nm_r (nI_1 i) (K _ ⟨by omega, rfl⟩))⟩)
  · rintro N i c hi ⟨ha, rfl⟩ K
    have e : upd (rt_put sc 128 (i - 128) (fun _ => 32)) i 32 = rt_put sc 128 (i + 1 - 128) (fun _ => 32) := by
      have h := rt_put_s (g := sc) (v := fun _ => 32) (b := 128) (m := i - 128) (x := 32) rfl
      rw [show 128 + (i - 128) = i by omega, show i - 128 + 1 = i + 1 - 128 by omega] at h
      exact h
    exact pk_le 256 i (fun z => absurd z (by omega)) (fun _ => ⟨pk_in i 256 (by omega), nm_r ((rt_us rfl (by omega) rfl).trans e) (nm_r (nI_1 i) (K _ ⟨by omega, rfl⟩))⟩)
theorem i_vc_enterAlt {k : Nat} {u : SX} {v : SY} (I : i_Rel k u v) (hk : k + 3 ≤ 1539) : wpX_enterAlt (fun r u' => wpY_enterAlt (fun r' v' => r' = r ∧ i_Rel (k + 3) u' v') v) u := by
  obtain ⟨w, h, s, n, y, x, sy, sx, tp, bt, al, pd, sp, fn, fu, lc, cl, ck, g, f, fc, ff, sb, sbf, sc, scf, rb, rbf, ls, lr, ll, rfl, rfl, I, C, F⟩ := I
  have I0 := I
  obtain ⟨a1, a2, a3, a4, a5, a6, a7, a8, a9, a10, a11, a12, a13, a14⟩ := I
  have e1 : nI h - 1 = nI (h - 1) := pk_sub (b := 1) (by omega)
  by_cases hal : al = 0
  · refine br_t hal ⟨rt_nb a12, rt_fb a12, rx_clearRows 24 32 (by omega) (by omega) (rx_move (nm_r e1 (br_t hal ⟨rt_nb a12, rt_fb a12, ry_ea ⟨rfl, ?_⟩⟩)))⟩
    rw [e1]
    exact rl_mk (y := 0) (x := 0) (tp := 0) (bt := h - 1) (al := 1) (sy := y) (sx := x) ⟨a1, a2, a3, a4, a5, a6, by omega, by omega, by omega, by omega, rt_01_1, rt_01_0, a12, fun _ => ⟨a7, a8⟩⟩ (rt_Mc_ea C a2 a4 (by omega)) (rt_Mf_ea F a4 (by omega))
  · exact br_f hal (br_f hal ⟨rfl, rl_mk I0 C F⟩)
theorem i_vc_cursorRow {k : Nat} {u : SX} {v : SY} (I : i_Rel k u v) (hk : k + 3 ≤ 1539) : wpX_cursorRow (fun r => wpY_cursorRow (fun r' => r' = r ∧ i_Rel (k + 3) u v) v) u := by
  obtain ⟨w, h, s, n, y, x, sy, sx, tp, bt, al, pd, sp, fn, fu, lc, cl, ck, g, f, fc, ff, sb, sbf, sc, scf, rb, rbf, ls, lr, ll, rfl, rfl, I, C, F⟩ := I
  exact ⟨rfl, rl_mk I C F⟩
theorem i_vc_cursorCol {k : Nat} {u : SX} {v : SY} (I : i_Rel k u v) (hk : k + 3 ≤ 1539) : wpX_cursorCol (fun r => wpY_cursorCol (fun r' => r' = r ∧ i_Rel (k + 3) u v) v) u := by
  obtain ⟨w, h, s, n, y, x, sy, sx, tp, bt, al, pd, sp, fn, fu, lc, cl, ck, g, f, fc, ff, sb, sbf, sc, scf, rb, rbf, ls, lr, ll, rfl, rfl, I, C, F⟩ := I
  exact ⟨rfl, rl_mk I C F⟩
end
section
/-! eraseInLine, cell, wrapped, the constructors -/
theorem ry_69 {w h s n y x sy sx tp bt : Nat} {al pd sp lc cl ck : Int32} {sb sbf sc scf rb rbf ls lr ll : Nat → Int32} {post : Int32 → SY → Prop} {J : Int32 → (Nat → Int32) → (Nat → Int32) → (Nat → Int32) → (Nat → Int32) → (Nat → Int32) → (Nat → Int32) → (Nat → Int32) → (Nat → Int32) → (Nat → Int32) → Prop} {x1 : Int32} {b i : Nat} (hb : b + i < 256) (H : J (nI (i + 1)) sb sbf (upd sc (b + i) 32) scf rb rbf ls lr ll) : wY_eraseInLine_69 post J x1 (nI b) (nI i) (nI w) (nI h) (nI s) (nI n) (nI y) (nI x) (nI sy) (nI sx) (nI tp) (nI bt) al pd sp lc cl ck sb sbf sc scf rb rbf ls lr ll :=
  ⟨pk_in (b + i) 256 hb (nI_add b i), nm_r (rt_us (nI_add b i) (by omega) rfl) (nm_r (nI_1 i) H)⟩
theorem ry_er2 {w h s n y x sy sx tp bt : Nat} {al pd sp lc cl ck : Int32} {sb sbf sc scf rb rbf ls lr ll : Nat → Int32} {post : Int32 → SY → Prop} {b : Nat} (hb : b + 16 ≤ 256) (hw : w ≤ 16) (H : wpY_fbase (fun r => vp_in (r + nI y) 16 ∧ ∀ a : Nat → Int32, a = upd scf (r + nI y).toNatClampNeg (vp_nar .boolean 0) → post 1 ((nI w), (nI h), (nI s), (nI n), (nI y), (nI x), (nI sy), (nI sx), (nI tp), (nI bt), al, 0, sp, lc, cl, ck, sb, sbf, (rt_put sc b w (fun _ => 32)), a, rb, rbf, ls, lr, ll)) ((nI w), (nI h), (nI s), (nI n), (nI y), (nI x), (nI sy), (nI sx), (nI tp), (nI bt), al, pd, sp, lc, cl, ck, sb, sbf, (rt_put sc b w (fun _ => 32)), scf, rb, rbf, ls, lr, ll)) : ∃ N, wY_eraseInLine_31 post 2 (nI b) (nI w) (nI h) (nI s) (nI n) (nI y) (nI x) (nI sy) (nI sx) (nI tp) (nI bt) al pd sp lc cl ck N 0 sb sbf sc scf rb rbf ls lr ll := by
  refine pk_loop (fun N i c => wY_eraseInLine_31 post 2 (nI b) (nI w) (nI h) (nI s) (nI n) (nI y) (nI x) (nI sy) (nI sx) (nI tp) (nI bt) al pd sp lc cl ck N (nI i) sb sbf c scf rb rbf ls lr ll) (fun i c => c = rt_put sc b i (fun _ => 32)) w 0 sc (Nat.zero_le _) (rt_put_0 _ _ _).symm ?_ ?_
  · rintro N c rfl
    exact pk_le w w (fun _ => br_f (by decide) H) (fun z => absurd z (by omega))
  · rintro N i c hi rfl K
    exact pk_le w i (fun z => absurd z (by omega)) (fun _ => br_t rfl (ry_69 (by omega) (K _ (rt_put_s rfl))))
theorem ry_er0 {w h s n y x sy sx tp bt : Nat} {al pd sp lc cl ck : Int32} {sb sbf sc scf rb rbf ls lr ll : Nat → Int32} {post : Int32 → SY → Prop} {b : Nat} (hb : b + 16 ≤ 256) (hw : w ≤ 16) (hx : x < w) (H : wpY_fbase (fun r => vp_in (r + nI y) 16 ∧ ∀ a : Nat → Int32, a = upd scf (r + nI y).toNatClampNeg (vp_nar .boolean 0) → post 1 ((nI w), (nI h), (nI s), (nI n), (nI y), (nI x), (nI sy), (nI sx), (nI tp), (nI bt), al, 0, sp, lc, cl, ck, sb, sbf, (rt_put sc (b + x) (w - x) (fun _ => 32)), a, rb, rbf, ls, lr, ll)) ((nI w), (nI h), (nI s), (nI n), (nI y), (nI x), (nI sy), (nI sx), (nI tp), (nI bt), al, pd, sp, lc, cl, ck, sb, sbf, (rt_put sc (b + x) (w - x) (fun _ => 32)), scf, rb, rbf, ls, lr, ll)) : ∃ N, wY_eraseInLine_31 post 0 (nI b) (nI w) (nI h) (nI s) (nI n) (nI y) (nI x) (nI sy) (nI sx) (nI tp) (nI bt) al pd sp lc cl ck N 0 sb sbf sc scf rb rbf ls lr ll := by
  refine pk_loop (fun N i c => wY_eraseInLine_31 post 0 (nI b) (nI w) (nI h) (nI s) (nI n) (nI y) (nI x) (nI sy) (nI sx) (nI tp) (nI bt) al pd sp lc cl ck N (nI i) sb sbf c scf rb rbf ls lr ll) (fun i c => c = rt_put sc (b + x) (i - x) (fun _ => 32)) w 0 sc (Nat.zero_le _) (by rw [Nat.zero_sub, rt_put_0]) ?_ ?_
  · rintro N c rfl
    exact pk_le w w (fun _ => br_f (by decide) H) (fun z => absurd z (by omega))
  · rintro N i c hi rfl K
    refine pk_le w i (fun z => absurd z (by omega)) (fun _ => br_f (by decide) (br_t rfl (pk_le x i (fun z => ry_69 (by omega) (K _ ?_)) (fun z => br_f (by decide) (nm_r (nI_1 i) (K _ ?_))))))
    · have h := rt_put_s (g := sc) (v := fun _ => 32) (b := b + x) (m := i - x) (x := 32) rfl
      rw [show b + x + (i - x) = b + i by omega, show i - x + 1 = i + 1 - x by omega] at h
      exact h
    · rw [show i - x = 0 by omega, show i + 1 - x = 0 by omega]
theorem ry_er1 {w h s n y x sy sx tp bt : Nat} {al pd sp lc cl ck : Int32} {sb sbf sc scf rb rbf ls lr ll : Nat → Int32} {post : Int32 → SY → Prop} {b : Nat} (hb : b + 16 ≤ 256) (hw : w ≤ 16) (hx : x < w) (H : post 1 ((nI w), (nI h), (nI s), (nI n), (nI y), (nI x), (nI sy), (nI sx), (nI tp), (nI bt), al, 0, sp, lc, cl, ck, sb, sbf, (rt_put sc b (x + 1) (fun _ => 32)), scf, rb, rbf, ls, lr, ll)) : ∃ N, wY_eraseInLine_31 post 1 (nI b) (nI w) (nI h) (nI s) (nI n) (nI y) (nI x) (nI sy) (nI sx) (nI tp) (nI bt) al pd sp lc cl ck N 0 sb sbf sc scf rb rbf ls lr ll := by
  refine pk_loop (fun N i c => wY_eraseInLine_31 post 1 (nI b) (nI w) (nI h) (nI s) (nI n) (nI y) (nI x) (nI sy) (nI sx) (nI tp) (nI bt) al pd sp lc cl ck N (nI i) sb sbf c scf rb rbf ls lr ll) (fun i c => c = rt_put sc b (rt_mn i (x + 1)) (fun _ => 32)) w 0 sc (Nat.zero_le _) (by rw [show rt_mn 0 (x + 1) = 0 from if_neg (by omega), rt_put_0]) ?_ ?_
  · rintro N c rfl
    refine pk_le w w (fun _ => br_t rfl ?_) (fun z => absurd z (by omega))
    rw [show rt_mn w (x + 1) = x + 1 from if_pos (by omega)]
    exact H
  · rintro N i c hi rfl K
    refine pk_le w i (fun z => absurd z (by omega)) (fun _ => br_f (by decide) (br_f (by decide) (br_t rfl (pk_lt x i (fun z => nm_r (nI_1 i) (K _ ?_)) (fun z => ry_69 (by omega) (K _ ?_))))))
    · rw [show rt_mn i (x + 1) = x + 1 from if_pos (by omega), show rt_mn (i + 1) (x + 1) = x + 1 from if_pos (by omega)]
    · have h := rt_put_s (g := sc) (v := fun _ => 32) (b := b) (m := i) (x := 32) rfl
      rw [show rt_mn i (x + 1) = i from if_neg (by omega)]
      rw [show rt_mn (i + 1) (x + 1) = i + 1 from by rcases rt_mn_sp (i + 1) (x + 1) with ⟨p, e⟩ | ⟨p, e⟩ <;> omega]
      exact h
theorem rx_eraseRow {w h s n y x sy sx tp bt : Nat} {al pd sp fn fu : Int32} {g f fc ff : Nat → Int32} {P : SX → Prop} {A B : Int32} (r a b : Nat) (hr : (al = 0 ∧ r = n + y) ∨ (¬ al = 0 ∧ r = 24 + y)) (hr2 : r < 32) (hab : a ≤ b) (hb : b ≤ 16) (H : P (fn, fu, (nI w), (nI h), (nI s), (nI n), al, (nI tp), (nI bt), (nI y), (nI x), pd, (nI sy), (nI sx), sp, (rt_put g (r * 16 + a) (b - a) (fun _ => 32)), f, fc, ff)) (eA : A = nI a := by rfl) (eB : B = nI b := by rfl) : wpX_eraseInCursorRow P (fn, fu, (nI w), (nI h), (nI s), (nI n), al, (nI tp), (nI bt), (nI y), (nI x), pd, (nI sy), (nI sx), sp, g, f, fc, ff) A B := by
  subst eA eB
  rcases hr with ⟨hal, rfl⟩ | ⟨hal, rfl⟩
  · exact br_t hal (nm_r (nI_add n y) (rx_clearCells (n + y) a b hr2 hab hb H))
  · exact br_f hal (nm_r (nI_add 24 y) (rx_clearCells (24 + y) a b hr2 hab hb H))
theorem rx_endRow {w h s n y x sy sx tp bt : Nat} {al pd sp fn fu : Int32} {g f fc ff : Nat → Int32} {P : SX → Prop} (r : Nat) (hr : (al = 0 ∧ r = n + y) ∨ (¬ al = 0 ∧ r = 24 + y)) (hr2 : r < 32) (H : P (fn, fu, (nI w), (nI h), (nI s), (nI n), al, (nI tp), (nI bt), (nI y), (nI x), pd, (nI sy), (nI sx), sp, g, (upd f r 0), fc, ff)) : wpX_endCursorRow P (fn, fu, (nI w), (nI h), (nI s), (nI n), al, (nI tp), (nI bt), (nI y), (nI x), pd, (nI sy), (nI sx), sp, g, f, fc, ff) := by
  rcases hr with ⟨hal, rfl⟩ | ⟨hal, rfl⟩
  · exact br_t hal ⟨pk_in (n + y) 32 hr2 (nI_add n y), nm_r (rt_us (nI_add n y) (by omega) rt_nar0) H⟩
  · exact br_f hal ⟨pk_in (24 + y) 32 hr2 (nI_add 24 y), nm_r (rt_us (nI_add 24 y) (by omega) rt_nar0) H⟩
theorem i_vc_eraseInLine {k : Nat} {u : SX} {v : SY} (I : i_Rel k u v) (hk : k + 3 ≤ 1539) (v1 : Int32) : wpX_eraseInLine (fun r u' => wpY_eraseInLine (fun r' v' => r' = r ∧ i_Rel (k + 3) u' v') v v1) u v1 := by
  obtain ⟨w, h, s, n, y, x, sy, sx, tp, bt, al, pd, sp, fn, fu, lc, cl, ck, g, f, fc, ff, sb, sbf, sc, scf, rb, rbf, ls, lr, ll, rfl, rfl, I, C, F⟩ := I
  have I0 := I
  obtain ⟨a1, a2, a3, a4, a5, a6, a7, a8, a9, a10, a11, a12, a13, a14⟩ := I
  have I1 := rt_I_y I0 a7 a8 rt_01_0
  have eb0 : 0 + nI y * 16 = nI (y * 16) := by
    have h := rt_iy0 y 0
    rw [Nat.add_zero, nI_0, Int32.add_zero] at h
    exact h
  have eb1 : 128 + nI y * 16 = nI (128 + y * 16) := by
    have h := rt_iy 128 y 0
    rw [Nat.add_zero, nI_0, Int32.add_zero] at h
    exact h
  by_cases h0 : v1 = 0
  · subst h0
    by_cases hal : al = 0
    · exact br_f (by decide) (br_f (by decide) (br_t rfl (rx_eraseRow (n + y) x w (Or.inl ⟨hal, rfl⟩) (by omega) (by omega) a2 (rx_endRow (n + y) (Or.inl ⟨hal, rfl⟩) (by omega) (br_t rfl (br_t hal (nm_r eb0 (ry_er0 (by omega) a2 a8 (br_t hal ⟨pk_in y 16 (by omega) (rt_z0 y), nm_r (rt_us (rt_z0 y) (by omega) rt_nar0) ⟨rfl, rl_mk I1 (rt_Mc_e0 C a2 a4 (by omega) a7 (by omega)) (rt_Mf_w0 F a4 (by omega) a7 rt_01_0)⟩⟩)))))))))
    · exact br_f (by decide) (br_f (by decide) (br_t rfl (rx_eraseRow (24 + y) x w (Or.inr ⟨hal, rfl⟩) (by omega) (by omega) a2 (rx_endRow (24 + y) (Or.inr ⟨hal, rfl⟩) (by omega) (br_t rfl (br_f hal (nm_r eb1 (ry_er0 (by omega) a2 a8 (br_f hal ⟨pk_in (8 + y) 16 (by omega) (nI_add 8 y), nm_r (rt_us (nI_add 8 y) (by omega) rt_nar0) ⟨rfl, rl_mk I1 (rt_Mc_e1 C a2 a4 (by omega) a7 (by omega)) (rt_Mf_w1 F a4 (by omega) a7 rt_01_0)⟩⟩)))))))))
  by_cases h1 : v1 = 1
  · subst h1
    by_cases hal : al = 0
    · have M := rt_Mc_e0 (a := 0) (m := x + 1) C a2 a4 (by omega) a7 (by omega)
      rw [Nat.add_zero] at M
      exact br_f (by decide) (br_f (by decide) (br_f (by decide) (br_t rfl (rx_eraseRow (n + y) 0 (x + 1) (Or.inl ⟨hal, rfl⟩) (by omega) (by omega) (by omega) (br_f (by decide) (br_t rfl (br_t hal (nm_r eb0 (ry_er1 (by omega) a2 a8 ⟨rfl, rl_mk I1 M F⟩))))) rfl (nI_1 x)))))
    · have M := rt_Mc_e1 (a := 0) (m := x + 1) C a2 a4 (by omega) a7 (by omega)
      rw [Nat.add_zero] at M
      exact br_f (by decide) (br_f (by decide) (br_f (by decide) (br_t rfl (rx_eraseRow (24 + y) 0 (x + 1) (Or.inr ⟨hal, rfl⟩) (by omega) (by omega) (by omega) (br_f (by decide) (br_t rfl (br_f hal (nm_r eb1 (ry_er1 (by omega) a2 a8 ⟨rfl, rl_mk I1 M F⟩))))) rfl (nI_1 x)))))
  by_cases h2 : v1 = 2
  · subst h2
    by_cases hal : al = 0
    · have M := rt_Mc_e0 (a := 0) (m := w) C a2 a4 (by omega) a7 (by omega)
      rw [Nat.add_zero] at M
      exact br_f (by decide) (br_f (by decide) (br_f (by decide) (br_f (by decide) (br_t rfl (rx_eraseRow (n + y) 0 w (Or.inl ⟨hal, rfl⟩) (by omega) (by omega) a2 (rx_endRow (n + y) (Or.inl ⟨hal, rfl⟩) (by omega) (br_f (by decide) (br_f (by decide) (br_t rfl (br_t hal (nm_r eb0 (ry_er2 (by omega) a2 (br_t hal ⟨pk_in y 16 (by omega) (rt_z0 y), nm_r (rt_us (rt_z0 y) (by omega) rt_nar0) ⟨rfl, rl_mk I1 M (rt_Mf_w0 F a4 (by omega) a7 rt_01_0)⟩⟩)))))))))))))
    · have M := rt_Mc_e1 (a := 0) (m := w) C a2 a4 (by omega) a7 (by omega)
      rw [Nat.add_zero] at M
      exact br_f (by decide) (br_f (by decide) (br_f (by decide) (br_f (by decide) (br_t rfl (rx_eraseRow (24 + y) 0 w (Or.inr ⟨hal, rfl⟩) (by omega) (by omega) a2 (rx_endRow (24 + y) (Or.inr ⟨hal, rfl⟩) (by omega) (br_f (by decide) (br_f (by decide) (br_t rfl (br_f hal (nm_r eb1 (ry_er2 (by omega) a2 (br_f hal ⟨pk_in (8 + y) 16 (by omega) (nI_add 8 y), nm_r (rt_us (nI_add 8 y) (by omega) rt_nar0) ⟨rfl, rl_mk I1 M (rt_Mf_w1 F a4 (by omega) a7 rt_01_0)⟩⟩)))))))))))))
  have R : wpY_eraseInLine (fun r' v' => r' = 0 ∧ i_Rel (k + 3) (fn, fu, (nI w), (nI h), (nI s), (nI n), al, (nI tp), (nI bt), (nI y), (nI x), pd, (nI sy), (nI sx), sp, g, f, fc, ff) v') ((nI w), (nI h), (nI s), (nI n), (nI y), (nI x), (nI sy), (nI sx), (nI tp), (nI bt), al, pd, sp, lc, cl, ck, sb, sbf, sc, scf, rb, rbf, ls, lr, ll) v1 := br_f h0 (br_f h1 (br_f h2 ⟨rfl, rl_mk I0 C F⟩))
  exact br_c (fun _ => R) (fun _ => br_c (fun _ => R) (fun _ => br_f h0 (br_f h1 (br_f h2 trivial))))
end
section
/-! cell, wrapped, the constructors -/
theorem rt_ltn {v : Int32} {n : Nat} (hn : n ≤ 16) (h : v < -nI n) : v < 0 := by
  apply Classical.byContradiction
  intro z
  exact Int32.not_lt.mpr (rt_nneg hn z) h
theorem rt_gen {v : Int32} {h : Nat} (hh : h < 2 ^ 31) (hv : nI h ≤ v) : ¬ v < 0 := fun z =>
  Int32.lt_irrefl (Int32.lt_of_le_of_lt (Int32.le_trans (nI_pos' hh) hv) z)
theorem rt_nrd {v : Int32} {n : Nat} (hn : n ≤ 16) (h : ¬ v < 0) : ¬ v < -nI n := fun z => h (rt_ltn hn z)
theorem rt_hle {v : Int32} {h : Nat} (hh : h < 2 ^ 31) (hv : v < 0) : ¬ nI h ≤ v := fun z => rt_gen hh z hv
theorem i_vc_cell {k : Nat} {u : SX} {v : SY} (I : i_Rel k u v) (hk : k + 3 ≤ 1539) (v1 : Int32) (v2 : Int32) : wpX_cell (fun r => wpY_cell (fun r' => r' = r ∧ i_Rel (k + 3) u v) v v1 v2) u v1 v2 := by
  have R0 := I
  obtain ⟨w, h, s, n, y, x, sy, sx, tp, bt, al, pd, sp, fn, fu, lc, cl, ck, g, f, fc, ff, sb, sbf, sc, scf, rb, rbf, ls, lr, ll, rfl, rfl, I, C, F⟩ := I
  obtain ⟨a1, a2, a3, a4, a5, a6, a7, a8, a9, a10, a11, a12, a13, a14⟩ := I
  have R : i_Rel (k + 3) (fn, fu, (nI w), (nI h), (nI s), (nI n), al, (nI tp), (nI bt), (nI y), (nI x), pd, (nI sy), (nI sx), sp, g, f, fc, ff) ((nI w), (nI h), (nI s), (nI n), (nI y), (nI x), (nI sy), (nI sx), (nI tp), (nI bt), al, pd, sp, lc, cl, ck, sb, sbf, sc, scf, rb, rbf, ls, lr, ll) := R0
  clear R0
  unfold wpX_cell
  by_cases hc0 : v2 < 0
  · have Q : wpY_cell (fun r' => r' = -1 ∧ i_Rel (k + 3) (fn, fu, (nI w), (nI h), (nI s), (nI n), al, (nI tp), (nI bt), (nI y), (nI x), pd, (nI sy), (nI sx), sp, g, f, fc, ff) ((nI w), (nI h), (nI s), (nI n), (nI y), (nI x), (nI sy), (nI sx), (nI tp), (nI bt), al, pd, sp, lc, cl, ck, sb, sbf, sc, scf, rb, rbf, ls, lr, ll)) ((nI w), (nI h), (nI s), (nI n), (nI y), (nI x), (nI sy), (nI sx), (nI tp), (nI bt), al, pd, sp, lc, cl, ck, sb, sbf, sc, scf, rb, rbf, ls, lr, ll) v1 v2 := br_t hc0 ⟨rfl, R⟩
    exact br_c (fun _ => br_t rfl Q) (fun _ => br_c (fun _ => br_t rfl Q) (fun _ => br_f (by decide) (br_t hc0 Q)))
  by_cases hcw : v2 < nI w
  case neg =>
    have Q : wpY_cell (fun r' => r' = -1 ∧ i_Rel (k + 3) (fn, fu, (nI w), (nI h), (nI s), (nI n), al, (nI tp), (nI bt), (nI y), (nI x), pd, (nI sy), (nI sx), sp, g, f, fc, ff) ((nI w), (nI h), (nI s), (nI n), (nI y), (nI x), (nI sy), (nI sx), (nI tp), (nI bt), al, pd, sp, lc, cl, ck, sb, sbf, sc, scf, rb, rbf, ls, lr, ll)) ((nI w), (nI h), (nI s), (nI n), (nI y), (nI x), (nI sy), (nI sx), (nI tp), (nI bt), al, pd, sp, lc, cl, ck, sb, sbf, sc, scf, rb, rbf, ls, lr, ll) v1 v2 := br_f hc0 (br_f hcw ⟨rfl, R⟩)
    exact br_c (fun _ => br_t rfl Q) (fun _ => br_c (fun _ => br_t rfl Q) (fun _ => br_f (by decide) (br_f hc0 (br_f hcw Q))))
  obtain ⟨c, hc, rfl⟩ := nI_of hc0
  have hcl : c < w := (nI_ltI hc (by omega)).mp hcw
  by_cases h1 : v1 < -nI n
  · have h2 := rt_ltn (by omega) h1
    have h3 : ¬ 0 ≤ v1 := Int32.not_le.mpr h2
    exact br_t h1 (br_t rfl (br_f hc0 (br_t hcw (br_f h3 (br_t h1 (br_t h2 ⟨rfl, R⟩))))))
  by_cases h2 : nI h ≤ v1
  · have h3 := rt_gen (by omega) h2
    have h4 : 0 ≤ v1 := Int32.not_lt.mp h3
    exact br_f h1 (br_t h2 (br_t rfl (br_f hc0 (br_t hcw (br_t h4 (br_f h3 (br_t h2 ⟨rfl, R⟩)))))))
  by_cases h3 : v1 < 0
  · have h4 : ¬ 0 ≤ v1 := Int32.not_le.mpr h3
    obtain ⟨j, hj, ej⟩ := rt_neg (by omega) h3 (Int32.not_lt.mp h1)
    have e : (nI n + v1) * 16 + nI c = nI (j * 16 + c) := by rw [ej, rt_ix]
    refine br_f h1 (br_f h2 (br_f (by decide) (br_f hc0 (br_t hcw (br_f h4 ⟨pk_in _ 512 (by omega) e, br_f hc0 (br_t hcw (br_f h4 (br_f h1 ⟨pk_in _ 256 (by omega) e, ?_, R⟩)))⟩)))))
    rw [rt_rd (a := sb) e (by omega), rt_rd (a := g) e (by omega)]
    exact (rt_cg C.1 (by omega) (by omega) (by omega)).symm
  · obtain ⟨r, hr, rfl⟩ := nI_of h3
    have h4 : (0 : Int32) ≤ nI r := Int32.not_lt.mp h3
    have hrl : r < h := by
      rw [nI_leI (by omega) hr] at h2; omega
    by_cases hal : al = 0
    · have e0 : (nI n + nI r) * 16 + nI c = nI ((n + r) * 16 + c) := by rw [nI_add, rt_ix]
      refine br_f h1 (br_f h2 (br_f (by decide) (br_f hc0 (br_t hcw (br_t h4 (br_t hal ⟨pk_in _ 512 (by omega) e0, br_f hc0 (br_t hcw (br_t h4 (br_f h3 (br_f h2 (br_t hal ⟨pk_in _ 256 (by omega) (rt_iy0 r c), ?_, R⟩)))))⟩))))))
      rw [rt_rd (a := sc) (rt_iy0 r c) (by omega), rt_rd (a := g) e0 (by omega)]
      exact (rt_cg C.2.1 (by omega) (by omega) (by omega)).symm
    · have e1 : (24 + nI r) * 16 + nI c = nI ((24 + r) * 16 + c) := by rw [show (24 : Int32) = nI 24 from rfl, nI_add, rt_ix]
      refine br_f h1 (br_f h2 (br_f (by decide) (br_f hc0 (br_t hcw (br_t h4 (br_f hal ⟨pk_in _ 512 (by omega) e1, br_f hc0 (br_t hcw (br_t h4 (br_f h3 (br_f h2 (br_f hal ⟨pk_in _ 256 (by omega) (rt_iy 128 r c), ?_, R⟩)))))⟩))))))
      rw [rt_rd (a := sc) (show 128 + nI r * 16 + nI c = nI (128 + r * 16 + c) from rt_iy 128 r c) (by omega), rt_rd (a := g) e1 (by omega)]
      exact (rt_cg C.2.2.1 (by omega) (by omega) (by omega)).symm
theorem i_vc_wrapped {k : Nat} {u : SX} {v : SY} (I : i_Rel k u v) (hk : k + 3 ≤ 1539) (v1 : Int32) : wpX_wrapped (fun r => wpY_wrapped (fun r' => r' = r ∧ i_Rel (k + 3) u v) v v1) u v1 := by
  have R0 := I
  obtain ⟨w, h, s, n, y, x, sy, sx, tp, bt, al, pd, sp, fn, fu, lc, cl, ck, g, f, fc, ff, sb, sbf, sc, scf, rb, rbf, ls, lr, ll, rfl, rfl, I, C, F⟩ := I
  obtain ⟨a1, a2, a3, a4, a5, a6, a7, a8, a9, a10, a11, a12, a13, a14⟩ := I
  have R : i_Rel (k + 3) (fn, fu, (nI w), (nI h), (nI s), (nI n), al, (nI tp), (nI bt), (nI y), (nI x), pd, (nI sy), (nI sx), sp, g, f, fc, ff) ((nI w), (nI h), (nI s), (nI n), (nI y), (nI x), (nI sy), (nI sx), (nI tp), (nI bt), al, pd, sp, lc, cl, ck, sb, sbf, sc, scf, rb, rbf, ls, lr, ll) := R0
  clear R0
  obtain ⟨f1, f2, f3, f4, f5, f6⟩ := F
  unfold wpX_wrapped
  by_cases h1 : v1 < -nI n
  · have h2 := rt_ltn (by omega) h1
    have h3 : ¬ 0 ≤ v1 := Int32.not_le.mpr h2
    exact br_t h1 (br_t rfl (br_f h3 (br_t h1 (br_t h2 ⟨rfl, R⟩))))
  by_cases h2 : nI h ≤ v1
  · have h3 := rt_gen (by omega) h2
    have h4 : 0 ≤ v1 := Int32.not_lt.mp h3
    exact br_f h1 (br_t h2 (br_t rfl (br_t h4 (br_f h3 (br_t h2 ⟨rfl, R⟩)))))
  by_cases h3 : v1 < 0
  · have h4 : ¬ 0 ≤ v1 := Int32.not_le.mpr h3
    obtain ⟨j, hj, ej⟩ := rt_neg (by omega) h3 (Int32.not_lt.mp h1)
    refine br_f h1 (br_f h2 (br_f (by decide) (br_f h4 ⟨pk_in j 32 (by omega) ej, rt_nb (f4 _), br_f h4 (br_f h1 ⟨pk_in j 16 (by omega) ej, rt_nb (f5 _), ?_, R⟩)⟩)))
    rw [rt_rd (a := sbf) ej (by omega), rt_rd (a := f) ej (by omega)]
    exact (rt_cg f1 (by omega) (by omega) (by omega)).symm
  · obtain ⟨r, hr, rfl⟩ := nI_of h3
    have h4 : (0 : Int32) ≤ nI r := Int32.not_lt.mp h3
    have hrl : r < h := by
      rw [nI_leI (by omega) hr] at h2; omega
    by_cases hal : al = 0
    · refine br_f h1 (br_f h2 (br_f (by decide) (br_t h4 (br_t hal ⟨pk_in (n + r) 32 (by omega) (nI_add n r), rt_nb (f4 _), br_t h4 (br_f h3 (br_f h2 (br_t hal ⟨pk_in r 16 (by omega) (rt_z0 r), rt_nb (f6 _), ?_, R⟩)))⟩))))
      rw [rt_rd (a := scf) (rt_z0 r) (by omega), rt_rd (a := f) (nI_add n r) (by omega)]
      exact (rt_cg f2 (by omega) (by omega) (by omega)).symm
    · refine br_f h1 (br_f h2 (br_f (by decide) (br_t h4 (br_f hal ⟨pk_in (24 + r) 32 (by omega) (nI_add 24 r), rt_nb (f4 _), br_t h4 (br_f h3 (br_f h2 (br_f hal ⟨pk_in (8 + r) 16 (by omega) (nI_add 8 r), rt_nb (f6 _), ?_, R⟩)))⟩))))
      rw [rt_rd (a := scf) (show 8 + nI r = nI (8 + r) from nI_add 8 r) (by omega), rt_rd (a := f) (show 24 + nI r = nI (24 + r) from nI_add 24 r) (by omega)]
      exact (rt_cg f3 (by omega) (by omega) (by omega)).symm
theorem ry_init {w h s n y x sy sx tp bt : Nat} {al pd sp lc cl ck : Int32} {sb sbf sc scf rb rbf ls lr ll : Nat → Int32} {post : SY → Prop} (H : post ((nI w), (nI h), (nI s), (nI n), (nI y), (nI x), (nI sy), (nI sx), 0, (nI h - 1), al, pd, sp, lc, cl, ck, (rt_put sb 0 256 (fun _ => 32)), sbf, (rt_put sc 0 256 (fun _ => 32)), scf, rb, rbf, ls, lr, ll)) : ∃ N, wY_init_118 post (nI w) (nI h) (nI s) (nI n) (nI y) (nI x) (nI sy) (nI sx) (nI tp) (nI bt) al pd sp lc cl ck N 0 sb sbf sc scf rb rbf ls lr ll := by
  refine rt_loop2 (fun N i (qa qb : Nat → Int32) => wY_init_118 post (nI w) (nI h) (nI s) (nI n) (nI y) (nI x) (nI sy) (nI sx) (nI tp) (nI bt) al pd sp lc cl ck N (nI i) qa sbf qb scf rb rbf ls lr ll) (fun i qa qb => qa = rt_put sb 0 i (fun _ => 32) ∧ qb = rt_put sc 0 i (fun _ => 32)) 256 0 sb sc (by omega) ⟨(rt_put_0 _ _ _).symm, (rt_put_0 _ _ _).symm⟩ ?_ ?_
  · rintro N qa qb ⟨rfl, rfl⟩
    exact pk_le 256 256 (fun _ => nm_e H) (fun z => absurd z (by omega))
  · rintro N i qa qb hi ⟨rfl, rfl⟩ K
    have e1 := rt_put_s (g := sb) (v := fun _ => 32) (b := 0) (m := i) (x := 32) rfl
    have e2 := rt_put_s (g := sc) (v := fun _ => 32) (b := 0) (m := i) (x := 32) rfl
    rw [Nat.zero_add] at e1 e2
    exact pk_le 256 i (fun z => absurd z (by omega)) (fun _ => ⟨pk_in i 256 (by omega), nm_r ((rt_us rfl (by omega) rfl).trans e1) ⟨pk_in i 256 (by omega), nm_r ((rt_us rfl (by omega) rfl).trans e2) (nm_r (nI_1 i) (K _ _ ⟨rfl, rfl⟩))⟩⟩)
theorem rx_clamp {v : Int32} {lo hi c : Nat} (H : ∀ P : Int32 → Prop, P (nI c) → ((nI lo ≤ v → ((v ≤ nI hi → P v) ∧ (¬ v ≤ nI hi → P (nI hi)))) ∧ (¬ nI lo ≤ v → P (nI lo)))) (P : Int32 → Prop) (h : P (nI c)) : wpX_clamp P v (nI lo) (nI hi) := H P h
theorem ry_clamp {v : Int32} {lo hi c : Nat} (H : ∀ P : Int32 → Prop, P (nI c) → ((nI lo ≤ v → ((v ≤ nI hi → P v) ∧ (¬ v ≤ nI hi → P (nI hi)))) ∧ (¬ nI lo ≤ v → P (nI lo)))) {q1 q2 q3 q4 q5 q6 q7 q8 q9 q10 q11 q12 q13 q14 q15 q16 : Int32} {b1 b2 b3 b4 b5 b6 b7 b8 b9 : Nat → Int32} (P : Int32 → Prop) (h : P (nI c)) : wpY_clamp P (q1, q2, q3, q4, q5, q6, q7, q8, q9, q10, q11, q12, q13, q14, q15, q16, b1, b2, b3, b4, b5, b6, b7, b8, b9) v (nI lo) (nI hi) := H P h
theorem i_vc0 (k0 : Int32) (k1 : Int32) (k2 : Int32) : wpX_init (fun u => wpY_init (fun v => i_Rel 3 u v) k0 k1 k2) k0 k1 k2 := by
  obtain ⟨w, w1, w2, hw⟩ := rt_clamp k0 4 16 (by omega) (by omega)
  obtain ⟨h, h1, h2, hh⟩ := rt_clamp k1 2 8 (by omega) (by omega)
  obtain ⟨s, s1, s2, hs⟩ := rt_clamp k2 0 16 (by omega) (by omega)
  have e1 : nI h - 1 = nI (h - 1) := pk_sub (b := 1) (by omega)
  unfold wpX_init
  refine rx_clamp hw _ ?_
  refine rx_clamp hh _ ?_
  refine rx_clamp hs _ ?_
  refine (rx_clearRows (n := 0) (tp := 0) (bt := 0) (y := 0) (x := 0) (sy := 0) (sx := 0) 0 32 (by omega) (by omega) (nm_r e1 ?_))
  show wpY_init _ k0 k1 k2
  unfold wpY_init
  refine ry_clamp hw _ ?_
  refine ry_clamp hh _ ?_
  refine ry_clamp hs _ ?_
  refine ry_init (n := 0) (tp := 0) (bt := 0) (y := 0) (x := 0) (sy := 0) (sx := 0) ?_
  rw [e1]
  refine rl_mk (n := 0) (tp := 0) (bt := h - 1) (y := 0) (x := 0) (sy := 0) (sx := 0) ⟨w1, w2, h1, h2, s2, by omega, by omega, by omega, by omega, by omega, rt_01_0, rt_01_0, rt_01_0, fun z => absurd rfl z⟩ ?_ ?_
  · refine ⟨fun i hi => by omega, fun i hi => ?_, fun i hi => ?_, fun i hi hb => ?_⟩ <;> simp only [rt_put] <;> repeat' split
    all_goals first | omega | rfl
  · refine ⟨fun i hi => by omega, fun i hi => ?_, fun i hi => ?_, fun i => ?_, fun i => rt_01_0, fun i => rt_01_0⟩
    · simp only [rt_put]; split <;> rfl
    · simp only [rt_put]; split <;> rfl
    · simp only [rt_put]; split <;> exact rt_01_0
end
section
/-! Y's table of lines -/
theorem ry_qCell {w h s n y x sy sx tp bt : Nat} {al pd sp lc cl ck : Int32} {sb sbf sc scf rb rbf ls lr ll : Nat → Int32} {g : Nat → Int32} {P : Int32 → Prop} {A B : Int32} (i c : Nat) (C : rt_Mc w h n g sb sc) (hn : n ≤ 16) (hh : h ≤ 8) (hi : i < n + h) (hc : c < 16) (H : P (g (i * 16 + c))) (eA : A = nI i := by rfl) (eB : B = nI c := by rfl) : wpY_qCell P ((nI w), (nI h), (nI s), (nI n), (nI y), (nI x), (nI sy), (nI sx), (nI tp), (nI bt), al, pd, sp, lc, cl, ck, sb, sbf, sc, scf, rb, rbf, ls, lr, ll) A B := by
  subst eA eB
  refine pk_lt i 0 (fun z => absurd z (by omega)) (fun _ => pk_lt c 0 (fun z => absurd z (by omega)) (fun _ => pk_le c 15 (fun _ => pk_le n i (fun z => pk_le 8 (i - n) (fun y => absurd y (by omega)) (fun _ => ?_) rfl (pk_sub z)) (fun z => ⟨pk_in (i * 16 + c) 256 (by omega) (rt_ix i c), ?_⟩)) (fun z => absurd z (by omega))))
  · have e : (nI i - nI n) * 16 + nI c = nI ((i - n) * 16 + c) := by rw [pk_sub z, rt_ix]
    refine ⟨pk_in ((i - n) * 16 + c) 256 (by omega) e, ?_⟩
    rw [rt_rd (a := sc) e (by omega), ← rt_cg (p := i * 16 + c) C.2.1 (by omega) (by omega) (by omega)]
    exact H
  · rw [rt_rd (a := sb) (rt_ix i c) (by omega), ← rt_cg (p := i * 16 + c) C.1 (by omega) (by omega) (by omega)]
    exact H
theorem ry_qFlag {w h s n y x sy sx tp bt : Nat} {al pd sp lc cl ck : Int32} {sb sbf sc scf rb rbf ls lr ll : Nat → Int32} {f : Nat → Int32} {P : Int32 → Prop} {A : Int32} (i : Nat) (F : rt_Mf h n f sbf scf) (hn : n ≤ 16) (hh : h ≤ 8) (hi : i < n + h) (H : P (f i)) (eA : A = nI i := by rfl) : wpY_qFlag P ((nI w), (nI h), (nI s), (nI n), (nI y), (nI x), (nI sy), (nI sx), (nI tp), (nI bt), al, pd, sp, lc, cl, ck, sb, sbf, sc, scf, rb, rbf, ls, lr, ll) A := by
  subst eA
  obtain ⟨f1, f2, f3, f4, f5, f6⟩ := F
  refine pk_le 0 i (fun _ => pk_le n i (fun z => pk_le 8 (i - n) (fun y => absurd y (by omega)) (fun _ => ⟨pk_in (i - n) 16 (by omega) (pk_sub z), rt_nb (f6 _), ?_⟩) rfl (pk_sub z)) (fun z => ⟨pk_in i 16 (by omega), rt_nb (f5 _), ?_⟩)) (fun z => absurd z (by omega))
  · rw [rt_rd (a := scf) (pk_sub z) (by omega), ← rt_cg (p := i) f2 (by omega) (by omega) (by omega)]
    exact H
  · rw [rt_rd (a := sbf) rfl (by omega), ← rt_cg (p := i) f1 (by omega) (by omega) (by omega)]
    exact H
theorem ry_textAt {w h s n y x sy sx tp bt : Nat} {al pd sp lc cl ck : Int32} {sb sbf sc scf rb rbf ls lr ll : Nat → Int32} {g : Nat → Int32} {P : Int32 → Prop} {A B : Int32} (l t st : Nat) (C : rt_Mc w h n g sb sc) (hn : n ≤ 16) (hh : h ≤ 8) (hw0 : 0 < w) (hw : w ≤ 16) (hl : l < 24) (ht : t < 2 ^ 20) (hs : ls l = nI st) (hr : st + t / w < n + h) (H : P (rt_tx g w st t)) (eA : A = nI l := by rfl) (eB : B = nI t := by rfl) : wpY_textAt P ((nI w), (nI h), (nI s), (nI n), (nI y), (nI x), (nI sy), (nI sx), (nI tp), (nI bt), al, pd, sp, lc, cl, ck, sb, sbf, sc, scf, rb, rbf, ls, lr, ll) A B := by
  subst eA eB
  have hm := Nat.mod_lt t hw0
  refine ⟨pk_in l 24 hl, nI_ne0 hw0 (by omega), nI_ne0 hw0 (by omega), ry_qCell (st + t / w) (t % w) C hn hh hr (by omega) H ?_ ?_⟩
  · rw [rt_rd (a := ls) rfl (by omega), hs, pk_div (by omega) hw0 (by omega), nI_add]
  · exact pk_rem (by omega) hw0 (by omega)
theorem ry_c85 {w h s n y x sy sx tp bt : Nat} {al pd sp cl ck : Int32} {sb sbf sc scf rb rbf ls lr ll : Nat → Int32} {post : SY → Prop} {J : Int32 → Int32 → (Nat → Int32) → (Nat → Int32) → (Nat → Int32) → (Nat → Int32) → (Nat → Int32) → (Nat → Int32) → (Nat → Int32) → (Nat → Int32) → (Nat → Int32) → Prop} {x1 x2 x3 : Int32} {k i : Nat} (hk : k < 24) (hi : i < 24) (H : J (nI (i + 1)) (nI (k + 1)) sb sbf sc scf rb rbf (upd ls k (nI i)) (upd lr k (nI 1)) ll) : wY_computeLines_85 post J x1 x2 x3 (nI i) (nI w) (nI h) (nI s) (nI n) (nI y) (nI x) (nI sy) (nI sx) (nI tp) (nI bt) al pd sp (nI k) cl ck sb sbf sc scf rb rbf ls lr ll :=
  pk_le 24 k (fun z => absurd z (by omega)) (fun _ => ⟨pk_in k 24 hk, nm_r (rt_us rfl (by omega) rfl) ⟨pk_in k 24 hk, nm_r (rt_us rfl (by omega) rfl) (nm_r (nI_1 k) (nm_r (nI_1 i) H))⟩⟩)
theorem ry_c56 {w h s n y x sy sx tp bt : Nat} {al pd sp cl ck : Int32} {sb sbf sc scf rb rbf ls lr ll : Nat → Int32} {post : SY → Prop} {f : Nat → Int32} {x1 x2 : Int32} (hn : n ≤ 16) (hh : h ≤ 8) (F : rt_Mf h n f sbf scf) (H : ∀ (k : Nat) (ls' lr' : Nat → Int32), rt_yl f (n + h) k ls' lr' → wY_computeLines_156 post x1 x2 (nI w) (nI h) (nI s) (nI n) (nI y) (nI x) (nI sy) (nI sx) (nI tp) (nI bt) al pd sp (nI k) cl ck sb sbf sc scf rb rbf ls' lr' ll) : ∃ N, wY_computeLines_56 post x1 x2 (nI (n + h)) (nI w) (nI h) (nI s) (nI n) (nI y) (nI x) (nI sy) (nI sx) (nI tp) (nI bt) al pd sp cl ck N 0 0 sb sbf sc scf rb rbf ls lr ll := by
  refine rt_loop3 (fun N i (k : Nat) (qa qb : Nat → Int32) => wY_computeLines_56 post x1 x2 (nI (n + h)) (nI w) (nI h) (nI s) (nI n) (nI y) (nI x) (nI sy) (nI sx) (nI tp) (nI bt) al pd sp cl ck N (nI i) (nI k) sb sbf sc scf rb rbf qa qb ll) (fun i k qa qb => rt_yl f i k qa qb) (n + h) 0 0 ls lr (Nat.zero_le _) (rt_yl_0 _ _ _) ?_ ?_
  · intro N k qa qb I
    exact pk_le (n + h) (n + h) (fun _ => H k qa qb I) (fun z => absurd z (by omega))
  · intro N i k qa qb hi I K
    have hk := rt_yl_k I
    have new : (i = 0 ∨ f (i - 1) = 0) → wY_computeLines_85 post (wY_computeLines_56 post x1 x2 (nI (n + h)) (nI w) (nI h) (nI s) (nI n) (nI y) (nI x) (nI sy) (nI sx) (nI tp) (nI bt) al pd sp cl ck N) x1 x2 (nI (n + h)) (nI i) (nI w) (nI h) (nI s) (nI n) (nI y) (nI x) (nI sy) (nI sx) (nI tp) (nI bt) al pd sp (nI k) cl ck sb sbf sc scf rb rbf qa qb ll := fun z => ry_c85 (by omega) (by omega) (K _ _ _ (rt_yl_new I z))
    refine pk_le (n + h) i (fun z => absurd z (by omega)) (fun _ => pk_le 24 i (fun z => absurd z (by omega)) (fun _ => pk_eq i 0 (fun z => new (Or.inl z)) (fun z => ry_qFlag (i - 1) F hn hh (by omega) (br_c (fun y => new (Or.inr y)) (fun y => ?_)) (pk_sub (b := 1) (by omega)))))
    have hk1 := I.2.1 (by omega)
    have e : nI k - 1 = nI (k - 1) := pk_sub (b := 1) (by omega)
    exact pk_le k 0 (fun z => absurd z (by omega)) (fun _ => ⟨pk_in (k - 1) 24 (by omega) e, pk_in (k - 1) 24 (by omega) e, nm_r (rt_us e (by omega) (congrArg (fun q => q + 1) (rt_rd e (by omega)))) (nm_r (nI_1 i) (K _ _ _ (rt_yl_old I (by omega) y)))⟩)
theorem rt_ln_le (g f : Nat → Int32) (w T l : Nat) : rt_ln g f w T l ≤ T * w :=
  Nat.le_trans (rt_len_le _ _) (Nat.mul_le_mul_right _ (by have := rt_V_le f T (l + 1); omega))
theorem ry_c319 {w h s n y x sy sx tp bt : Nat} {al pd sp ck : Int32} {sb sbf sc scf rb rbf ls lr ll : Nat → Int32} {post : SY → Prop} {g f : Nat → Int32} {T ci k : Nat} (hT : T ≤ 24) (hc : ci < T) (hw0 : 0 < w) (hw : w ≤ 16) (hk : k = rt_L f (T - 1) + 1) (hll : ∀ l, l < k → ll l = nI (rt_ln g f w T l)) (H : post ((nI w), (nI h), (nI s), (nI n), (nI y), (nI x), (nI sy), (nI sx), (nI tp), (nI bt), al, pd, sp, (nI (rt_N g f w T ci)), (nI (rt_L f ci)), ck, sb, sbf, sc, scf, rb, rbf, ls, lr, ll)) : ∃ N, wY_computeLines_319 post (nI w) (nI h) (nI s) (nI n) (nI y) (nI x) (nI sy) (nI sx) (nI tp) (nI bt) al pd sp (nI (rt_L f ci)) ck sb sbf sc scf rb rbf ls lr ll N 0 (nI k) := by
  have hle := rt_L_le f (T - 1)
  have hcl := rt_L_m f (show ci ≤ T - 1 by omega)
  have fin : ∀ m, rt_M g f w T ci m → post ((nI w), (nI h), (nI s), (nI n), (nI y), (nI x), (nI sy), (nI sx), (nI tp), (nI bt), al, pd, sp, (nI m), (nI (rt_L f ci)), ck, sb, sbf, sc, scf, rb, rbf, ls, lr, ll) := fun m M => by
    rw [rt_M_u M (rt_N_M hw0 hc)]; exact H
  refine pk_loop (fun N i (m : Nat) => wY_computeLines_319 post (nI w) (nI h) (nI s) (nI n) (nI y) (nI x) (nI sy) (nI sx) (nI tp) (nI bt) al pd sp (nI (rt_L f ci)) ck sb sbf sc scf rb rbf ls lr ll N (nI i) (nI m)) (fun i m => m + i = k ∧ rt_L f ci < m ∧ ∀ l, m ≤ l → l < k → rt_ln g f w T l = 0) 24 0 k (by omega) ⟨by omega, by omega, fun l h1 h2 => by omega⟩ ?_ ?_
  · rintro N m ⟨h1, h2, h3⟩
    omega
  · rintro N i m hi ⟨h1, h2, h3⟩ K
    have e : nI m - 1 = nI (m - 1) := pk_sub (b := 1) (by omega)
    have h4 := rt_ln_le g f w T (m - 1)
    have h5 : T * w ≤ 24 * 16 := Nat.mul_le_mul hT hw
    refine pk_le 24 i (fun z => absurd z (by omega)) (fun _ => pk_le (m - 1) (rt_L f ci) (fun z => fin m ⟨h2, by omega, fun l p q => h3 l p (by omega), Or.inl (by omega)⟩) (fun z => ⟨pk_in (m - 1) 24 (by omega) e, br_c (fun y => ?_) (fun y => ?_)⟩) e)
    · have y' := rt_flE (m - 1) e (by omega) y
      rw [hll _ (by omega)] at y'
      refine nm_r e (nm_r (nI_1 i) (K (m - 1) ⟨by omega, by omega, fun l p q => ?_⟩))
      by_cases el : l = m - 1
      · rw [el]; exact (nI_eq (by omega) (by omega)).mp y'
      · exact h3 l (by omega) q
    · have y' := rt_nflE (m - 1) e (by omega) y
      rw [hll _ (by omega)] at y'
      refine fin m ⟨h2, by omega, fun l p q => h3 l p (by omega), Or.inr (fun z => y' ?_)⟩
      rw [z]; rfl

theorem ry_c242 {w h s n y x sy sx tp bt : Nat} {al pd sp lc cl ck : Int32} {sb sbf sc scf rb rbf ls lr ll : Nat → Int32} {post : SY → Prop} {J : Int32 → Int32 → Int32 → (Nat → Int32) → (Nat → Int32) → (Nat → Int32) → (Nat → Int32) → (Nat → Int32) → (Nat → Int32) → (Nat → Int32) → (Nat → Int32) → (Nat → Int32) → Prop} {f : Nat → Int32} {T ci mc l : Nat} {x6 : Int32} (hT : T ≤ 24) (hc : ci < T) (hl : l < 24) (hls : ls l = nI (rt_V f T l)) (hlr : lr l = nI (rt_V f T (l + 1) - rt_V f T l)) (H : ∀ cl' ck' : Int32, ((rt_L f ci < l ∨ l < rt_L f ci) → cl' = cl ∧ ck' = ck) → (rt_L f ci = l → cl' = nI (rt_L f ci) ∧ ck' = nI (rt_ck f w T ci mc)) → J (nI (l + 1)) cl' ck' sb sbf sc scf rb rbf ls lr (upd ll l x6)) : wY_computeLines_242 post J (nI mc) (nI ci) (nI l) x6 (nI w) (nI h) (nI s) (nI n) (nI y) (nI x) (nI sy) (nI sx) (nI tp) (nI bt) al pd sp lc cl ck sb sbf sc scf rb rbf ls lr ll := by
  have m := rt_V_mono f T (show l ≤ l + 1 by omega)
  have b1 := rt_V_le f T l
  have b2 := rt_V_le f T (l + 1)
  have i1 := rt_V_iff f T l ci hc
  have i2 := rt_V_iff f T (l + 1) ci hc
  have es : ls (nI l).toNatClampNeg = nI (rt_V f T l) := (rt_rd rfl (by omega)).trans hls
  have er : ls (nI l).toNatClampNeg + lr (nI l).toNatClampNeg = nI (rt_V f T (l + 1)) := by
    rw [es, rt_rd (a := lr) rfl (by omega), hlr, nI_add]
    congr 1; omega
  refine ⟨pk_in l 24 hl, nm_r (rt_us rfl (by omega) rfl) ⟨pk_in l 24 hl, pk_lt ci (rt_V f T l) (fun z => nm_r (nI_1 l) (H cl ck (fun _ => ⟨rfl, rfl⟩) (fun e => by omega))) (fun z => ⟨pk_in l 24 hl, pk_in l 24 hl, pk_le (rt_V f T (l + 1)) ci (fun y => nm_r (nI_1 l) (H cl ck (fun _ => ⟨rfl, rfl⟩) (fun e => by omega))) (fun y => ⟨pk_in l 24 hl, nm_r (e' := nI (rt_ck f w T ci mc)) ?_ (nm_r (nI_1 l) (H (nI l) _ (fun e => by omega) (fun e => ⟨by rw [e], rfl⟩)))⟩) er⟩) rfl es⟩⟩
  have e : rt_L f ci = l := by omega
  unfold rt_ck
  rw [es, pk_sub z, pk_mul, nI_add, e]
theorem ry_c192 {w h s n y x sy sx tp bt : Nat} {al pd sp lc cl ck : Int32} {sb sbf sc scf rb rbf ls lr ll : Nat → Int32} {post : SY → Prop} {J : Int32 → Int32 → Int32 → (Nat → Int32) → (Nat → Int32) → (Nat → Int32) → (Nat → Int32) → (Nat → Int32) → (Nat → Int32) → (Nat → Int32) → (Nat → Int32) → (Nat → Int32) → Prop} {g : Nat → Int32} {x2 x4 : Int32} {l st rows : Nat} (C : rt_Mc w h n g sb sc) (hn : n ≤ 16) (hh : h ≤ 8) (hw0 : 0 < w) (hw : w ≤ 16) (hl : l < 24) (hls : ls l = nI st) (hlr : lr l = nI rows) (hst : st + rows ≤ n + h) (H : wY_computeLines_242 post J x2 x4 (nI l) (nI (rt_len (rt_tx g w st) (rows * w))) (nI w) (nI h) (nI s) (nI n) (nI y) (nI x) (nI sy) (nI sx) (nI tp) (nI bt) al pd sp lc cl ck sb sbf sc scf rb rbf ls lr ll) : ∃ N, wY_computeLines_192 post J x2 x4 (nI l) (nI w) (nI h) (nI s) (nI n) (nI y) (nI x) (nI sy) (nI sx) (nI tp) (nI bt) al pd sp lc cl ck sb sbf sc scf rb rbf ls lr ll N 0 0 := by
  have hb : rows * w ≤ 24 * 16 := Nat.mul_le_mul (by omega) hw
  have er : lr (nI l).toNatClampNeg * nI w = nI (rows * w) := by rw [rt_rd (a := lr) rfl (by omega), hlr, pk_mul]
  refine pk_loop (fun N i (q : Int32) => wY_computeLines_192 post J x2 x4 (nI l) (nI w) (nI h) (nI s) (nI n) (nI y) (nI x) (nI sy) (nI sx) (nI tp) (nI bt) al pd sp lc cl ck sb sbf sc scf rb rbf ls lr ll N q (nI i)) (fun i q => q = nI (rt_len (rt_tx g w st) i)) (rows * w) 0 0 (Nat.zero_le _) rfl ?_ ?_
  · rintro N q rfl
    exact ⟨pk_in l 24 hl, pk_le (rows * w) (rows * w) (fun _ => H) (fun z => absurd z (by omega)) er⟩
  · rintro N i q hi rfl K
    have hq : i / w < rows := Nat.div_lt_of_lt_mul (by rw [Nat.mul_comm]; exact hi)
    have hq2 : st + i / w < n + h := Nat.lt_of_lt_of_le (Nat.add_lt_add_left hq st) hst
    refine ⟨pk_in l 24 hl, pk_le (rows * w) i (fun z => absurd z (by omega)) (fun _ => pk_le 384 i (fun z => absurd z (by omega)) (fun _ => ry_textAt l i st C hn hh hw0 hw hl (by omega) hls hq2 (br_c (fun z => nm_r (nI_1 i) (K _ ?_)) (fun z => nm_r (nI_1 i) (nm_r (nI_1 i) (K _ ?_)))))) er⟩
    · rw [rt_len_b z]
    · rw [rt_len_t z]
theorem ry_c177 {w h s n y x sy sx tp bt : Nat} {al pd sp : Int32} {sb sbf sc scf rb rbf ls lr ll : Nat → Int32} {post : SY → Prop} {g f : Nat → Int32} {ci mc k : Nat} (C : rt_Mc w h n g sb sc) (hn : n ≤ 16) (hh : h ≤ 8) (h0 : 0 < h) (hw0 : 0 < w) (hw : w ≤ 16) (hc : ci < n + h) (Y : rt_yl f (n + h) k ls lr) (H : ∀ ll' : Nat → Int32, (∀ l, l < k → ll' l = nI (rt_ln g f w (n + h) l)) → post ((nI w), (nI h), (nI s), (nI n), (nI y), (nI x), (nI sy), (nI sx), (nI tp), (nI bt), al, pd, sp, (nI (rt_N g f w (n + h) ci)), (nI (rt_L f ci)), (nI (rt_ck f w (n + h) ci mc)), sb, sbf, sc, scf, rb, rbf, ls, lr, ll')) : ∃ N, wY_computeLines_177 post (nI mc) (nI ci) (nI w) (nI h) (nI s) (nI n) (nI y) (nI x) (nI sy) (nI sx) (nI tp) (nI bt) al pd sp (nI k) N 0 0 0 sb sbf sc scf rb rbf ls lr ll := by
  have hk := Y.2.1 (by omega)
  have hk2 := rt_yl_k Y
  have hcl := rt_L_m f (show ci ≤ n + h - 1 by omega)
  refine rt_loop3 (fun N i (qa qb : Int32) (qc : Nat → Int32) => wY_computeLines_177 post (nI mc) (nI ci) (nI w) (nI h) (nI s) (nI n) (nI y) (nI x) (nI sy) (nI sx) (nI tp) (nI bt) al pd sp (nI k) N (nI i) qa qb sb sbf sc scf rb rbf ls lr qc) (fun i qa qb qc => (∀ l, l < i → qc l = nI (rt_ln g f w (n + h) l)) ∧ (rt_L f ci < i → qa = nI (rt_L f ci) ∧ qb = nI (rt_ck f w (n + h) ci mc))) k 0 0 0 ll (Nat.zero_le _) ⟨fun l hl => by omega, fun hl => by omega⟩ ?_ ?_
  · rintro N qa qb qc ⟨h1, h2⟩
    obtain ⟨rfl, rfl⟩ := h2 (by omega)
    exact pk_le k k (fun _ => ry_c319 (by omega) hc hw0 hw hk h1 (H qc h1)) (fun z => absurd z (by omega))
  · rintro N i qa qb qc hi ⟨h1, h2⟩ K
    have yl := Y.2.2 i hi
    have b2 := rt_V_le f (n + h) (i + 1)
    have m := rt_V_mono f (n + h) (show i ≤ i + 1 by omega)
    refine pk_le k i (fun z => absurd z (by omega)) (fun _ => ry_c192 C hn hh hw0 hw (by omega) yl.1 yl.2 (by omega) (ry_c242 (by omega) hc (by omega) yl.1 yl.2 (fun cl' ck' p q => K cl' ck' _ ⟨fun l hl => ?_, fun hl => ?_⟩)))
    · by_cases e : l = i
      · subst e; rw [pk_us]; rfl
      · rw [pk_un e]; exact h1 l (by omega)
    · by_cases e : rt_L f ci = i
      · exact q e
      · obtain ⟨rfl, rfl⟩ := p (by omega)
        exact h2 (by omega)
theorem ry_computeLines {w h s n y x sy sx tp bt : Nat} {al pd sp lc cl ck : Int32} {sb sbf sc scf rb rbf ls lr ll : Nat → Int32} {post : SY → Prop} {g f : Nat → Int32} (C : rt_Mc w h n g sb sc) (F : rt_Mf h n f sbf scf) (hn : n ≤ 16) (hh : h ≤ 8) (hw0 : 0 < w) (hw : w ≤ 16) (hm : rt_mr al y sy < h) (H : ∀ ls' lr' ll' : Nat → Int32, (∀ l, l ≤ rt_L f (n + h - 1) → ls' l = nI (rt_V f (n + h) l) ∧ ll' l = nI (rt_ln g f w (n + h) l)) → post ((nI w), (nI h), (nI s), (nI n), (nI y), (nI x), (nI sy), (nI sx), (nI tp), (nI bt), al, pd, sp, (nI (rt_N g f w (n + h) (n + rt_mr al y sy))), (nI (rt_L f (n + rt_mr al y sy))), (nI (rt_ck f w (n + h) (n + rt_mr al y sy) (rt_mr al x sx))), sb, sbf, sc, scf, rb, rbf, ls', lr', ll')) : wpY_computeLines post ((nI w), (nI h), (nI s), (nI n), (nI y), (nI x), (nI sy), (nI sx), (nI tp), (nI bt), al, pd, sp, lc, cl, ck, sb, sbf, sc, scf, rb, rbf, ls, lr, ll) := by
  have key : ∀ a b : Nat, a < h → (∀ ls' lr' ll' : Nat → Int32, (∀ l, l ≤ rt_L f (n + h - 1) → ls' l = nI (rt_V f (n + h) l) ∧ ll' l = nI (rt_ln g f w (n + h) l)) → post ((nI w), (nI h), (nI s), (nI n), (nI y), (nI x), (nI sy), (nI sx), (nI tp), (nI bt), al, pd, sp, (nI (rt_N g f w (n + h) (n + a))), (nI (rt_L f (n + a))), (nI (rt_ck f w (n + h) (n + a) b)), sb, sbf, sc, scf, rb, rbf, ls', lr', ll')) → wY_computeLines_37 post (nI a) (nI b) (nI w) (nI h) (nI s) (nI n) (nI y) (nI x) (nI sy) (nI sx) (nI tp) (nI bt) al pd sp lc cl ck sb sbf sc scf rb rbf ls lr ll := by
    intro a b ha H
    refine nm_r (nI_add n h) (ry_c56 hn hh F (fun k ls' lr' Y => nm_r (nI_add n a) (ry_c177 C hn hh (by omega) hw0 hw (by omega) Y (fun ll' hl => H ls' lr' ll' (fun l hl2 => ?_)))))
    have hk := Y.2.1 (by omega)
    exact ⟨(Y.2.2 l (by omega)).1, hl l (by omega)⟩
  unfold rt_mr at H hm
  by_cases hal : al = 0
  · rw [if_pos hal] at H hm
    rw [if_pos hal] at H
    exact br_t hal (br_t hal (key y x hm H))
  · rw [if_neg hal] at H hm
    rw [if_neg hal] at H
    exact br_f hal (br_f hal (key sy sx hm H))
end
section
/-! info, lineLength, lineChar -/
theorem rt_I_mr {w h s n y x sy sx tp bt : Nat} {al pd sp : Int32} (I : rt_I w h s n y x sy sx tp bt al pd sp) : rt_mr al y sy < h ∧ rt_mr al x sx < w := by
  obtain ⟨a1, a2, a3, a4, a5, a6, a7, a8, a9, a10, a11, a12, a13, a14⟩ := I
  unfold rt_mr
  by_cases hal : al = 0
  · rw [if_pos hal, if_pos hal]; exact ⟨a7, a8⟩
  · rw [if_neg hal, if_neg hal]; exact a14 hal
theorem i_vc_info {k : Nat} {u : SX} {v : SY} (I : i_Rel k u v) (hk : k + 3 ≤ 1539) (v1 : Int32) : wpX_info (fun r => wpY_info (fun r' v' => r' = r ∧ i_Rel (k + 3) u v') v v1) u v1 := by
  obtain ⟨w, h, s, n, y, x, sy, sx, tp, bt, al, pd, sp, fn, fu, lc, cl, ck, g, f, fc, ff, sb, sbf, sc, scf, rb, rbf, ls, lr, ll, rfl, rfl, I, C, F⟩ := I
  have I0 := I
  have hm := rt_I_mr I
  obtain ⟨a1, a2, a3, a4, a5, a6, a7, a8, a9, a10, a11, a12, a13, a14⟩ := I
  by_cases h1 : v1 < 0
  · exact br_t h1 (br_t h1 ⟨rfl, rl_mk I0 C F⟩)
  by_cases h2 : 12 < v1
  · exact br_f h1 (br_t h2 (br_f h1 (br_t h2 ⟨rfl, rl_mk I0 C F⟩)))
  obtain ⟨j, hj, rfl⟩ := nI_of2 (M := 12) (n := 12) (by decide) h1 (Int32.not_lt.mp h2)
  have hj' : j = 0 ∨ j = 1 ∨ j = 2 ∨ j = 3 ∨ j = 4 ∨ j = 5 ∨ j = 6 ∨ j = 7 ∨ j = 8 ∨ j = 9 ∨ j = 10 ∨ j = 11 ∨ j = 12 := by omega
  rcases hj' with rfl | rfl | rfl | rfl | rfl | rfl | rfl | rfl | rfl | rfl | rfl | rfl | rfl
  · exact br_f h1 (br_f h2 (br_t rfl (br_f h1 (br_f h2 (br_t rfl (⟨rfl, rl_mk I0 C F⟩))))))
  · exact br_f h1 (br_f h2 (br_f (by decide) (br_t rfl (br_f h1 (br_f h2 (br_f (by decide) (br_t rfl (⟨rfl, rl_mk I0 C F⟩))))))))
  · exact br_f h1 (br_f h2 (br_f (by decide) (br_f (by decide) (br_t rfl (br_f h1 (br_f h2 (br_f (by decide) (br_f (by decide) (br_t rfl (⟨rfl, rl_mk I0 C F⟩))))))))))
  · exact br_f h1 (br_f h2 (br_f (by decide) (br_f (by decide) (br_f (by decide) (br_t rfl (br_f h1 (br_f h2 (br_f (by decide) (br_f (by decide) (br_f (by decide) (br_t rfl (⟨rfl, rl_mk I0 C F⟩))))))))))))
  · exact br_f h1 (br_f h2 (br_f (by decide) (br_f (by decide) (br_f (by decide) (br_f (by decide) (br_t rfl (br_c (fun z => br_f h1 (br_f h2 (br_f (by decide) (br_f (by decide) (br_f (by decide) (br_f (by decide) (br_t rfl (br_t z ⟨rfl, rl_mk I0 C F⟩)))))))) (fun z => br_f h1 (br_f h2 (br_f (by decide) (br_f (by decide) (br_f (by decide) (br_f (by decide) (br_t rfl (br_f z ⟨rfl, rl_mk I0 C F⟩)))))))))))))))
  · exact br_f h1 (br_f h2 (br_f (by decide) (br_f (by decide) (br_f (by decide) (br_f (by decide) (br_f (by decide) (br_t rfl (br_f h1 (br_f h2 (br_f (by decide) (br_f (by decide) (br_f (by decide) (br_f (by decide) (br_f (by decide) (br_t rfl (⟨rfl, rl_mk I0 C F⟩))))))))))))))))
  · exact br_f h1 (br_f h2 (br_f (by decide) (br_f (by decide) (br_f (by decide) (br_f (by decide) (br_f (by decide) (br_f (by decide) (br_t rfl (br_f h1 (br_f h2 (br_f (by decide) (br_f (by decide) (br_f (by decide) (br_f (by decide) (br_f (by decide) (br_f (by decide) (br_t rfl (⟨rfl, rl_mk I0 C F⟩))))))))))))))))))
  · exact br_f h1 (br_f h2 (br_f (by decide) (br_f (by decide) (br_f (by decide) (br_f (by decide) (br_f (by decide) (br_f (by decide) (br_f (by decide) (br_t rfl (br_c (fun z => br_f h1 (br_f h2 (br_f (by decide) (br_f (by decide) (br_f (by decide) (br_f (by decide) (br_f (by decide) (br_f (by decide) (br_f (by decide) (br_t rfl (br_t z ⟨rfl, rl_mk I0 C F⟩))))))))))) (fun z => br_f h1 (br_f h2 (br_f (by decide) (br_f (by decide) (br_f (by decide) (br_f (by decide) (br_f (by decide) (br_f (by decide) (br_f (by decide) (br_t rfl (br_f z ⟨rfl, rl_mk I0 C F⟩)))))))))))))))))))))
  · exact br_f h1 (br_f h2 (br_f (by decide) (br_f (by decide) (br_f (by decide) (br_f (by decide) (br_f (by decide) (br_f (by decide) (br_f (by decide) (br_f (by decide) (br_t rfl (rx_lineCount (by omega) a2 hm.1 (br_f h1 (br_f h2 (br_f (by decide) (br_f (by decide) (br_f (by decide) (br_f (by decide) (br_f (by decide) (br_f (by decide) (br_f (by decide) (br_f (by decide) (br_t rfl (ry_computeLines C F (by omega) a4 (by omega) a2 hm.1 (fun ls' lr' ll' _ => ⟨rfl, rl_mk I0 C F⟩))))))))))))))))))))))))
  · exact br_f h1 (br_f h2 (br_f (by decide) (br_f (by decide) (br_f (by decide) (br_f (by decide) (br_f (by decide) (br_f (by decide) (br_f (by decide) (br_f (by decide) (br_f (by decide) (br_t rfl (rx_cursorLine (by omega) (br_f h1 (br_f h2 (br_f (by decide) (br_f (by decide) (br_f (by decide) (br_f (by decide) (br_f (by decide) (br_f (by decide) (br_f (by decide) (br_f (by decide) (br_f (by decide) (br_t rfl (ry_computeLines C F (by omega) a4 (by omega) a2 hm.1 (fun ls' lr' ll' _ => ⟨rfl, rl_mk I0 C F⟩))))))))))))))))))))))))))
  · exact br_f h1 (br_f h2 (br_f (by decide) (br_f (by decide) (br_f (by decide) (br_f (by decide) (br_f (by decide) (br_f (by decide) (br_f (by decide) (br_f (by decide) (br_f (by decide) (br_f (by decide) (br_t rfl (rx_cursorOffset (by omega) hm.1 (br_f h1 (br_f h2 (br_f (by decide) (br_f (by decide) (br_f (by decide) (br_f (by decide) (br_f (by decide) (br_f (by decide) (br_f (by decide) (br_f (by decide) (br_f (by decide) (br_f (by decide) (br_t rfl (ry_computeLines C F (by omega) a4 (by omega) a2 hm.1 (fun ls' lr' ll' _ => ⟨rfl, rl_mk I0 C F⟩))))))))))))))))))))))))))))
  · exact br_f h1 (br_f h2 (br_f (by decide) (br_f (by decide) (br_f (by decide) (br_f (by decide) (br_f (by decide) (br_f (by decide) (br_f (by decide) (br_f (by decide) (br_f (by decide) (br_f (by decide) (br_f (by decide) (br_t rfl (br_c (fun z => br_f h1 (br_f h2 (br_f (by decide) (br_f (by decide) (br_f (by decide) (br_f (by decide) (br_f (by decide) (br_f (by decide) (br_f (by decide) (br_f (by decide) (br_f (by decide) (br_f (by decide) (br_f (by decide) (br_t rfl (br_t z ⟨rfl, rl_mk I0 C F⟩))))))))))))))) (fun z => br_f h1 (br_f h2 (br_f (by decide) (br_f (by decide) (br_f (by decide) (br_f (by decide) (br_f (by decide) (br_f (by decide) (br_f (by decide) (br_f (by decide) (br_f (by decide) (br_f (by decide) (br_f (by decide) (br_t rfl (br_f z ⟨rfl, rl_mk I0 C F⟩)))))))))))))))))))))))))))))
  · exact br_f h1 (br_f h2 (br_f (by decide) (br_f (by decide) (br_f (by decide) (br_f (by decide) (br_f (by decide) (br_f (by decide) (br_f (by decide) (br_f (by decide) (br_f (by decide) (br_f (by decide) (br_f (by decide) (br_f (by decide) (br_t rfl (br_c (fun z => br_f h1 (br_f h2 (br_f (by decide) (br_f (by decide) (br_f (by decide) (br_f (by decide) (br_f (by decide) (br_f (by decide) (br_f (by decide) (br_f (by decide) (br_f (by decide) (br_f (by decide) (br_f (by decide) (br_f (by decide) (br_t rfl (br_t z ⟨rfl, rl_mk I0 C F⟩)))))))))))))))) (fun z => br_f h1 (br_f h2 (br_f (by decide) (br_f (by decide) (br_f (by decide) (br_f (by decide) (br_f (by decide) (br_f (by decide) (br_f (by decide) (br_f (by decide) (br_f (by decide) (br_f (by decide) (br_f (by decide) (br_f (by decide) (br_t rfl (br_f z ⟨rfl, rl_mk I0 C F⟩)))))))))))))))))))))))))))))))
theorem i_vc_lineLength {k : Nat} {u : SX} {v : SY} (I : i_Rel k u v) (hk : k + 3 ≤ 1539) (v1 : Int32) : wpX_lineLength (fun r => wpY_lineLength (fun r' v' => r' = r ∧ i_Rel (k + 3) u v') v v1) u v1 := by
  obtain ⟨w, h, s, n, y, x, sy, sx, tp, bt, al, pd, sp, fn, fu, lc, cl, ck, g, f, fc, ff, sb, sbf, sc, scf, rb, rbf, ls, lr, ll, rfl, rfl, I, C, F⟩ := I
  have I0 := I
  have hm := rt_I_mr I
  obtain ⟨a1, a2, a3, a4, a5, a6, a7, a8, a9, a10, a11, a12, a13, a14⟩ := I
  have M := rt_N_M (g := g) (f := f) (w := w) (T := n + h) (ci := n + rt_mr al y sy) (by omega) (by omega)
  have hle := rt_L_le f (n + h - 1)
  have hN := M.2.1
  by_cases h1 : v1 < 0
  · refine br_t h1 ?_
    unfold wpY_lineLength
    exact ry_computeLines C F (by omega) a4 (by omega) a2 hm.1 (fun ls' lr' ll' _ => br_t h1 ⟨rfl, rl_mk I0 C F⟩)
  obtain ⟨i, hi, rfl⟩ := nI_of h1
  refine br_f h1 (rx_lineCount (by omega) a2 hm.1 (pk_lt i (rt_N g f w (n + h) (n + rt_mr al y sy)) (fun z => rx_lineStart i (by omega) (by omega) (by omega) (rx_textLength i (by omega) (by omega) (by omega) a2 (by omega) ?_)) (fun z => ?_)))
  · unfold wpY_lineLength
    refine ry_computeLines C F (by omega) a4 (by omega) a2 hm.1 (fun ls' lr' ll' hl => br_f h1 (pk_lt i (rt_N g f w (n + h) (n + rt_mr al y sy)) (fun _ => ⟨pk_in i 24 (by omega), ?_, rl_mk I0 C F⟩) (fun z => absurd z (by omega))))
    rw [rt_rd (a := ll') rfl (by omega)]
    exact (hl i (by omega)).2
  · unfold wpY_lineLength
    exact ry_computeLines C F (by omega) a4 (by omega) a2 hm.1 (fun ls' lr' ll' hl => br_f h1 (pk_lt i (rt_N g f w (n + h) (n + rt_mr al y sy)) (fun z => absurd z (by omega)) (fun _ => ⟨rfl, rl_mk I0 C F⟩)))
theorem i_vc_lineChar {k : Nat} {u : SX} {v : SY} (I : i_Rel k u v) (hk : k + 3 ≤ 1539) (v1 : Int32) (v2 : Int32) : wpX_lineChar (fun r => wpY_lineChar (fun r' v' => r' = r ∧ i_Rel (k + 3) u v') v v1 v2) u v1 v2 := by
  obtain ⟨w, h, s, n, y, x, sy, sx, tp, bt, al, pd, sp, fn, fu, lc, cl, ck, g, f, fc, ff, sb, sbf, sc, scf, rb, rbf, ls, lr, ll, rfl, rfl, I, C, F⟩ := I
  have I0 := I
  have hm := rt_I_mr I
  obtain ⟨a1, a2, a3, a4, a5, a6, a7, a8, a9, a10, a11, a12, a13, a14⟩ := I
  have M := rt_N_M (g := g) (f := f) (w := w) (T := n + h) (ci := n + rt_mr al y sy) (by omega) (by omega)
  have hle := rt_L_le f (n + h - 1)
  have hN := M.2.1
  by_cases h1 : v1 < 0
  · refine br_t h1 ?_
    unfold wpY_lineChar
    exact ry_computeLines C F (by omega) a4 (by omega) a2 hm.1 (fun ls' lr' ll' _ => br_t h1 ⟨rfl, rl_mk I0 C F⟩)
  obtain ⟨i, hi, rfl⟩ := nI_of h1
  refine br_f h1 (rx_lineCount (by omega) a2 hm.1 (pk_lt i (rt_N g f w (n + h) (n + rt_mr al y sy)) (fun z => rx_lineStart i (by omega) (by omega) (by omega) ?_) (fun z => ?_)))
  · by_cases h2 : v2 < 0
    · refine br_t h2 ?_
      unfold wpY_lineChar
      exact ry_computeLines C F (by omega) a4 (by omega) a2 hm.1 (fun ls' lr' ll' _ => br_f h1 (pk_le (rt_N g f w (n + h) (n + rt_mr al y sy)) i (fun z => absurd z (by omega)) (fun _ => br_t h2 ⟨rfl, rl_mk I0 C F⟩)))
    obtain ⟨j, hj, rfl⟩ := nI_of h2
    have hb := rt_ln_le g f w (n + h) i
    have hb2 : (n + h) * w ≤ 24 * 16 := Nat.mul_le_mul (by omega) a2
    refine br_f h2 (rx_textLength i (by omega) (by omega) (by omega) a2 (by omega) (pk_lt j (rt_ln g f w (n + h) i) (fun z2 => ?_) (fun z2 => ?_)))
    · have hpl : j < (rt_V f (n + h) (i + 1) - rt_V f (n + h) i) * w := Nat.lt_of_lt_of_le z2 (rt_len_le _ _)
      have hq : j / w < rt_V f (n + h) (i + 1) - rt_V f (n + h) i := Nat.div_lt_of_lt_mul (by rw [Nat.mul_comm]; exact hpl)
      have b2 := rt_V_le f (n + h) (i + 1)
      have hq2 : rt_V f (n + h) i + j / w < n + h := Nat.lt_of_lt_of_le (Nat.add_lt_of_lt_sub' hq) b2
      refine rx_textChar (rt_V f (n + h) i) j (by omega) a2 (Nat.lt_of_lt_of_le hq2 (by omega)) (by omega) ?_
      unfold wpY_lineChar
      refine ry_computeLines C F (by omega) a4 (by omega) a2 hm.1 (fun ls' lr' ll' hl => br_f h1 (pk_le (rt_N g f w (n + h) (n + rt_mr al y sy)) i (fun z => absurd z (by omega)) (fun _ => br_f h2 ⟨pk_in i 24 (by omega), pk_lt j (rt_ln g f w (n + h) i) (fun _ => ry_textAt i j (rt_V f (n + h) i) C (by omega) a4 (by omega) a2 (by omega) (by omega) (hl i (by omega)).1 hq2 ⟨rfl, rl_mk I0 C F⟩) (fun z => absurd z (by omega)) rfl ?_⟩)))
      rw [rt_rd (a := ll') rfl (by omega)]
      exact (hl i (by omega)).2
    · unfold wpY_lineChar
      refine ry_computeLines C F (by omega) a4 (by omega) a2 hm.1 (fun ls' lr' ll' hl => br_f h1 (pk_le (rt_N g f w (n + h) (n + rt_mr al y sy)) i (fun z => absurd z (by omega)) (fun _ => br_f h2 ⟨pk_in i 24 (by omega), pk_lt j (rt_ln g f w (n + h) i) (fun z => absurd z (by omega)) (fun _ => ⟨rfl, rl_mk I0 C F⟩) rfl ?_⟩)))
      rw [rt_rd (a := ll') rfl (by omega)]
      exact (hl i (by omega)).2
  · unfold wpY_lineChar
    exact ry_computeLines C F (by omega) a4 (by omega) a2 hm.1 (fun ls' lr' ll' hl => br_f h1 (pk_le (rt_N g f w (n + h) (n + rt_mr al y sy)) i (fun _ => ⟨rfl, rl_mk I0 C F⟩) (fun z => absurd z (by omega))))
end
section
/-! X's reflow -/
def rt_TX (g f : Nat → Int32) (w T : Nat) : Nat → Nat → Int32 := fun l => rt_tx g w (rt_V f T l)
def rt_RR (g f : Nat → Int32) (w T w2 ci mc : Nat) : Nat → Nat := rt_R (rt_ln g f w T) w2 (rt_L f ci) (rt_ck f w T ci mc)
theorem rt_ck_lt {f : Nat → Int32} {w T ci mc : Nat} (hc : ci < T) (hm : mc < w) : rt_ck f w T ci mc < (rt_V f T (rt_L f ci + 1) - rt_V f T (rt_L f ci)) * w := by
  have r := rt_V_row (f := f) hc
  have a : (ci - rt_V f T (rt_L f ci) + 1) * w ≤ (rt_V f T (rt_L f ci + 1) - rt_V f T (rt_L f ci)) * w := Nat.mul_le_mul_right _ (by omega)
  rw [Nat.add_mul] at a
  unfold rt_ck
  omega
theorem rt_RR_le {g f : Nat → Int32} {w T w2 ci mc l : Nat} (h0 : 0 < T) (hw : w ≤ 16) (h2 : 4 ≤ w2) (hc : ci < T) (hm : mc < w) (hl : l ≤ rt_L f (T - 1)) : rt_RR g f w T w2 ci mc l ≤ 4 * (rt_V f T (l + 1) - rt_V f T l) := by
  have hne := rt_V_ne h0 hl
  refine rt_R_le hw h2 (by omega) (rt_len_le _ _) (fun e => ?_)
  subst e
  exact rt_ck_lt hc hm
theorem rt_Bs_96 {g f : Nat → Int32} {w T w2 ci mc m : Nat} (h0 : 0 < T) (hT : T ≤ 24) (hw : w ≤ 16) (h2 : 4 ≤ w2) (hc : ci < T) (hm : mc < w) (hl : m ≤ rt_L f (T - 1) + 1) : rt_Bs (rt_RR g f w T w2 ci mc) m ≤ 96 := by
  have a := rt_Bs_le (R := rt_RR g f w T w2 ci mc) (V := rt_V f T) (m := m) (fun l _ => rt_V_mono f T (by omega)) (fun l hl' => rt_RR_le h0 hw h2 hc hm (by omega))
  have b := rt_V_le f T m
  omega
theorem rx_fr30a {w h s n y x sy sx tp bt : Nat} {al pd sp fn fu : Int32} {g f fc ff : Nat → Int32} {post : SX → Prop} {J : Int32 → (Nat → Int32) → (Nat → Int32) → (Nat → Int32) → (Nat → Int32) → Prop} {x1 x2 x3 x4 : Int32} {t i : Nat} (ht : t < 96) (hi : i < 16) (H : J (nI (i + 1)) g f (upd fc (t * 16 + i) 32) ff) : wX_flowRow_30 post J x1 x2 x3 x4 (nI i) 0 (nI t) fu (nI w) (nI h) (nI s) (nI n) al (nI tp) (nI bt) (nI y) (nI x) pd (nI sy) (nI sx) sp g f fc ff :=
  br_t rfl ⟨pk_in (t * 16 + i) 1536 (by omega) (rt_ix t i), nm_r (rt_us (rt_ix t i) (by omega) rfl) (nm_r (nI_1 i) H)⟩
theorem rx_flowRow {w h s n y x sy sx tp bt : Nat} {al pd sp fu : Int32} {g f fc ff : Nat → Int32} {post : SX → Prop} {E : Int32} (st len j w2 t : Nat) (ht : t < 96) (hw0 : 0 < w) (hw : w ≤ 16) (hw2 : w2 ≤ 16) (hlen : len < 2 ^ 20) (hj : j * w2 < 2 ^ 20) (hin : ∀ q, q < len → st + q / w < 32) (H : post ((nI t), fu, (nI w), (nI h), (nI s), (nI n), al, (nI tp), (nI bt), (nI y), (nI x), pd, (nI sy), (nI sx), sp, g, f, (rt_put fc (t * 16) 16 (rt_val (rt_tx g w st) len w2 j)), ff)) (eE : E = nI (j * w2) := by rfl) : wpX_flowRow post ((nI t), fu, (nI w), (nI h), (nI s), (nI n), al, (nI tp), (nI bt), (nI y), (nI x), pd, (nI sy), (nI sx), sp, g, f, fc, ff) (nI st) (nI len) E (nI w2) := by
  subst eE
  refine pk_loop (fun N i c => wX_flowRow_3 post (nI st) (nI len) (nI (j * w2)) (nI w2) (nI t) fu (nI w) (nI h) (nI s) (nI n) al (nI tp) (nI bt) (nI y) (nI x) pd (nI sy) (nI sx) sp N (nI i) g f c ff) (fun i c => c = rt_put fc (t * 16) i (rt_val (rt_tx g w st) len w2 j)) 16 0 fc (by omega) (rt_put_0 _ _ _).symm ?_ ?_
  · rintro N c rfl
    exact pk_le 16 16 (fun _ => H) (fun z => absurd z (by omega))
  · rintro N i c hi rfl K
    refine pk_le 16 i (fun z => absurd z (by omega)) (fun _ => pk_le w2 i (fun z => rx_fr30a (fn := 0) ht hi (K _ (rt_put_s (rt_val_w z).symm))) (fun z => pk_le len (j * w2 + i) (fun z2 => rx_fr30a (fn := 0) ht hi (K _ (rt_put_s (rt_val_l z2).symm))) (fun z2 => br_f (by decide) (rx_textChar st (j * w2 + i) hw0 hw (hin _ z2) (by omega) ⟨pk_in (t * 16 + i) 1536 (by omega) (rt_ix t i), nm_r (rt_us (rt_ix t i) (by omega) rfl) (nm_r (nI_1 i) (K _ (rt_put_s (rt_val_t z z2).symm)))⟩ rfl (nI_add _ _))) rfl (nI_add _ _)))
theorem rx_fl130 {w h s n y x sy sx tp bt : Nat} {al pd sp fn fu : Int32} {g f fc ff : Nat → Int32} {post : SX → Prop} {J29 : Int32 → Int32 → Int32 → Int32 → Int32 → Int32 → Int32 → Int32 → Int32 → Int32 → Int32 → Int32 → Int32 → Int32 → Int32 → Int32 → Int32 → (Nat → Int32) → (Nat → Int32) → (Nat → Int32) → (Nat → Int32) → Prop} {J88 : Int32 → Int32 → Int32 → Int32 → Int32 → Int32 → Int32 → Int32 → Int32 → Int32 → Int32 → Int32 → Int32 → Int32 → Int32 → Int32 → (Nat → Int32) → (Nat → Int32) → (Nat → Int32) → (Nat → Int32) → Prop} {x1 x2 x3 x4 x5 x6 x7 x8 z0 : Int32} {t j : Nat} (ht : t < 96) (hz : rt_01 z0) (H : J88 (nI (j + 1)) (nI (t + 1)) fu (nI w) (nI h) (nI s) (nI n) al (nI tp) (nI bt) (nI y) (nI x) pd (nI sy) (nI sx) sp g f fc (upd ff t z0)) : wX_flowLines_130 post J29 J88 x1 x2 x3 x4 x5 x6 x7 x8 (nI j) z0 (nI t) (nI t) fu (nI w) (nI h) (nI s) (nI n) al (nI tp) (nI bt) (nI y) (nI x) pd (nI sy) (nI sx) sp g f fc ff :=
  ⟨pk_in t 96 ht, nm_r (rt_us rfl (by omega) (rt_nar hz)) (nm_r (nI_1 t) (nm_r (nI_1 j) H))⟩
theorem rx_fl88 {w h s n y x sy sx tp bt : Nat} {al pd sp fu : Int32} {g f fc ff : Nat → Int32} {post : SX → Prop} {J29 : Int32 → Int32 → Int32 → Int32 → Int32 → Int32 → Int32 → Int32 → Int32 → Int32 → Int32 → Int32 → Int32 → Int32 → Int32 → Int32 → Int32 → (Nat → Int32) → (Nat → Int32) → (Nat → Int32) → (Nat → Int32) → Prop} {x2 x3 x4 x6 : Int32} (st len w2 B R : Nat) (hR : 1 ≤ R) (hB : B + R ≤ 96) (hw0 : 0 < w) (hw : w ≤ 16) (hw2 : w2 ≤ 16) (hlen : len < 2 ^ 20) (hin : ∀ q, q < len → st + q / w < 32) (H : wpX_lineEnd (fun r => ∀ q : Int32, q = x6 + 1 → J29 r q (nI (B + R)) fu (nI w) (nI h) (nI s) (nI n) al (nI tp) (nI bt) (nI y) (nI x) pd (nI sy) (nI sx) sp g f (rt_put fc (B * 16) (R * 16) (rt_rowv (rt_tx g w st) len w2)) (rt_put ff B R (rt_flg R))) ((nI (B + R)), fu, (nI w), (nI h), (nI s), (nI n), al, (nI tp), (nI bt), (nI y), (nI x), pd, (nI sy), (nI sx), sp, g, f, (rt_put fc (B * 16) (R * 16) (rt_rowv (rt_tx g w st) len w2)), (rt_put ff B R (rt_flg R))) (nI st)) : ∃ N, wX_flowLines_88 post J29 (nI w2) x2 x3 x4 (nI st) x6 (nI len) (nI R) N 0 (nI B) fu (nI w) (nI h) (nI s) (nI n) al (nI tp) (nI bt) (nI y) (nI x) pd (nI sy) (nI sx) sp g f fc ff := by
  refine rt_loop2 (fun N i (qa qb : Nat → Int32) => wX_flowLines_88 post J29 (nI w2) x2 x3 x4 (nI st) x6 (nI len) (nI R) N (nI i) (nI (B + i)) fu (nI w) (nI h) (nI s) (nI n) al (nI tp) (nI bt) (nI y) (nI x) pd (nI sy) (nI sx) sp g f qa qb) (fun i qa qb => qa = rt_put fc (B * 16) (i * 16) (rt_rowv (rt_tx g w st) len w2) ∧ qb = rt_put ff B i (rt_flg R)) R 0 fc ff (Nat.zero_le _) ⟨by rw [Nat.zero_mul, rt_put_0], by rw [rt_put_0]⟩ ?_ ?_
  · rintro N qa qb ⟨rfl, rfl⟩
    exact pk_le R R (fun _ => H) (fun z => absurd z (by omega))
  · rintro N i qa qb hi ⟨rfl, rfl⟩ K
    have e1 : rt_put (rt_put fc (B * 16) (i * 16) (rt_rowv (rt_tx g w st) len w2)) ((B + i) * 16) 16 (rt_val (rt_tx g w st) len w2 i) = rt_put fc (B * 16) ((i + 1) * 16) (rt_rowv (rt_tx g w st) len w2) := by
      rw [rt_put_a (v := rt_rowv (rt_tx g w st) len w2) (by omega) (fun c hc => (rt_rowv_at _ _ _ _ _ hc).symm)]
      congr 1; omega
    have hiw : i * w2 ≤ 96 * 16 := Nat.mul_le_mul (by omega) hw2
    have er : nI R - 1 = nI (R - 1) := pk_sub (b := 1) (by omega)
    refine pk_le R i (fun z => absurd z (by omega)) (fun _ => rx_flowRow st len i w2 (B + i) (by omega) hw0 hw hw2 hlen (by omega) hin (pk_le (R - 1) i (fun z => rx_fl130 (fn := 0) (by omega) rt_01_0 (K _ _ ⟨e1, rt_put_s ?_⟩)) (fun z => rx_fl130 (fn := 0) (by omega) rt_01_1 (K _ _ ⟨e1, rt_put_s ?_⟩)) er) (pk_mul _ _))
    · unfold rt_flg; rw [if_neg (by omega)]
    · unfold rt_flg; rw [if_pos (by omega)]

theorem rx_fl29 {w h s n y x sy sx tp bt : Nat} {al pd sp : Int32} {g f fc ff : Nat → Int32} {post : SX → Prop} {w2 ci mc : Nat} {f0 : Int32} (hT0 : 0 < n + h) (hT : n + h ≤ 24) (hw0 : 0 < w) (hw : w ≤ 16) (h24 : 4 ≤ w2) (hw2 : w2 ≤ 16) (hc : ci < n + h) (hm : mc < w) (M : Nat) (hM : M ≤ rt_L f (n + h - 1) + 1) (hcM : rt_L f ci < M) (H : post ((nI (rt_Bs (rt_RR g f w (n + h) w2 ci mc) M)), (nI (rt_Bs (rt_RR g f w (n + h) w2 ci mc) (rt_L f ci) + rt_ck f w (n + h) ci mc / w2)), (nI w), (nI h), (nI s), (nI n), al, (nI tp), (nI bt), (nI y), (nI x), pd, (nI sy), (nI sx), sp, g, f, (rt_fa (rt_TX g f w (n + h)) (rt_ln g f w (n + h)) (rt_RR g f w (n + h) w2 ci mc) w2 fc M), (rt_ff (rt_RR g f w (n + h) w2 ci mc) ff M))) : ∃ N, wX_flowLines_29 post (nI w2) (nI M) (nI (rt_L f ci)) (nI (rt_ck f w (n + h) ci mc / w2)) N 0 0 0 f0 (nI w) (nI h) (nI s) (nI n) al (nI tp) (nI bt) (nI y) (nI x) pd (nI sy) (nI sx) sp g f fc ff := by
  have hL := rt_L_le f (n + h - 1)
  have hckw : rt_ck f w (n + h) ci mc / w2 ≤ 96 := by
    have a := rt_Bs_96 (g := g) (f := f) (m := rt_L f ci + 1) hT0 hT hw h24 hc hm (by omega)
    rw [rt_Bs_s] at a
    have b := rt_R_cur (rt_ln g f w (n + h)) w2 (rt_L f ci) (rt_ck f w (n + h) ci mc)
    have e : rt_RR g f w (n + h) w2 ci mc (rt_L f ci) = rt_R (rt_ln g f w (n + h)) w2 (rt_L f ci) (rt_ck f w (n + h) ci mc) (rt_L f ci) := rfl
    omega
  refine rt_loop3 (fun N l (q : Int32) (qa qb : Nat → Int32) => wX_flowLines_29 post (nI w2) (nI M) (nI (rt_L f ci)) (nI (rt_ck f w (n + h) ci mc / w2)) N (nI (rt_V f (n + h) l)) (nI l) (nI (rt_Bs (rt_RR g f w (n + h) w2 ci mc) l)) q (nI w) (nI h) (nI s) (nI n) al (nI tp) (nI bt) (nI y) (nI x) pd (nI sy) (nI sx) sp g f qa qb) (fun l q qa qb => (rt_L f ci < l → q = nI (rt_Bs (rt_RR g f w (n + h) w2 ci mc) (rt_L f ci) + rt_ck f w (n + h) ci mc / w2)) ∧ qa = rt_fa (rt_TX g f w (n + h)) (rt_ln g f w (n + h)) (rt_RR g f w (n + h) w2 ci mc) w2 fc l ∧ qb = rt_ff (rt_RR g f w (n + h) w2 ci mc) ff l) M 0 f0 fc ff (Nat.zero_le _) ⟨fun z => by omega, rfl, rfl⟩ ?_ ?_ |> fun H => by
    rw [rt_V_0] at H
    exact H
  · rintro N q qa qb ⟨h1, rfl, rfl⟩
    obtain rfl := h1 hcM
    exact pk_le M M (fun _ => H) (fun z => absurd z (by omega))
  · rintro N l q qa qb hl ⟨h1, rfl, rfl⟩ K
    have h96 := rt_Bs_96 (g := g) (f := f) (m := l + 1) hT0 hT hw h24 hc hm (by omega)
    rw [rt_Bs_s] at h96
    have hne := rt_V_ne (f := f) (l := l) hT0 (by omega)
    have hVl := rt_V_le f (n + h) (l + 1)
    have hlen := rt_ln_le g f w (n + h) l
    have hlen2 : (n + h) * w ≤ 24 * 16 := Nat.mul_le_mul hT hw
    have hin : ∀ q, q < rt_ln g f w (n + h) l → rt_V f (n + h) l + q / w < 32 := fun q hq => by
      have a : q < (rt_V f (n + h) (l + 1) - rt_V f (n + h) l) * w := Nat.lt_of_lt_of_le hq (rt_len_le _ _)
      have b : q / w < rt_V f (n + h) (l + 1) - rt_V f (n + h) l := Nat.div_lt_of_lt_mul (by rw [Nat.mul_comm]; exact a)
      exact Nat.lt_of_lt_of_le (Nat.add_lt_of_lt_sub' b) (by omega)
    have hR := rt_R_pos (rt_ln g f w (n + h)) w2 (rt_L f ci) (rt_ck f w (n + h) ci mc) l
    have ed : (nI (rt_ln g f w (n + h) l) + nI w2 - 1) / nI w2 = nI ((rt_ln g f w (n + h) l + w2 - 1) / w2) := by
      rw [nI_add, show (1 : Int32) = nI 1 from rfl, pk_sub (by omega), pk_div (by omega) (by omega) (by omega)]
    have hd : (rt_ln g f w (n + h) l + w2 - 1) / w2 < 2 ^ 20 := Nat.lt_of_le_of_lt (Nat.div_le_self _ _) (by omega)
    have go : ∀ q : Int32, (rt_L f ci < l + 1 → q = nI (rt_Bs (rt_RR g f w (n + h) w2 ci mc) (rt_L f ci) + rt_ck f w (n + h) ci mc / w2)) → ∃ N88, wX_flowLines_88 post (wX_flowLines_29 post (nI w2) (nI M) (nI (rt_L f ci)) (nI (rt_ck f w (n + h) ci mc / w2)) N) (nI w2) (nI M) (nI (rt_L f ci)) (nI (rt_ck f w (n + h) ci mc / w2)) (nI (rt_V f (n + h) l)) (nI l) (nI (rt_ln g f w (n + h) l)) (nI (rt_RR g f w (n + h) w2 ci mc l)) N88 0 (nI (rt_Bs (rt_RR g f w (n + h) w2 ci mc) l)) q (nI w) (nI h) (nI s) (nI n) al (nI tp) (nI bt) (nI y) (nI x) pd (nI sy) (nI sx) sp g f (rt_fa (rt_TX g f w (n + h)) (rt_ln g f w (n + h)) (rt_RR g f w (n + h) w2 ci mc) w2 fc l) (rt_ff (rt_RR g f w (n + h) w2 ci mc) ff l) := fun q hq =>
      rx_fl88 (rt_V f (n + h) l) (rt_ln g f w (n + h) l) w2 (rt_Bs (rt_RR g f w (n + h) w2 ci mc) l) (rt_RR g f w (n + h) w2 ci mc l) hR (by omega) hw0 hw hw2 (by omega) hin (rx_lineEnd l (by omega) hT0 (by omega) (nm_r (nI_1 l) (K q _ _ ⟨hq, rfl, rfl⟩)))
    refine pk_le M l (fun z => absurd z (by omega)) (fun _ => rx_textLength l (by omega) hT0 hw0 hw (by omega) ⟨nI_ne0 (by omega) (by omega), rx_larger 1 ((rt_ln g f w (n + h) l + w2 - 1) / w2) (pk_eq l (rt_L f ci) (fun z => ?_) (fun z => ?_)) rfl ed⟩)
    · have hR0 : rt_R0 w2 (rt_ln g f w (n + h) l) < 2 ^ 21 := by
        unfold rt_R0
        rcases rt_mx_sp 1 ((rt_ln g f w (n + h) l + w2 - 1) / w2) with p | p <;> omega
      refine rx_larger (rt_R0 w2 (rt_ln g f w (n + h) l)) (rt_ck f w (n + h) ci mc / w2 + 1) (nm_r (nI_add _ _) ?_) rfl (nI_1 _)
      have e : rt_mx (rt_R0 w2 (rt_ln g f w (n + h) l)) (rt_ck f w (n + h) ci mc / w2 + 1) = rt_RR g f w (n + h) w2 ci mc l := by
        unfold rt_RR rt_R
        rw [if_pos z]
      rw [e]
      exact go _ (fun _ => by rw [z])
    · have e : rt_mx 1 ((rt_ln g f w (n + h) l + w2 - 1) / w2) = rt_RR g f w (n + h) w2 ci mc l := by
        unfold rt_RR rt_R
        rw [if_neg z]
        rfl
      rw [e]
      exact go q (fun p => h1 (by omega))
end
section
/-! X's reflow, continued: the whole flow, the first row shown, the placing, the cropping -/
theorem rx_flowLines {w h s n y x sy sx tp bt : Nat} {al pd sp fn fu : Int32} {g f fc ff : Nat → Int32} {post : SX → Prop} {A : Int32} (w2 : Nat) (h0 : 0 < h) (hT : n + h ≤ 24) (hw0 : 0 < w) (hw : w ≤ 16) (h24 : 4 ≤ w2) (hw2 : w2 ≤ 16) (hm : rt_mr al y sy < h) (hx : rt_mr al x sx < w) (H : post ((nI (rt_Bs (rt_RR g f w (n + h) w2 (n + rt_mr al y sy) (rt_mr al x sx)) (rt_N g f w (n + h) (n + rt_mr al y sy)))), (nI (rt_Bs (rt_RR g f w (n + h) w2 (n + rt_mr al y sy) (rt_mr al x sx)) (rt_L f (n + rt_mr al y sy)) + rt_ck f w (n + h) (n + rt_mr al y sy) (rt_mr al x sx) / w2)), (nI w), (nI h), (nI s), (nI n), al, (nI tp), (nI bt), (nI y), (nI x), pd, (nI sy), (nI sx), sp, g, f, (rt_fa (rt_TX g f w (n + h)) (rt_ln g f w (n + h)) (rt_RR g f w (n + h) w2 (n + rt_mr al y sy) (rt_mr al x sx)) w2 fc (rt_N g f w (n + h) (n + rt_mr al y sy))), (rt_ff (rt_RR g f w (n + h) w2 (n + rt_mr al y sy) (rt_mr al x sx)) ff (rt_N g f w (n + h) (n + rt_mr al y sy))))) (eA : A = nI w2 := by rfl) : wpX_flowLines post (fn, fu, (nI w), (nI h), (nI s), (nI n), al, (nI tp), (nI bt), (nI y), (nI x), pd, (nI sy), (nI sx), sp, g, f, fc, ff) A := by
  subst eA
  have M := rt_N_M (g := g) (f := f) (w := w) (T := n + h) (ci := n + rt_mr al y sy) hw0 (by omega)
  have hck : rt_ck f w (n + h) (n + rt_mr al y sy) (rt_mr al x sx) < 2 ^ 20 := by
    have a := rt_ck_lt (f := f) (w := w) (T := n + h) (ci := n + rt_mr al y sy) (by omega) hx
    have b := rt_V_le f (n + h) (rt_L f (n + rt_mr al y sy) + 1)
    have c : (rt_V f (n + h) (rt_L f (n + rt_mr al y sy) + 1) - rt_V f (n + h) (rt_L f (n + rt_mr al y sy))) * w ≤ 24 * 16 := Nat.mul_le_mul (by omega) hw
    omega
  unfold wpX_flowLines
  exact rx_lineCount (by omega) hw hm (rx_cursorLine (by omega) (rx_cursorOffset (by omega) hm ⟨nI_ne0 (by omega) (by omega), nm_r (pk_div (by omega) (by omega) (by omega)) (rx_fl29 (by omega) hT hw0 hw h24 hw2 (by omega) hx _ M.2.1 M.1 H)⟩))
theorem rx_first {w h s n y x sy sx tp bt : Nat} {al pd sp : Int32} {g f fc ff : Nat → Int32} {P : Int32 → Prop} {A : Int32} (t p h2 : Nat) (ht : t ≤ 96) (hp : p ≤ 96) (hh : h2 ≤ 8) (H : P (nI (rt_mn (t - h2) p))) (eA : A = nI h2 := by rfl) : wpX_firstShownFlowRow P ((nI t), (nI p), (nI w), (nI h), (nI s), (nI n), al, (nI tp), (nI bt), (nI y), (nI x), pd, (nI sy), (nI sx), sp, g, f, fc, ff) A := by
  subst eA
  unfold wpX_firstShownFlowRow
  exact rx_larger0 t h2 (rx_smaller (t - h2) p H)
theorem rx_placeL {w h s y x sy sx tp bt : Nat} {al pd sp fu : Int32} {g f fc ff : Nat → Int32} {post : Int32 → SX → Prop} (fi h2 n2 d t : Nat) (ht : t ≤ 96) (hn2 : n2 ≤ 16) (hh : h2 ≤ 8) (hd : fi = d + n2) (hf : fi ≤ t) (hb : ∀ i, i < t → rt_01 (ff i)) (H : post (nI (d + (t - fi - h2))) ((nI t), fu, (nI w), (nI h), (nI s), (nI n2), al, (nI tp), (nI bt), (nI y), (nI x), pd, (nI sy), (nI sx), sp, (rt_gP g fc d t (n2 + h2)), (rt_fP f ff d t (n2 + h2)), fc, ff)) : ∃ N, wX_placeFlow_30 post (nI fi) (nI h2) (nI d) (nI (n2 + h2)) N 0 (nI t) fu (nI w) (nI h) (nI s) (nI n2) al (nI tp) (nI bt) (nI y) (nI x) pd (nI sy) (nI sx) sp g f fc ff := by
  refine rt_loop2 (fun N i (qa qb : Nat → Int32) => wX_placeFlow_30 post (nI fi) (nI h2) (nI d) (nI (n2 + h2)) N (nI i) (nI t) fu (nI w) (nI h) (nI s) (nI n2) al (nI tp) (nI bt) (nI y) (nI x) pd (nI sy) (nI sx) sp qa qb fc ff) (fun i qa qb => qa = rt_gP g fc d t i ∧ qb = rt_fP f ff d t i) (n2 + h2) 0 g f (Nat.zero_le _) ⟨by unfold rt_gP; rw [Nat.zero_mul, rt_put_0], by unfold rt_fP; rw [rt_put_0]⟩ ?_ ?_
  · rintro N qa qb ⟨rfl, rfl⟩
    refine pk_le (n2 + h2) (n2 + h2) (fun _ => rx_larger0 (t - fi) h2 ?_ (by rw [pk_sub hf])) (fun z => absurd z (by omega))
    show post (nI d + nI (t - fi - h2)) _
    rw [nI_add]
    exact H
  · rintro N i qa qb hi ⟨rfl, rfl⟩ K
    refine pk_le (n2 + h2) i (fun z => absurd z (by omega)) (fun _ => pk_le t (d + i) (fun z => ?_) (fun z => ?_) rfl (nI_add d i))
    · have e1 : rt_put (rt_gP g fc d t i) (i * 16) 16 (fun _ => 32) = rt_gP g fc d t (i + 1) := by
        unfold rt_gP
        rw [rt_put_a (v := fun i => if d + i / 16 < t then fc (d * 16 + i) else 32) (by omega) (fun j hj => by
          show 32 = _
          rw [if_neg (by omega)])]
        congr 1; omega
      have e2 : upd (rt_fP f ff d t i) i 0 = rt_fP f ff d t (i + 1) := by
        unfold rt_fP
        have q := rt_put_s (g := f) (v := fun r => if d + r < t then ff (d + r) else 0) (b := 0) (m := i) (x := 0) (by
          show 0 = _
          rw [if_neg (by omega)])
        rw [Nat.zero_add] at q
        exact q
      exact rx_clearRow i (by omega) (nm_r (nI_1 i) (K _ _ ⟨e1, e2⟩))
    · have e1 : rt_put (rt_gP g fc d t i) (i * 16) 16 (fun j => fc ((d + i) * 16 + j)) = rt_gP g fc d t (i + 1) := by
        unfold rt_gP
        rw [rt_put_a (v := fun i => if d + i / 16 < t then fc (d * 16 + i) else 32) (by omega) (fun j hj => by
          show fc _ = _
          rw [if_pos (by omega)]
          congr 1; omega)]
        congr 1; omega
      have e2 : upd (rt_fP f ff d t i) i (ff (d + i)) = rt_fP f ff d t (i + 1) := by
        unfold rt_fP
        have q := rt_put_s (g := f) (v := fun r => if d + r < t then ff (d + r) else 0) (b := 0) (m := i) (x := ff (d + i)) (by
          show ff _ = _
          rw [if_pos (by omega)])
        rw [Nat.zero_add] at q
        exact q
      exact rx_takeRow (d + i) i (by omega) (by omega) (hb _ z) (nm_r (nI_1 i) (K _ _ ⟨e1, e2⟩)) (nI_add d i)
theorem rt_mn_sub {a b : Nat} : a = a - rt_mn a b + rt_mn a b ∧ rt_mn a b ≤ b ∧ rt_mn a b ≤ a := by
  rcases rt_mn_sp a b with ⟨p, e⟩ | ⟨p, e⟩ <;> omega
theorem rx_place {w h s n y x sy sx tp bt : Nat} {al pd sp fu : Int32} {g f fc ff : Nat → Int32} {post : Int32 → SX → Prop} {A B : Int32} (fi h2 t : Nat) (ht : t ≤ 96) (hs : s ≤ 16) (hh : h2 ≤ 8) (hf : fi ≤ t) (hb : ∀ i, i < t → rt_01 (ff i)) (H : post (nI (fi - rt_mn fi s + (t - fi - h2))) ((nI t), fu, (nI w), (nI h), (nI s), (nI (rt_mn fi s)), al, (nI tp), (nI bt), (nI y), (nI x), pd, (nI sy), (nI sx), sp, (rt_gP g fc (fi - rt_mn fi s) t (rt_mn fi s + h2)), (rt_fP f ff (fi - rt_mn fi s) t (rt_mn fi s + h2)), fc, ff)) (eA : A = nI fi := by rfl) (eB : B = nI h2 := by rfl) : wpX_placeFlow post ((nI t), fu, (nI w), (nI h), (nI s), (nI n), al, (nI tp), (nI bt), (nI y), (nI x), pd, (nI sy), (nI sx), sp, g, f, fc, ff) A B := by
  subst eA eB
  have m := rt_mn_sub (a := fi) (b := s)
  unfold wpX_placeFlow
  exact rx_smaller fi s (nm_r (pk_sub m.2.2) (nm_r (nI_add _ _) (rx_placeL fi h2 (rt_mn fi s) (fi - rt_mn fi s) t ht (by omega) hh m.1 hf hb H)))
theorem rx_crop18 {w h s n y x sy sx tp bt : Nat} {al pd sp fn fu : Int32} {g f fc ff : Nat → Int32} {post : SX → Prop} {J : Int32 → Int32 → Int32 → Int32 → Int32 → Int32 → Int32 → Int32 → Int32 → Int32 → Int32 → Int32 → Int32 → Int32 → Int32 → Int32 → (Nat → Int32) → (Nat → Int32) → (Nat → Int32) → (Nat → Int32) → Prop} {x1 x2 : Int32} {r c : Nat} (hr : r < 8) (hc : c ≤ 16) (H : J (nI (r + 1)) fn fu (nI w) (nI h) (nI s) (nI n) al (nI tp) (nI bt) (nI y) (nI x) pd (nI sy) (nI sx) sp (rt_put g ((24 + r) * 16 + c) (16 - c) (fun _ => 32)) (upd f (24 + r) 0) fc ff) : wX_cropAlt_18 post J x1 x2 (nI r) (nI c) fn fu (nI w) (nI h) (nI s) (nI n) al (nI tp) (nI bt) (nI y) (nI x) pd (nI sy) (nI sx) sp g f fc ff := by
  unfold wX_cropAlt_18
  exact rx_clearCells (24 + r) c 16 (by omega) hc (by omega) ⟨pk_in (24 + r) 32 (by omega) (nI_add 24 r), nm_r (rt_us (nI_add 24 r) (by omega) rt_nar0) (nm_r (nI_1 r) H)⟩ (nI_add 24 r)
theorem rx_crop {w h s n y x sy sx tp bt : Nat} {al pd sp fn fu : Int32} {g f fc ff : Nat → Int32} {post : SX → Prop} {A B : Int32} (w2 h2 : Nat) (h20 : 0 < h2) (hh : h2 ≤ 8) (w20 : 0 < w2) (hw2 : w2 ≤ 16) (hy : y < 8) (hx : x < 16) (H : post (fn, fu, (nI w), (nI h), (nI s), (nI n), al, (nI tp), (nI bt), (nI (rt_mn y (h2 - 1))), (nI (rt_mn x (w2 - 1))), 0, (nI sy), (nI sx), sp, (rt_crop g 384 h2 w2), (rt_put f 24 8 (fun _ => 0)), fc, ff)) (eA : A = nI w2 := by rfl) (eB : B = nI h2 := by rfl) : wpX_cropAlt post (fn, fu, (nI w), (nI h), (nI s), (nI n), al, (nI tp), (nI bt), (nI y), (nI x), pd, (nI sy), (nI sx), sp, g, f, fc, ff) A B := by
  subst eA eB
  refine rt_loop2 (fun N i (qa qb : Nat → Int32) => wX_cropAlt_2 post (nI w2) (nI h2) N (nI i) fn fu (nI w) (nI h) (nI s) (nI n) al (nI tp) (nI bt) (nI y) (nI x) pd (nI sy) (nI sx) sp qa qb fc ff) (fun i qa qb => qa = rt_put g 384 (i * 16) (fun i => if h2 ≤ i / 16 ∨ w2 ≤ i % 16 then 32 else g (384 + i)) ∧ qb = rt_put f 24 i (fun _ => 0)) 8 0 g f (Nat.zero_le _) ⟨by rw [Nat.zero_mul, rt_put_0], by rw [rt_put_0]⟩ ?_ ?_
  · rintro N qa qb ⟨rfl, rfl⟩
    exact pk_le 8 8 (fun _ => rx_smaller y (h2 - 1) (rx_smaller x (w2 - 1) (rx_move H) rfl (pk_sub (b := 1) (by omega))) rfl (pk_sub (b := 1) (by omega))) (fun z => absurd z (by omega))
  · rintro N i qa qb hi ⟨rfl, rfl⟩ K
    have e2 : upd (rt_put f 24 i (fun _ => 0)) (24 + i) 0 = rt_put f 24 (i + 1) (fun _ => 0) := rt_put_s rfl
    have e1 : ∀ c, (h2 ≤ i ∧ c = 0) ∨ (i < h2 ∧ c = w2) → rt_put (rt_put g 384 (i * 16) (fun i => if h2 ≤ i / 16 ∨ w2 ≤ i % 16 then 32 else g (384 + i))) ((24 + i) * 16 + c) (16 - c) (fun _ => 32) = rt_put g 384 ((i + 1) * 16) (fun i => if h2 ≤ i / 16 ∨ w2 ≤ i % 16 then 32 else g (384 + i)) := by
      intro c hc
      funext q
      simp only [rt_put]
      repeat' split
      all_goals first | omega | rfl | (congr 1; omega)
    exact pk_le 8 i (fun z => absurd z (by omega)) (fun _ => pk_le h2 i (fun z => rx_crop18 (c := 0) hi (by omega) (K _ _ ⟨e1 0 (Or.inl ⟨z, rfl⟩), e2⟩)) (fun z => rx_crop18 hi hw2 (K _ _ ⟨e1 w2 (Or.inr ⟨z, rfl⟩), e2⟩)))
end
section
/-! Y's reflow: the lines emitted -/
theorem ry_e131 {w h s n y x sy sx tp bt : Nat} {al pd sp lc cl ck : Int32} {sb sbf sc scf rb rbf ls lr ll : Nat → Int32} {post : Int32 → SY → Prop} {J61 J89 : Int32 → (Nat → Int32) → (Nat → Int32) → (Nat → Int32) → (Nat → Int32) → (Nat → Int32) → (Nat → Int32) → (Nat → Int32) → (Nat → Int32) → (Nat → Int32) → Prop} {x1 x2 x3 x4 x5 x6 v : Int32} {t i : Nat} (ht : t < 96) (hi : i < 16) (H : J89 (nI (i + 1)) sb sbf sc scf (upd rb (t * 16 + i) v) rbf ls lr ll) : wY_emitLine_131 post J61 J89 x1 x2 x3 x4 x5 x6 (nI t) (nI i) v (nI w) (nI h) (nI s) (nI n) (nI y) (nI x) (nI sy) (nI sx) (nI tp) (nI bt) al pd sp lc cl ck sb sbf sc scf rb rbf ls lr ll :=
  ⟨pk_in (t * 16 + i) 1536 (by omega) (rt_ix t i), nm_r (rt_us (rt_ix t i) (by omega) rfl) (nm_r (nI_1 i) H)⟩
theorem ry_e89 {w h s n y x sy sx tp bt : Nat} {al pd sp lc cl ck : Int32} {sb sbf sc scf rb rbf ls lr ll : Nat → Int32} {g : Nat → Int32} {post : Int32 → SY → Prop} {J : Int32 → (Nat → Int32) → (Nat → Int32) → (Nat → Int32) → (Nat → Int32) → (Nat → Int32) → (Nat → Int32) → (Nat → Int32) → (Nat → Int32) → (Nat → Int32) → Prop} {x3 : Int32} (l st len w2 R j t : Nat) (C : rt_Mc w h n g sb sc) (hn : n ≤ 16) (hh : h ≤ 8) (hw0 : 0 < w) (hw : w ≤ 16) (hw2 : w2 ≤ 16) (hl : l < 24) (hls : ls l = nI st) (hR : 1 ≤ R) (hRb : R ≤ 96) (hj : j < R) (ht : t < 96) (hlen : len < 2 ^ 20) (hin : ∀ q, q < len → st + q / w < n + h) (H : J (nI (j + 1)) sb sbf sc scf (rt_put rb (t * 16) 16 (rt_val (rt_tx g w st) len w2 j)) (upd rbf t (rt_flg R j)) ls lr ll) : ∃ N, wY_emitLine_89 post J (nI l) (nI w2) x3 (nI len) (nI R) (nI j) (nI t) (nI w) (nI h) (nI s) (nI n) (nI y) (nI x) (nI sy) (nI sx) (nI tp) (nI bt) al pd sp lc cl ck N 0 sb sbf sc scf rb rbf ls lr ll := by
  have hjw : j * w2 ≤ 96 * 16 := Nat.mul_le_mul (by omega) hw2
  have ett : ∀ i, nI j * nI w2 + nI i = nI (j * w2 + i) := fun i => by rw [pk_mul, nI_add]
  have er : nI R - 1 = nI (R - 1) := pk_sub (b := 1) (by omega)
  refine pk_loop (fun N i c => wY_emitLine_89 post J (nI l) (nI w2) x3 (nI len) (nI R) (nI j) (nI t) (nI w) (nI h) (nI s) (nI n) (nI y) (nI x) (nI sy) (nI sx) (nI tp) (nI bt) al pd sp lc cl ck N (nI i) sb sbf sc scf c rbf ls lr ll) (fun i c => c = rt_put rb (t * 16) i (rt_val (rt_tx g w st) len w2 j)) 16 0 rb (by omega) (rt_put_0 _ _ _).symm ?_ ?_
  · rintro N c rfl
    refine pk_le 16 16 (fun _ => pk_le (R - 1) j (fun z => ⟨pk_in t 96 ht, nm_r (rt_us rfl (by omega) rt_nar0) (nm_r (nI_1 j) ?_)⟩) (fun z => ⟨pk_in t 96 ht, nm_r (rt_us rfl (by omega) rt_nar1) (nm_r (nI_1 j) ?_)⟩) er) (fun z => absurd z (by omega))
    · rw [show rt_flg R j = 0 from if_neg (by omega)] at H
      exact H
    · rw [show rt_flg R j = 1 from if_pos (by omega)] at H
      exact H
  · rintro N i c hi rfl K
    exact pk_le 16 i (fun z => absurd z (by omega)) (fun _ => nm_r (ett i) (pk_le w2 i (fun z => ry_e131 ht hi (K _ (rt_put_s (rt_val_w z).symm))) (fun z => pk_le len (j * w2 + i) (fun z2 => ry_e131 ht hi (K _ (rt_put_s (rt_val_l z2).symm))) (fun z2 => ry_textAt l (j * w2 + i) st C hn hh hw0 hw hl (by omega) hls (hin _ z2) (ry_e131 ht hi (K _ (rt_put_s (rt_val_t z z2).symm)))))))
theorem ry_e61 {w h s n y x sy sx tp bt : Nat} {al pd sp lc cl ck : Int32} {sb sbf sc scf rb rbf ls lr ll : Nat → Int32} {g : Nat → Int32} {post : Int32 → SY → Prop} (l st len w2 R t0 : Nat) (C : rt_Mc w h n g sb sc) (hn : n ≤ 16) (hh : h ≤ 8) (hw0 : 0 < w) (hw : w ≤ 16) (hw2 : w2 ≤ 16) (hl : l < 24) (hls : ls l = nI st) (hR : 1 ≤ R) (hB : t0 + R ≤ 96) (hlen : len < 2 ^ 20) (hin : ∀ q, q < len → st + q / w < n + h) (H : post (nI R) ((nI w), (nI h), (nI s), (nI n), (nI y), (nI x), (nI sy), (nI sx), (nI tp), (nI bt), al, pd, sp, lc, cl, ck, sb, sbf, sc, scf, (rt_put rb (t0 * 16) (R * 16) (rt_rowv (rt_tx g w st) len w2)), (rt_put rbf t0 R (rt_flg R)), ls, lr, ll)) : ∃ N, wY_emitLine_61 post (nI l) (nI w2) (nI t0) (nI len) (nI R) (nI w) (nI h) (nI s) (nI n) (nI y) (nI x) (nI sy) (nI sx) (nI tp) (nI bt) al pd sp lc cl ck N 0 sb sbf sc scf rb rbf ls lr ll := by
  refine rt_loop2 (fun N i (qa qb : Nat → Int32) => wY_emitLine_61 post (nI l) (nI w2) (nI t0) (nI len) (nI R) (nI w) (nI h) (nI s) (nI n) (nI y) (nI x) (nI sy) (nI sx) (nI tp) (nI bt) al pd sp lc cl ck N (nI i) sb sbf sc scf qa qb ls lr ll) (fun i qa qb => qa = rt_put rb (t0 * 16) (i * 16) (rt_rowv (rt_tx g w st) len w2) ∧ qb = rt_put rbf t0 i (rt_flg R)) R 0 rb rbf (Nat.zero_le _) ⟨by rw [Nat.zero_mul, rt_put_0], by rw [rt_put_0]⟩ ?_ ?_
  · rintro N qa qb ⟨rfl, rfl⟩
    exact pk_le R R (fun _ => H) (fun z => absurd z (by omega))
  · rintro N i qa qb hi ⟨rfl, rfl⟩ K
    have e1 : rt_put (rt_put rb (t0 * 16) (i * 16) (rt_rowv (rt_tx g w st) len w2)) ((t0 + i) * 16) 16 (rt_val (rt_tx g w st) len w2 i) = rt_put rb (t0 * 16) ((i + 1) * 16) (rt_rowv (rt_tx g w st) len w2) := by
      rw [rt_put_a (v := rt_rowv (rt_tx g w st) len w2) (by omega) (fun c hc => (rt_rowv_at _ _ _ _ _ hc).symm)]
      congr 1; omega
    exact pk_le R i (fun z => absurd z (by omega)) (fun _ => nm_r (nI_add t0 i) (pk_lt (t0 + i) 0 (fun z => absurd z (by omega)) (fun _ => pk_le 96 (t0 + i) (fun z => absurd z (by omega)) (fun _ => ry_e89 l st len w2 R i (t0 + i) C hn hh hw0 hw hw2 hl hls hR (by omega) hi (by omega) hlen hin (K _ _ ⟨e1, rt_put_s rfl⟩)))))
theorem ry_emitLine {w h s n y x sy sx tp bt : Nat} {al pd sp lc : Int32} {sb sbf sc scf rb rbf ls lr ll : Nat → Int32} {g : Nat → Int32} {post : Int32 → SY → Prop} (l st w2 t0 c k : Nat) (LN : Nat → Nat) (C : rt_Mc w h n g sb sc) (hn : n ≤ 16) (hh : h ≤ 8) (hw0 : 0 < w) (hw : w ≤ 16) (h24 : 4 ≤ w2) (hw2 : w2 ≤ 16) (hl : l < 24) (hc : c < 24) (hk : k < 2 ^ 20) (hls : ls l = nI st) (hll : ll l = nI (LN l)) (hB : t0 + rt_R LN w2 c k l ≤ 96) (hlen : LN l < 2 ^ 20) (hin : ∀ q, q < LN l → st + q / w < n + h) (H : post (nI (rt_R LN w2 c k l)) ((nI w), (nI h), (nI s), (nI n), (nI y), (nI x), (nI sy), (nI sx), (nI tp), (nI bt), al, pd, sp, lc, (nI c), (nI k), sb, sbf, sc, scf, (rt_put rb (t0 * 16) (rt_R LN w2 c k l * 16) (rt_rowv (rt_tx g w st) (LN l) w2)), (rt_put rbf t0 (rt_R LN w2 c k l) (rt_flg (rt_R LN w2 c k l))), ls, lr, ll)) : wpY_emitLine post ((nI w), (nI h), (nI s), (nI n), (nI y), (nI x), (nI sy), (nI sx), (nI tp), (nI bt), al, pd, sp, lc, (nI c), (nI k), sb, sbf, sc, scf, rb, rbf, ls, lr, ll) (nI l) (nI w2) (nI t0) := by
  have ex : ll (nI l).toNatClampNeg = nI (LN l) := (rt_rd rfl (by omega)).trans hll
  have ed : nI (LN l) + nI w2 - 1 = nI (LN l + w2 - 1) := by
    rw [nI_add, show (1 : Int32) = nI 1 from rfl, pk_sub (by omega)]
  have edd : (nI (LN l) + nI w2 - 1) / nI w2 = nI ((LN l + w2 - 1) / w2) := by
    rw [ed, pk_div (by omega) (by omega) (by omega)]
  have hd : (LN l + w2 - 1) / w2 < 2 ^ 21 := Nat.lt_of_le_of_lt (Nat.div_le_self _ _) (by omega)
  have hkd : k / w2 < 2 ^ 20 := Nat.lt_of_le_of_lt (Nat.div_le_self _ _) (by omega)
  have ek : nI k / nI w2 = nI (k / w2) := pk_div (by omega) (by omega) (by omega)
  have ek1 : nI k / nI w2 + 1 = nI (k / w2 + 1) := by rw [ek, nI_1]
  have hw20 : ¬ nI w2 = 0 := nI_ne0 (by omega) (by omega)
  have hpos := rt_R_pos LN w2 c k l
  have go : ∃ N, wY_emitLine_61 post (nI l) (nI w2) (nI t0) (nI (LN l)) (nI (rt_R LN w2 c k l)) (nI w) (nI h) (nI s) (nI n) (nI y) (nI x) (nI sy) (nI sx) (nI tp) (nI bt) al pd sp lc (nI c) (nI k) N 0 sb sbf sc scf rb rbf ls lr ll := ry_e61 l st (LN l) w2 (rt_R LN w2 c k l) t0 C hn hh hw0 hw hw2 hl hls hpos hB hlen hin H
  have j27 : ∀ q, q = rt_R0 w2 (LN l) → wY_emitLine_27 post (nI l) (nI w2) (nI t0) (nI (LN l)) (nI q) (nI w) (nI h) (nI s) (nI n) (nI y) (nI x) (nI sy) (nI sx) (nI tp) (nI bt) al pd sp lc (nI c) (nI k) sb sbf sc scf rb rbf ls lr ll := by
    rintro q rfl
    have hR0 : rt_R0 w2 (LN l) < 2 ^ 22 := by
      unfold rt_R0
      rcases rt_mx_sp 1 ((LN l + w2 - 1) / w2) with p | p <;> omega
    refine pk_eq l c (fun z => ⟨hw20, pk_le (k / w2 + 1) (rt_R0 w2 (LN l)) (fun z2 => ?_) (fun z2 => ⟨hw20, nm_r ek1 ?_⟩) ek1⟩) (fun z => ?_)
    · have e : rt_R LN w2 c k l = rt_R0 w2 (LN l) := by unfold rt_R; rw [if_pos z, rt_mx_ge z2]
      rw [e] at go; exact go
    · have e : rt_R LN w2 c k l = k / w2 + 1 := by unfold rt_R; rw [if_pos z, rt_mx_lt z2]
      rw [e] at go; exact go
    · have e : rt_R LN w2 c k l = rt_R0 w2 (LN l) := by unfold rt_R; rw [if_neg z]
      rw [e] at go; exact go
  refine ⟨pk_in l 24 hl, nm_r ex ⟨hw20, nm_r edd (pk_le 1 ((LN l + w2 - 1) / w2) (fun z => j27 _ ?_) (fun z => j27 1 ?_))⟩⟩
  · unfold rt_R0
    rcases rt_mx_sp 1 ((LN l + w2 - 1) / w2) with p | p <;> omega
  · unfold rt_R0
    rcases rt_mx_sp 1 ((LN l + w2 - 1) / w2) with p | p <;> omega
theorem ry_rz61 {w h s n y x sy sx tp bt : Nat} {al pd sp lc : Int32} {sb sbf sc scf rb rbf ls lr ll : Nat → Int32} {g : Nat → Int32} {post : Int32 → SY → Prop} {J : Int32 → Int32 → Int32 → Int32 → Int32 → Int32 → Int32 → Int32 → Int32 → Int32 → Int32 → Int32 → Int32 → Int32 → Int32 → Int32 → Int32 → Int32 → Int32 → (Nat → Int32) → (Nat → Int32) → (Nat → Int32) → (Nat → Int32) → (Nat → Int32) → (Nat → Int32) → (Nat → Int32) → (Nat → Int32) → (Nat → Int32) → Prop} {x4 x6 : Int32} (l st w2 t0 c k : Nat) (LN : Nat → Nat) (C : rt_Mc w h n g sb sc) (hn : n ≤ 16) (hh : h ≤ 8) (hw0 : 0 < w) (hw : w ≤ 16) (h24 : 4 ≤ w2) (hw2 : w2 ≤ 16) (hl : l < 24) (hc : c < 24) (hk : k < 2 ^ 20) (hls : ls l = nI st) (hll : ll l = nI (LN l)) (hB : t0 + rt_R LN w2 c k l ≤ 96) (hlen : LN l < 2 ^ 20) (hin : ∀ q, q < LN l → st + q / w < n + h) (H : J (nI (t0 + rt_R LN w2 c k l)) x6 (nI (l + 1)) (nI w) (nI h) (nI s) (nI n) (nI y) (nI x) (nI sy) (nI sx) (nI tp) (nI bt) al pd sp lc (nI c) (nI k) sb sbf sc scf (rt_put rb (t0 * 16) (rt_R LN w2 c k l * 16) (rt_rowv (rt_tx g w st) (LN l) w2)) (rt_put rbf t0 (rt_R LN w2 c k l) (rt_flg (rt_R LN w2 c k l))) ls lr ll) : wY_resize_61 post J (nI w2) x4 (nI t0) x6 (nI l) (nI w) (nI h) (nI s) (nI n) (nI y) (nI x) (nI sy) (nI sx) (nI tp) (nI bt) al pd sp lc (nI c) (nI k) sb sbf sc scf rb rbf ls lr ll := by
  unfold wY_resize_61
  exact ry_emitLine l st w2 t0 c k LN C hn hh hw0 hw h24 hw2 hl hc hk hls hll hB hlen hin (nm_r (nI_add _ _) (nm_r (nI_1 l) H))
end
section
/-! Y's resize -/
theorem ry_rz32 {w h s n y x sy sx tp bt : Nat} {al pd sp : Int32} {sb sbf sc scf rb rbf ls lr ll : Nat → Int32} {g f : Nat → Int32} {post : Int32 → SY → Prop} {w2 ci mc : Nat} {x4 : Int32} (C : rt_Mc w h n g sb sc) (hn : n ≤ 16) (hh : h ≤ 8) (h0 : 0 < h) (hw0 : 0 < w) (hw : w ≤ 16) (h24 : 4 ≤ w2) (hw2 : w2 ≤ 16) (hc : ci < n + h) (hm : mc < w) (M : Nat) (hM : M ≤ rt_L f (n + h - 1) + 1) (hcM : rt_L f ci < M) (hl : ∀ l, l ≤ rt_L f (n + h - 1) → ls l = nI (rt_V f (n + h) l) ∧ ll l = nI (rt_ln g f w (n + h) l)) (H : wY_resize_92 post (nI w2) x4 (nI (rt_Bs (rt_RR g f w (n + h) w2 ci mc) M)) (nI (rt_Bs (rt_RR g f w (n + h) w2 ci mc) (rt_L f ci) + rt_ck f w (n + h) ci mc / w2)) (nI w) (nI h) (nI s) (nI n) (nI y) (nI x) (nI sy) (nI sx) (nI tp) (nI bt) al pd sp (nI M) (nI (rt_L f ci)) (nI (rt_ck f w (n + h) ci mc)) sb sbf sc scf (rt_fa (rt_TX g f w (n + h)) (rt_ln g f w (n + h)) (rt_RR g f w (n + h) w2 ci mc) w2 rb M) (rt_ff (rt_RR g f w (n + h) w2 ci mc) rbf M) ls lr ll) : ∃ N, wY_resize_32 post (nI w2) x4 N 0 0 0 (nI w) (nI h) (nI s) (nI n) (nI y) (nI x) (nI sy) (nI sx) (nI tp) (nI bt) al pd sp (nI M) (nI (rt_L f ci)) (nI (rt_ck f w (n + h) ci mc)) sb sbf sc scf rb rbf ls lr ll := by
  have hL := rt_L_le f (n + h - 1)
  have hck : rt_ck f w (n + h) ci mc < 2 ^ 20 := by
    have a := rt_ck_lt (f := f) (w := w) hc hm
    have b := rt_V_le f (n + h) (rt_L f ci + 1)
    have c : (rt_V f (n + h) (rt_L f ci + 1) - rt_V f (n + h) (rt_L f ci)) * w ≤ 24 * 16 := Nat.mul_le_mul (by omega) hw
    omega
  have ek : nI (rt_ck f w (n + h) ci mc) / nI w2 = nI (rt_ck f w (n + h) ci mc / w2) := pk_div (by omega) (by omega) (by omega)
  have h96M := rt_Bs_96 (g := g) (f := f) (m := M) (show 0 < n + h by omega) (by omega) hw h24 hc hm hM
  refine rt_loop3 (fun N l (q : Int32) (qa qb : Nat → Int32) => wY_resize_32 post (nI w2) x4 N (nI (rt_Bs (rt_RR g f w (n + h) w2 ci mc) l)) q (nI l) (nI w) (nI h) (nI s) (nI n) (nI y) (nI x) (nI sy) (nI sx) (nI tp) (nI bt) al pd sp (nI M) (nI (rt_L f ci)) (nI (rt_ck f w (n + h) ci mc)) sb sbf sc scf qa qb ls lr ll) (fun l q qa qb => (rt_L f ci < l → q = nI (rt_Bs (rt_RR g f w (n + h) w2 ci mc) (rt_L f ci) + rt_ck f w (n + h) ci mc / w2)) ∧ qa = rt_fa (rt_TX g f w (n + h)) (rt_ln g f w (n + h)) (rt_RR g f w (n + h) w2 ci mc) w2 rb l ∧ qb = rt_ff (rt_RR g f w (n + h) w2 ci mc) rbf l) M 0 0 rb rbf (Nat.zero_le _) ⟨fun z => by omega, rfl, rfl⟩ ?_ ?_
  · rintro N q qa qb ⟨h1, rfl, rfl⟩
    obtain rfl := h1 hcM
    exact pk_le M M (fun _ => pk_le (rt_Bs (rt_RR g f w (n + h) w2 ci mc) M) 96 (fun _ => H) (fun z => absurd z (by omega))) (fun z => absurd z (by omega))
  · rintro N l q qa qb hlM ⟨h1, rfl, rfl⟩ K
    have h96 := rt_Bs_96 (g := g) (f := f) (m := l + 1) (show 0 < n + h by omega) (by omega) hw h24 hc hm (by omega)
    rw [rt_Bs_s] at h96
    have hVl := rt_V_le f (n + h) (l + 1)
    have hlen := rt_ln_le g f w (n + h) l
    have hlen2 : (n + h) * w ≤ 24 * 16 := Nat.mul_le_mul (by omega) hw
    have hin : ∀ q, q < rt_ln g f w (n + h) l → rt_V f (n + h) l + q / w < n + h := fun q hq => by
      have a : q < (rt_V f (n + h) (l + 1) - rt_V f (n + h) l) * w := Nat.lt_of_lt_of_le hq (rt_len_le _ _)
      have b : q / w < rt_V f (n + h) (l + 1) - rt_V f (n + h) l := Nat.div_lt_of_lt_mul (by rw [Nat.mul_comm]; exact a)
      exact Nat.lt_of_lt_of_le (Nat.add_lt_of_lt_sub' b) (by omega)
    have hll := hl l (by omega)
    have go : ∀ q : Int32, (rt_L f ci < l + 1 → q = nI (rt_Bs (rt_RR g f w (n + h) w2 ci mc) (rt_L f ci) + rt_ck f w (n + h) ci mc / w2)) → wY_resize_61 post (wY_resize_32 post (nI w2) x4 N) (nI w2) x4 (nI (rt_Bs (rt_RR g f w (n + h) w2 ci mc) l)) q (nI l) (nI w) (nI h) (nI s) (nI n) (nI y) (nI x) (nI sy) (nI sx) (nI tp) (nI bt) al pd sp (nI M) (nI (rt_L f ci)) (nI (rt_ck f w (n + h) ci mc)) sb sbf sc scf (rt_fa (rt_TX g f w (n + h)) (rt_ln g f w (n + h)) (rt_RR g f w (n + h) w2 ci mc) w2 rb l) (rt_ff (rt_RR g f w (n + h) w2 ci mc) rbf l) ls lr ll := fun q hq =>
      ry_rz61 l (rt_V f (n + h) l) w2 (rt_Bs (rt_RR g f w (n + h) w2 ci mc) l) (rt_L f ci) (rt_ck f w (n + h) ci mc) (rt_ln g f w (n + h)) C hn hh hw0 hw h24 hw2 (by omega) (by omega) hck hll.1 hll.2 h96 (by omega) hin (K q _ _ ⟨hq, rfl, rfl⟩)
    exact pk_le M l (fun z => absurd z (by omega)) (fun _ => pk_eq l (rt_L f ci) (fun z => ⟨nI_ne0 (by omega) (by omega), nm_r (e' := nI (rt_Bs (rt_RR g f w (n + h) w2 ci mc) l + rt_ck f w (n + h) ci mc / w2)) (by rw [ek, nI_add]) (go _ (fun _ => by rw [z]))⟩) (fun z => go q (fun p => h1 (by omega))))
theorem ry_rz92 {w h s n y x sy sx tp bt : Nat} {al pd sp lc cl ck : Int32} {sb sbf sc scf rb rbf ls lr ll : Nat → Int32} {post : Int32 → SY → Prop} {x3 : Int32} (t p h2 : Nat) (ht : t ≤ 96) (hp : p ≤ 96) (hh2 : h2 ≤ 8) (H : ∃ N, wY_resize_126 post x3 (nI h2) (nI t) (nI p) (nI (rt_mn (t - h2) p)) 0 (nI w) (nI h) (nI s) (nI n) (nI y) (nI x) (nI sy) (nI sx) (nI tp) (nI bt) al pd sp lc cl ck N 0 sb sbf sc scf rb rbf ls lr ll) : wY_resize_92 post x3 (nI h2) (nI t) (nI p) (nI w) (nI h) (nI s) (nI n) (nI y) (nI x) (nI sy) (nI sx) (nI tp) (nI bt) al pd sp lc cl ck sb sbf sc scf rb rbf ls lr ll := by
  refine pk_le t h2 (fun z => ?_) (fun z => nm_r (pk_sub (by omega)) (pk_le (t - h2) p (fun z2 => ?_) (fun z2 => ?_)))
  · rw [show rt_mn (t - h2) p = 0 by rcases rt_mn_sp (t - h2) p with ⟨a, e⟩ | ⟨a, e⟩ <;> omega] at H
    exact H
  · rw [show rt_mn (t - h2) p = t - h2 by rcases rt_mn_sp (t - h2) p with ⟨a, e⟩ | ⟨a, e⟩ <;> omega] at H
    exact H
  · rw [show rt_mn (t - h2) p = p by rcases rt_mn_sp (t - h2) p with ⟨a, e⟩ | ⟨a, e⟩ <;> omega] at H
    exact H
theorem ry_160a {w h s n y x sy sx tp bt : Nat} {al pd sp lc cl ck : Int32} {sb sbf sc scf rb rbf ls lr ll : Nat → Int32} {post : Int32 → SY → Prop} {J : Int32 → (Nat → Int32) → (Nat → Int32) → (Nat → Int32) → (Nat → Int32) → (Nat → Int32) → (Nat → Int32) → (Nat → Int32) → (Nat → Int32) → (Nat → Int32) → Prop} {x3 x4 x5 x6 x8 : Int32} (fi r : Nat) (hr : r < 8) (hf : fi + r < 96) (hb : rt_01 (rbf (fi + r))) (H : J (nI (r + 1)) sb sbf (rt_put sc (r * 16) 16 (fun j => rb ((fi + r) * 16 + j))) (upd scf r (rbf (fi + r))) rb rbf ls lr ll) : ∃ N, wY_resize_160 post J x3 x4 x5 x6 (nI fi) x8 (nI r) 1 (nI w) (nI h) (nI s) (nI n) (nI y) (nI x) (nI sy) (nI sx) (nI tp) (nI bt) al pd sp lc cl ck N 0 sb sbf sc scf rb rbf ls lr ll := by
  have e : ∀ i, (nI fi + nI r) * 16 + nI i = nI ((fi + r) * 16 + i) := fun i => by rw [nI_add, rt_ix]
  refine pk_loop (fun N i c => wY_resize_160 post J x3 x4 x5 x6 (nI fi) x8 (nI r) 1 (nI w) (nI h) (nI s) (nI n) (nI y) (nI x) (nI sy) (nI sx) (nI tp) (nI bt) al pd sp lc cl ck N (nI i) sb sbf c scf rb rbf ls lr ll) (fun i c => c = rt_put sc (r * 16) i (fun j => rb ((fi + r) * 16 + j))) 16 0 sc (by omega) (rt_put_0 _ _ _).symm ?_ ?_
  · rintro N c rfl
    refine pk_le 16 16 (fun _ => br_f (by decide) ⟨pk_in (fi + r) 96 hf (nI_add fi r), br_c (fun z => ⟨pk_in r 16 (by omega), nm_r (rt_us rfl (by omega) rt_nar0) (nm_r (nI_1 r) ?_)⟩) (fun z => ⟨pk_in r 16 (by omega), nm_r (rt_us rfl (by omega) rt_nar1) (nm_r (nI_1 r) ?_)⟩)⟩) (fun z => absurd z (by omega))
    · rw [rt_flE (fi + r) (nI_add fi r) (by omega) z] at H
      exact H
    · rw [rt_al1 hb (rt_nflE (fi + r) (nI_add fi r) (by omega) z)] at H
      exact H
  · rintro N i c hi rfl K
    exact pk_le 16 i (fun z => absurd z (by omega)) (fun _ => br_f (by decide) ⟨pk_in ((fi + r) * 16 + i) 1536 (by omega) (e i), pk_in (r * 16 + i) 256 (by omega) (rt_ix r i), nm_r ((rt_us (rt_ix r i) (by omega) (rt_rd (e i) (by omega))).trans (rt_put_s rfl)) (nm_r (nI_1 i) (K _ rfl))⟩)
theorem ry_160b {w h s n y x sy sx tp bt : Nat} {al pd sp lc cl ck : Int32} {sb sbf sc scf rb rbf ls lr ll : Nat → Int32} {post : Int32 → SY → Prop} {J : Int32 → (Nat → Int32) → (Nat → Int32) → (Nat → Int32) → (Nat → Int32) → (Nat → Int32) → (Nat → Int32) → (Nat → Int32) → (Nat → Int32) → (Nat → Int32) → Prop} {x3 x4 x5 x6 x7 x8 : Int32} (r : Nat) (hr : r < 8) (H : J (nI (r + 1)) sb sbf (rt_put sc (r * 16) 16 (fun _ => 32)) (upd scf r 0) rb rbf ls lr ll) : ∃ N, wY_resize_160 post J x3 x4 x5 x6 x7 x8 (nI r) 0 (nI w) (nI h) (nI s) (nI n) (nI y) (nI x) (nI sy) (nI sx) (nI tp) (nI bt) al pd sp lc cl ck N 0 sb sbf sc scf rb rbf ls lr ll := by
  refine pk_loop (fun N i c => wY_resize_160 post J x3 x4 x5 x6 x7 x8 (nI r) 0 (nI w) (nI h) (nI s) (nI n) (nI y) (nI x) (nI sy) (nI sx) (nI tp) (nI bt) al pd sp lc cl ck N (nI i) sb sbf c scf rb rbf ls lr ll) (fun i c => c = rt_put sc (r * 16) i (fun _ => 32)) 16 0 sc (by omega) (rt_put_0 _ _ _).symm ?_ ?_
  · rintro N c rfl
    exact pk_le 16 16 (fun _ => br_t rfl ⟨pk_in r 16 (by omega), nm_r (rt_us rfl (by omega) rt_nar0) (nm_r (nI_1 r) H)⟩) (fun z => absurd z (by omega))
  · rintro N i c hi rfl K
    exact pk_le 16 i (fun z => absurd z (by omega)) (fun _ => br_t rfl ⟨pk_in (r * 16 + i) 256 (by omega) (rt_ix r i), nm_r ((rt_us (rt_ix r i) (by omega) rfl).trans (rt_put_s rfl)) (nm_r (nI_1 i) (K _ rfl))⟩)
theorem ry_126 {w h s n y x sy sx tp bt : Nat} {al pd sp lc cl ck : Int32} {sb sbf sc scf rb rbf ls lr ll : Nat → Int32} {post : Int32 → SY → Prop} {x3 x6 x8 : Int32} (fi t h2 : Nat) (ht : t ≤ 96) (hh2 : h2 ≤ 8) (hft : fi ≤ t) (hs : s ≤ 16) (hb : ∀ i, i < t → rt_01 (rbf i)) (HA : h2 < t → ∃ N, wY_resize_292 post x3 (nI h2) (nI t) x6 (nI fi) (nI (fi - rt_mn fi s)) (nI w) (nI h) (nI s) (nI (rt_mn fi s)) (nI y) (nI x) (nI sy) (nI sx) (nI tp) (nI bt) al pd sp lc cl ck N 0 sb sbf (rt_scP sc rb fi t h2) (rt_sfP scf rbf fi t h2) rb rbf ls lr ll) (HB : t ≤ h2 → wY_resize_389 post x3 (nI h2) x6 (nI fi) x8 (nI w) (nI h) (nI s) 0 (nI y) (nI x) (nI sy) (nI sx) (nI tp) (nI bt) al pd sp lc cl ck sb sbf (rt_scP sc rb fi t h2) (rt_sfP scf rbf fi t h2) rb rbf ls lr ll) : ∃ N, wY_resize_126 post x3 (nI h2) (nI t) x6 (nI fi) x8 (nI w) (nI h) (nI s) (nI n) (nI y) (nI x) (nI sy) (nI sx) (nI tp) (nI bt) al pd sp lc cl ck N 0 sb sbf sc scf rb rbf ls lr ll := by
  refine rt_loop2 (fun N i (qa qb : Nat → Int32) => wY_resize_126 post x3 (nI h2) (nI t) x6 (nI fi) x8 (nI w) (nI h) (nI s) (nI n) (nI y) (nI x) (nI sy) (nI sx) (nI tp) (nI bt) al pd sp lc cl ck N (nI i) sb sbf qa qb rb rbf ls lr ll) (fun i qa qb => qa = rt_put sc 0 (i * 16) (fun i => if i / 16 < h2 ∧ fi + i / 16 < t then rb (fi * 16 + i) else 32) ∧ qb = rt_put scf 0 i (fun r => if r < h2 ∧ fi + r < t then rbf (fi + r) else 0)) 8 0 sc scf (Nat.zero_le _) ⟨by rw [Nat.zero_mul, rt_put_0], by rw [rt_put_0]⟩ ?_ ?_
  · rintro N qa qb ⟨rfl, rfl⟩
    refine pk_le 8 8 (fun _ => pk_lt h2 t (fun z => ?_) (fun z => HB z)) (fun z => absurd z (by omega))
    have HA' := HA z
    rcases Nat.lt_or_ge fi s with y | y
    · have e : rt_mn fi s = fi := by rcases rt_mn_sp fi s with ⟨a, e⟩ | ⟨a, e⟩ <;> omega
      rw [e, Nat.sub_self] at HA'
      have hneg : ¬ (0 : Int32) ≤ nI fi - nI s := by
        rw [Int32.le_iff_toInt_le, Int32.toInt_sub, nI_toInt (by omega), nI_toInt (by omega), show (0 : Int32).toInt = 0 from by decide, Int.bmod_eq_of_le (by omega) (by omega)]
        omega
      exact nm_e (br_f hneg (nm_r (Int32.sub_zero _) HA'))
    · have e : rt_mn fi s = s := by rcases rt_mn_sp fi s with ⟨a, e⟩ | ⟨a, e⟩ <;> omega
      rw [e] at HA'
      refine nm_r (pk_sub y) (pk_le 0 (fi - s) (fun _ => nm_r (e' := nI s) ?_ HA') (fun z => absurd z (by omega)))
      rw [pk_sub (by omega)]; congr 1; omega
  · rintro N i qa qb hi ⟨rfl, rfl⟩ K
    have blank : ¬ (i < h2 ∧ fi + i < t) → ∃ N', wY_resize_160 post (wY_resize_126 post x3 (nI h2) (nI t) x6 (nI fi) x8 (nI w) (nI h) (nI s) (nI n) (nI y) (nI x) (nI sy) (nI sx) (nI tp) (nI bt) al pd sp lc cl ck N) x3 (nI h2) (nI t) x6 (nI fi) x8 (nI i) 0 (nI w) (nI h) (nI s) (nI n) (nI y) (nI x) (nI sy) (nI sx) (nI tp) (nI bt) al pd sp lc cl ck N' 0 sb sbf (rt_put sc 0 (i * 16) (fun i => if i / 16 < h2 ∧ fi + i / 16 < t then rb (fi * 16 + i) else 32)) (rt_put scf 0 i (fun r => if r < h2 ∧ fi + r < t then rbf (fi + r) else 0)) rb rbf ls lr ll := fun z => by
      have e1 : rt_put (rt_put sc 0 (i * 16) (fun i => if i / 16 < h2 ∧ fi + i / 16 < t then rb (fi * 16 + i) else 32)) (i * 16) 16 (fun _ => 32) = rt_put sc 0 ((i + 1) * 16) (fun i => if i / 16 < h2 ∧ fi + i / 16 < t then rb (fi * 16 + i) else 32) := by
        rw [rt_put_a (v := fun i => if i / 16 < h2 ∧ fi + i / 16 < t then rb (fi * 16 + i) else 32) (by omega) (fun j hj => by
          show 32 = _
          rw [if_neg (by omega)])]
        congr 1; omega
      have e2 : upd (rt_put scf 0 i (fun r => if r < h2 ∧ fi + r < t then rbf (fi + r) else 0)) i 0 = rt_put scf 0 (i + 1) (fun r => if r < h2 ∧ fi + r < t then rbf (fi + r) else 0) := by
        have q := rt_put_s (g := scf) (v := fun r => if r < h2 ∧ fi + r < t then rbf (fi + r) else 0) (b := 0) (m := i) (x := 0) (by
          show 0 = _
          rw [if_neg z])
        rw [Nat.zero_add] at q
        exact q
      exact ry_160b i hi (K _ _ ⟨e1, e2⟩)
    refine pk_le 8 i (fun z => absurd z (by omega)) (fun _ => pk_le h2 i (fun z => blank (by omega)) (fun z => pk_le t (fi + i) (fun z2 => blank (by omega)) (fun z2 => ?_) rfl (nI_add fi i)))
    have e1 : rt_put (rt_put sc 0 (i * 16) (fun i => if i / 16 < h2 ∧ fi + i / 16 < t then rb (fi * 16 + i) else 32)) (i * 16) 16 (fun j => rb ((fi + i) * 16 + j)) = rt_put sc 0 ((i + 1) * 16) (fun i => if i / 16 < h2 ∧ fi + i / 16 < t then rb (fi * 16 + i) else 32) := by
      rw [rt_put_a (v := fun i => if i / 16 < h2 ∧ fi + i / 16 < t then rb (fi * 16 + i) else 32) (by omega) (fun j hj => by
        show rb _ = _
        rw [if_pos (by omega)]
        congr 1; omega)]
      congr 1; omega
    have e2 : upd (rt_put scf 0 i (fun r => if r < h2 ∧ fi + r < t then rbf (fi + r) else 0)) i (rbf (fi + i)) = rt_put scf 0 (i + 1) (fun r => if r < h2 ∧ fi + r < t then rbf (fi + r) else 0) := by
      have q := rt_put_s (g := scf) (v := fun r => if r < h2 ∧ fi + r < t then rbf (fi + r) else 0) (b := 0) (m := i) (x := rbf (fi + i)) (by
        show rbf _ = _
        rw [if_pos ⟨z, z2⟩])
      rw [Nat.zero_add] at q
      exact q
    exact ry_160a fi i hi (by omega) (hb _ z2) (K _ _ ⟨e1, e2⟩)
theorem ry_311 {w h s n y x sy sx tp bt : Nat} {al pd sp lc cl ck : Int32} {sb sbf sc scf rb rbf ls lr ll : Nat → Int32} {post : Int32 → SY → Prop} {J : Int32 → (Nat → Int32) → (Nat → Int32) → (Nat → Int32) → (Nat → Int32) → (Nat → Int32) → (Nat → Int32) → (Nat → Int32) → (Nat → Int32) → (Nat → Int32) → Prop} {x3 x4 x5 x6 x7 : Int32} (d r : Nat) (hr : r < 16) (hf : d + r < 96) (hb : rt_01 (rbf (d + r))) (H : J (nI (r + 1)) (rt_put sb (r * 16) 16 (fun j => rb ((d + r) * 16 + j))) (upd sbf r (rbf (d + r))) sc scf rb rbf ls lr ll) : ∃ N, wY_resize_311 post J x3 x4 x5 x6 x7 (nI d) (nI r) (nI w) (nI h) (nI s) (nI n) (nI y) (nI x) (nI sy) (nI sx) (nI tp) (nI bt) al pd sp lc cl ck N 0 sb sbf sc scf rb rbf ls lr ll := by
  have e : ∀ i, (nI d + nI r) * 16 + nI i = nI ((d + r) * 16 + i) := fun i => by rw [nI_add, rt_ix]
  refine pk_loop (fun N i c => wY_resize_311 post J x3 x4 x5 x6 x7 (nI d) (nI r) (nI w) (nI h) (nI s) (nI n) (nI y) (nI x) (nI sy) (nI sx) (nI tp) (nI bt) al pd sp lc cl ck N (nI i) c sbf sc scf rb rbf ls lr ll) (fun i c => c = rt_put sb (r * 16) i (fun j => rb ((d + r) * 16 + j))) 16 0 sb (by omega) (rt_put_0 _ _ _).symm ?_ ?_
  · rintro N c rfl
    exact pk_le 16 16 (fun _ => ⟨pk_in (d + r) 96 hf (nI_add d r), pk_in r 16 hr, nm_r (rt_us rfl (by omega) ((congrArg _ (rt_rd (nI_add d r) (by omega))).trans (rt_nar hb))) (nm_r (nI_1 r) H)⟩) (fun z => absurd z (by omega))
  · rintro N i c hi rfl K
    exact pk_le 16 i (fun z => absurd z (by omega)) (fun _ => ⟨pk_in ((d + r) * 16 + i) 1536 (by omega) (e i), pk_in (r * 16 + i) 256 (by omega) (rt_ix r i), nm_r ((rt_us (rt_ix r i) (by omega) (rt_rd (e i) (by omega))).trans (rt_put_s rfl)) (nm_r (nI_1 i) (K _ rfl))⟩)
theorem ry_292 {w h s n y x sy sx tp bt : Nat} {al pd sp lc cl ck : Int32} {sb sbf sc scf rb rbf ls lr ll : Nat → Int32} {post : Int32 → SY → Prop} {x3 x6 : Int32} (fi t h2 d : Nat) (ht : t ≤ 96) (hn : n ≤ 16) (hd : d + n = fi) (hft : fi ≤ t) (hh2 : h2 ≤ 8) (hth : fi + h2 ≤ t) (hb : ∀ i, i < t → rt_01 (rbf i)) (H : wY_resize_389 post x3 (nI h2) x6 (nI fi) (nI (d + (t - fi - h2))) (nI w) (nI h) (nI s) (nI n) (nI y) (nI x) (nI sy) (nI sx) (nI tp) (nI bt) al pd sp lc cl ck (rt_put sb 0 (n * 16) (fun j => rb (d * 16 + j))) (rt_put sbf 0 n (fun j => rbf (d + j))) sc scf rb rbf ls lr ll) : ∃ N, wY_resize_292 post x3 (nI h2) (nI t) x6 (nI fi) (nI d) (nI w) (nI h) (nI s) (nI n) (nI y) (nI x) (nI sy) (nI sx) (nI tp) (nI bt) al pd sp lc cl ck N 0 sb sbf sc scf rb rbf ls lr ll := by
  refine rt_loop2 (fun N i (qa qb : Nat → Int32) => wY_resize_292 post x3 (nI h2) (nI t) x6 (nI fi) (nI d) (nI w) (nI h) (nI s) (nI n) (nI y) (nI x) (nI sy) (nI sx) (nI tp) (nI bt) al pd sp lc cl ck N (nI i) qa qb sc scf rb rbf ls lr ll) (fun i qa qb => qa = rt_put sb 0 (i * 16) (fun j => rb (d * 16 + j)) ∧ qb = rt_put sbf 0 i (fun j => rbf (d + j))) n 0 sb sbf (Nat.zero_le _) ⟨by rw [Nat.zero_mul, rt_put_0], by rw [rt_put_0]⟩ ?_ ?_
  · rintro N qa qb ⟨rfl, rfl⟩
    refine pk_le n n (fun _ => nm_r (e' := nI (d + (t - fi - h2))) ?_ H) (fun z => absurd z (by omega))
    rw [pk_sub hft, pk_sub (by omega), nI_add]
  · rintro N i qa qb hi ⟨rfl, rfl⟩ K
    have e1 : rt_put (rt_put sb 0 (i * 16) (fun j => rb (d * 16 + j))) (i * 16) 16 (fun j => rb ((d + i) * 16 + j)) = rt_put sb 0 ((i + 1) * 16) (fun j => rb (d * 16 + j)) := by
      rw [rt_put_a (v := fun j => rb (d * 16 + j)) (by omega) (fun j hj => by
        show rb _ = rb _
        congr 1; omega)]
      congr 1; omega
    have e2 : upd (rt_put sbf 0 i (fun j => rbf (d + j))) i (rbf (d + i)) = rt_put sbf 0 (i + 1) (fun j => rbf (d + j)) := by
      have q := rt_put_s (g := sbf) (v := fun j => rbf (d + j)) (b := 0) (m := i) (x := rbf (d + i)) rfl
      rw [Nat.zero_add] at q
      exact q
    exact pk_le n i (fun z => absurd z (by omega)) (fun _ => pk_le 16 i (fun z => absurd z (by omega)) (fun _ => ry_311 d i (by omega) (by omega) (hb _ (by omega)) (K _ _ ⟨e1, e2⟩)))
end
section
/-! the ends of Y's resize, and both sides' resize -/
theorem ry_608 {w h s n y x sy sx tp bt : Nat} {al pd sp lc cl ck : Int32} {sb sbf sc scf rb rbf ls lr ll : Nat → Int32} {post : Int32 → SY → Prop} {x8 : Int32} (w2 h2 : Nat) (hh : 0 < h2) (H : post x8 ((nI w2), (nI h2), (nI s), (nI n), (nI y), (nI x), (nI sy), (nI sx), 0, (nI (h2 - 1)), al, pd, sp, lc, cl, ck, sb, sbf, (rt_put sc 128 128 (fun _ => 32)), (rt_put scf 8 8 (fun _ => 0)), rb, rbf, ls, lr, ll)) : ∃ N, wY_resize_608 post (nI w2) (nI h2) x8 (nI w) (nI h) (nI s) (nI n) (nI y) (nI x) (nI sy) (nI sx) (nI tp) (nI bt) al pd sp lc cl ck N 128 sb sbf sc scf rb rbf ls lr ll := by
  refine pk_loop (fun N i c => wY_resize_608 post (nI w2) (nI h2) x8 (nI w) (nI h) (nI s) (nI n) (nI y) (nI x) (nI sy) (nI sx) (nI tp) (nI bt) al pd sp lc cl ck N (nI i) sb sbf c scf rb rbf ls lr ll) (fun i c => 128 ≤ i ∧ c = rt_put sc 128 (i - 128) (fun _ => 32)) 256 128 sc (by omega) ⟨Nat.le_refl _, by rw [Nat.sub_self, rt_put_0]⟩ ?_ ?_
  · rintro N c ⟨-, rfl⟩
    refine pk_le 256 256 (fun _ => ?_) (fun z => absurd z (by omega))
    refine pk_loop (fun N i c => wY_resize_635 post (nI w2) (nI h2) x8 (nI w) (nI h) (nI s) (nI n) (nI y) (nI x) (nI sy) (nI sx) (nI tp) (nI bt) al pd sp lc cl ck N (nI i) sb sbf (rt_put sc 128 128 (fun _ => 32)) c rb rbf ls lr ll) (fun i c => 8 ≤ i ∧ c = rt_put scf 8 (i - 8) (fun _ => 0)) 16 8 scf (by omega) ⟨Nat.le_refl _, by rw [Nat.sub_self, rt_put_0]⟩ ?_ ?_
    · rintro N c ⟨-, rfl⟩
      exact pk_le 16 16 (fun _ => nm_r (pk_sub (b := 1) (by omega)) H) (fun z => absurd z (by omega))
    · rintro N i c hi ⟨ha, rfl⟩ K
      have e : upd (rt_put scf 8 (i - 8) (fun _ => 0)) i 0 = rt_put scf 8 (i + 1 - 8) (fun _ => 0) := by
        have h := rt_put_s (g := scf) (v := fun _ => 0) (b := 8) (m := i - 8) (x := 0) rfl
        rw [show 8 + (i - 8) = i by omega, show i - 8 + 1 = i + 1 - 8 by omega] at h
        exact h
      exact pk_le 16 i (fun z => absurd z (by omega)) (fun _ => ⟨pk_in i 16 (by omega), nm_r ((rt_us rfl (by omega) rt_nar0).trans e) (nm_r (nI_1 i) (K _ ⟨by omega, rfl⟩))⟩)
  · rintro N i c hi ⟨ha, rfl⟩ K
    have e : upd (rt_put sc 128 (i - 128) (fun _ => 32)) i 32 = rt_put sc 128 (i + 1 - 128) (fun _ => 32) := by
      have h := rt_put_s (g := sc) (v := fun _ => 32) (b := 128) (m := i - 128) (x := 32) rfl
      rw [show 128 + (i - 128) = i by omega, show i - 128 + 1 = i + 1 - 128 by omega] at h
      exact h
    exact pk_le 256 i (fun z => absurd z (by omega)) (fun _ => ⟨pk_in i 256 (by omega), nm_r ((rt_us rfl (by omega) rfl).trans e) (nm_r (nI_1 i) (K _ ⟨by omega, rfl⟩))⟩)
theorem ry_479 {w h s n y x sy sx tp bt : Nat} {al pd sp lc cl ck : Int32} {sb sbf sc scf rb rbf ls lr ll : Nat → Int32} {post : Int32 → SY → Prop} {J : Int32 → (Nat → Int32) → (Nat → Int32) → (Nat → Int32) → (Nat → Int32) → (Nat → Int32) → (Nat → Int32) → (Nat → Int32) → (Nat → Int32) → (Nat → Int32) → Prop} {x3 x4 x8 : Int32} (mh mw r : Nat) (hr : r < 8) (hmh : mh ≤ 8) (hmw : mw ≤ 16) (H : J (nI (r + 1)) sb sbf (rt_put sc (128 + r * 16) 16 (fun j => if mh ≤ r ∨ mw ≤ j then 32 else sc (128 + r * 16 + j))) (upd scf (8 + r) 0) rb rbf ls lr ll) : ∃ N, wY_resize_479 post J x3 x4 x8 (nI mh) (nI mw) (nI r) (nI w) (nI h) (nI s) (nI n) (nI y) (nI x) (nI sy) (nI sx) (nI tp) (nI bt) al pd sp lc cl ck N 0 sb sbf sc scf rb rbf ls lr ll := by
  refine pk_loop (fun N i c => wY_resize_479 post J x3 x4 x8 (nI mh) (nI mw) (nI r) (nI w) (nI h) (nI s) (nI n) (nI y) (nI x) (nI sy) (nI sx) (nI tp) (nI bt) al pd sp lc cl ck N (nI i) sb sbf c scf rb rbf ls lr ll) (fun i c => c = rt_put sc (128 + r * 16) i (fun j => if mh ≤ r ∨ mw ≤ j then 32 else sc (128 + r * 16 + j))) 16 0 sc (by omega) (rt_put_0 _ _ _).symm ?_ ?_
  · rintro N c rfl
    exact pk_le 16 16 (fun _ => ⟨pk_in (8 + r) 16 (by omega) (nI_add 8 r), nm_r (rt_us (nI_add 8 r) (by omega) rt_nar0) (nm_r (nI_1 r) H)⟩) (fun z => absurd z (by omega))
  · rintro N i c hi rfl K
    have er : (mh ≤ r ∨ mw ≤ i) → wY_resize_500 post J (wY_resize_479 post J x3 x4 x8 (nI mh) (nI mw) (nI r) (nI w) (nI h) (nI s) (nI n) (nI y) (nI x) (nI sy) (nI sx) (nI tp) (nI bt) al pd sp lc cl ck N) x3 x4 x8 (nI mh) (nI mw) (nI r) (nI i) (nI w) (nI h) (nI s) (nI n) (nI y) (nI x) (nI sy) (nI sx) (nI tp) (nI bt) al pd sp lc cl ck sb sbf (rt_put sc (128 + r * 16) i (fun j => if mh ≤ r ∨ mw ≤ j then 32 else sc (128 + r * 16 + j))) scf rb rbf ls lr ll := fun z =>
      ⟨pk_in (128 + r * 16 + i) 256 (by omega) (rt_iy 128 r i), nm_r ((rt_us (rt_iy 128 r i) (by omega) rfl).trans (rt_put_s (by show 32 = _; rw [if_pos z]))) (nm_r (nI_1 i) (K _ rfl))⟩
    refine pk_le 16 i (fun z => absurd z (by omega)) (fun _ => pk_le mh r (fun z => er (Or.inl z)) (fun z => pk_lt i mw (fun z2 => nm_r (nI_1 i) (K _ (rt_put_k ?_))) (fun z2 => er (Or.inr z2))))
    show (if mh ≤ r ∨ mw ≤ i then 32 else sc (128 + r * 16 + i)) = _
    rw [if_neg (by omega)]
theorem ry_561 {w h s n y x sy sx tp bt : Nat} {al pd sp lc cl ck : Int32} {sb sbf sc scf rb rbf ls lr ll : Nat → Int32} {post : Int32 → SY → Prop} {x8 : Int32} (w2 h2 : Nat) (hh : 0 < h2) (hh2 : h2 ≤ 8) (hw : 0 < w2) (hw2 : w2 ≤ 16) (hx : x < 16) (H : post x8 ((nI w2), (nI h2), (nI s), (nI n), (nI y), (nI (rt_mn x (w2 - 1))), (nI sy), (nI sx), 0, (nI (h2 - 1)), al, 0, sp, lc, cl, ck, sb, sbf, sc, scf, rb, rbf, ls, lr, ll)) : wY_resize_561 post (nI w2) (nI h2) x8 (nI w) (nI h) (nI s) (nI n) (nI y) (nI x) (nI sy) (nI sx) (nI tp) (nI bt) al pd sp lc cl ck sb sbf sc scf rb rbf ls lr ll := by
  have ew : nI w2 - 1 = nI (w2 - 1) := pk_sub (b := 1) (by omega)
  have eh : nI h2 - 1 = nI (h2 - 1) := pk_sub (b := 1) (by omega)
  refine pk_le x (w2 - 1) (fun z => nm_r eh ?_) (fun z => nm_r ew (nm_r eh ?_)) rfl ew
  · rw [show rt_mn x (w2 - 1) = x by rcases rt_mn_sp x (w2 - 1) with ⟨a, e⟩ | ⟨a, e⟩ <;> omega] at H
    exact H
  · rw [show rt_mn x (w2 - 1) = w2 - 1 by rcases rt_mn_sp x (w2 - 1) with ⟨a, e⟩ | ⟨a, e⟩ <;> omega] at H
    exact H
theorem ry_469 {w h s n y x sy sx tp bt : Nat} {al pd sp lc cl ck : Int32} {sb sbf sc scf rb rbf ls lr ll : Nat → Int32} {post : Int32 → SY → Prop} {x8 : Int32} (w2 h2 mh mw : Nat) (hh : 0 < h2) (hh2 : h2 ≤ 8) (hw : 0 < w2) (hw2 : w2 ≤ 16) (hmh : mh ≤ 8) (hmw : mw ≤ 16) (hy : y < 8) (hx : x < 16) (H : post x8 ((nI w2), (nI h2), (nI s), (nI n), (nI (rt_mn y (h2 - 1))), (nI (rt_mn x (w2 - 1))), (nI sy), (nI sx), 0, (nI (h2 - 1)), al, 0, sp, lc, cl, ck, sb, sbf, (rt_crop sc 128 mh mw), (rt_put scf 8 8 (fun _ => 0)), rb, rbf, ls, lr, ll)) : ∃ N, wY_resize_469 post (nI w2) (nI h2) x8 (nI mh) (nI mw) (nI w) (nI h) (nI s) (nI n) (nI y) (nI x) (nI sy) (nI sx) (nI tp) (nI bt) al pd sp lc cl ck N 0 sb sbf sc scf rb rbf ls lr ll := by
  have eh : nI h2 - 1 = nI (h2 - 1) := pk_sub (b := 1) (by omega)
  refine rt_loop2 (fun N i (qa qb : Nat → Int32) => wY_resize_469 post (nI w2) (nI h2) x8 (nI mh) (nI mw) (nI w) (nI h) (nI s) (nI n) (nI y) (nI x) (nI sy) (nI sx) (nI tp) (nI bt) al pd sp lc cl ck N (nI i) sb sbf qa qb rb rbf ls lr ll) (fun i qa qb => qa = rt_put sc 128 (i * 16) (fun i => if mh ≤ i / 16 ∨ mw ≤ i % 16 then 32 else sc (128 + i)) ∧ qb = rt_put scf 8 i (fun _ => 0)) 8 0 sc scf (Nat.zero_le _) ⟨by rw [Nat.zero_mul, rt_put_0], by rw [rt_put_0]⟩ ?_ ?_
  · rintro N qa qb ⟨rfl, rfl⟩
    refine pk_le 8 8 (fun _ => pk_le y (h2 - 1) (fun z => ry_561 w2 h2 hh hh2 hw hw2 hx ?_) (fun z => nm_r eh (ry_561 w2 h2 hh hh2 hw hw2 hx ?_)) rfl eh) (fun z => absurd z (by omega))
    · rw [show rt_mn y (h2 - 1) = y by rcases rt_mn_sp y (h2 - 1) with ⟨a, e⟩ | ⟨a, e⟩ <;> omega] at H
      exact H
    · rw [show rt_mn y (h2 - 1) = h2 - 1 by rcases rt_mn_sp y (h2 - 1) with ⟨a, e⟩ | ⟨a, e⟩ <;> omega] at H
      exact H
  · rintro N i qa qb hi ⟨rfl, rfl⟩ K
    have e1 : rt_put (rt_put sc 128 (i * 16) (fun i => if mh ≤ i / 16 ∨ mw ≤ i % 16 then 32 else sc (128 + i))) (128 + i * 16) 16 (fun j => if mh ≤ i ∨ mw ≤ j then 32 else rt_put sc 128 (i * 16) (fun i => if mh ≤ i / 16 ∨ mw ≤ i % 16 then 32 else sc (128 + i)) (128 + i * 16 + j)) = rt_put sc 128 ((i + 1) * 16) (fun i => if mh ≤ i / 16 ∨ mw ≤ i % 16 then 32 else sc (128 + i)) := by
      rw [rt_put_a (v := fun i => if mh ≤ i / 16 ∨ mw ≤ i % 16 then 32 else sc (128 + i)) rfl (fun j hj => by
        show (if mh ≤ i ∨ mw ≤ j then 32 else rt_put _ _ _ _ _) = (if mh ≤ (i * 16 + j) / 16 ∨ mw ≤ (i * 16 + j) % 16 then 32 else sc (128 + (i * 16 + j)))
        rw [show (i * 16 + j) / 16 = i by omega, show (i * 16 + j) % 16 = j by omega, rt_put_out (by omega), show 128 + (i * 16 + j) = 128 + i * 16 + j by omega])]
      congr 1; omega
    exact pk_le 8 i (fun z => absurd z (by omega)) (fun _ => ry_479 mh mw i hi hmh hmw (K _ _ ⟨e1, rt_put_s rfl⟩))
theorem ry_389 {w h s n y x sy sx tp bt : Nat} {al pd sp lc cl : Int32} {sb sbf sc scf rb rbf ls lr ll : Nat → Int32} {post : Int32 → SY → Prop} {x8 : Int32} (w2 h2 p fi k : Nat) (hh : 0 < h2) (hh2 : h2 ≤ 8) (h24 : 4 ≤ w2) (hw2 : w2 ≤ 16) (hw : w ≤ 16) (h8 : h ≤ 8) (hy : y < 8) (hx : x < 16) (hp : fi ≤ p) (hk : k < 2 ^ 20) (Hm : al = 0 → post x8 ((nI w2), (nI h2), (nI s), (nI n), (nI (p - fi)), (nI (k % w2)), (nI sy), (nI sx), 0, (nI (h2 - 1)), al, 0, sp, lc, cl, (nI k), sb, sbf, (rt_put sc 128 128 (fun _ => 32)), (rt_put scf 8 8 (fun _ => 0)), rb, rbf, ls, lr, ll)) (Ha : ¬ al = 0 → ∀ mh mw : Nat, ((h < h2 ∧ mh = h) ∨ (h2 ≤ h ∧ mh = h2)) → ((w < w2 ∧ mw = w) ∨ (w2 ≤ w ∧ mw = w2)) → post x8 ((nI w2), (nI h2), (nI s), (nI n), (nI (rt_mn y (h2 - 1))), (nI (rt_mn x (w2 - 1))), (nI (p - fi)), (nI (k % w2)), 0, (nI (h2 - 1)), al, 0, 0, lc, cl, (nI k), sb, sbf, (rt_crop sc 128 mh mw), (rt_put scf 8 8 (fun _ => 0)), rb, rbf, ls, lr, ll)) : wY_resize_389 post (nI w2) (nI h2) (nI p) (nI fi) x8 (nI w) (nI h) (nI s) (nI n) (nI y) (nI x) (nI sy) (nI sx) (nI tp) (nI bt) al pd sp lc cl (nI k) sb sbf sc scf rb rbf ls lr ll := by
  refine nm_r (pk_sub hp) ⟨nI_ne0 (by omega) (by omega), nm_r (pk_rem (by omega) (by omega) (by omega)) (br_c (fun z => ry_608 w2 h2 hh (Hm z)) (fun z => ?_))⟩
  refine pk_le h2 h (fun z1 => pk_le w2 w (fun z2 => ?_) (fun z2 => ?_)) (fun z1 => pk_le w2 w (fun z2 => ?_) (fun z2 => ?_))
  · exact ry_469 w2 h2 h2 w2 hh hh2 (by omega) hw2 (by omega) (by omega) hy hx (Ha z _ _ (Or.inr ⟨z1, rfl⟩) (Or.inr ⟨z2, rfl⟩))
  · exact ry_469 w2 h2 h2 w hh hh2 (by omega) hw2 (by omega) (by omega) hy hx (Ha z _ _ (Or.inr ⟨z1, rfl⟩) (Or.inl ⟨z2, rfl⟩))
  · exact ry_469 w2 h2 h w2 hh hh2 (by omega) hw2 (by omega) (by omega) hy hx (Ha z _ _ (Or.inl ⟨z1, rfl⟩) (Or.inr ⟨z2, rfl⟩))
  · exact ry_469 w2 h2 h w hh hh2 (by omega) hw2 (by omega) (by omega) hy hx (Ha z _ _ (Or.inl ⟨z1, rfl⟩) (Or.inl ⟨z2, rfl⟩))
end
section
/-! both sides' resize, whole -/
theorem rx_resize {w h s n y x sy sx tp bt : Nat} {al pd sp fn fu : Int32} {g f fc ff : Nat → Int32} {post : Int32 → SX → Prop} {v1 v2 : Int32} {w2 h2 t p fi k : Nat} {fl fg : Nat → Int32} (cw : ∀ P : Int32 → Prop, P (nI w2) → ((nI 4 ≤ v1 → ((v1 ≤ nI 16 → P v1) ∧ (¬ v1 ≤ nI 16 → P (nI 16)))) ∧ (¬ nI 4 ≤ v1 → P (nI 4)))) (ch : ∀ P : Int32 → Prop, P (nI h2) → ((nI 2 ≤ v2 → ((v2 ≤ nI 8 → P v2) ∧ (¬ v2 ≤ nI 8 → P (nI 8)))) ∧ (¬ nI 2 ≤ v2 → P (nI 2)))) (hn : n ≤ 16) (h0 : 0 < h) (hh : h ≤ 8) (hw0 : 0 < w) (hw : w ≤ 16) (hs : s ≤ 16) (h20 : 0 < h2) (hh2 : h2 ≤ 8) (h24 : 4 ≤ w2) (hw2 : w2 ≤ 16) (hy : y < 8) (hx : x < 16) (hm : rt_mr al y sy < h) (hmx : rt_mr al x sx < w) (ht : rt_Bs (rt_RR g f w (n + h) w2 (n + rt_mr al y sy) (rt_mr al x sx)) (rt_N g f w (n + h) (n + rt_mr al y sy)) = t) (hp : rt_Bs (rt_RR g f w (n + h) w2 (n + rt_mr al y sy) (rt_mr al x sx)) (rt_L f (n + rt_mr al y sy)) + (rt_ck f w (n + h) (n + rt_mr al y sy) (rt_mr al x sx)) / w2 = p) (hk : (rt_ck f w (n + h) (n + rt_mr al y sy) (rt_mr al x sx)) = k) (hpt : p < t) (ht96 : t ≤ 96) (hk20 : k < 2 ^ 20) (hfi : fi = rt_mn (t - h2) p) (hfl : rt_fa (rt_TX g f w (n + h)) (rt_ln g f w (n + h)) (rt_RR g f w (n + h) w2 (n + rt_mr al y sy) (rt_mr al x sx)) w2 fc (rt_N g f w (n + h) (n + rt_mr al y sy)) = fl) (hfg : rt_ff (rt_RR g f w (n + h) w2 (n + rt_mr al y sy) (rt_mr al x sx)) ff (rt_N g f w (n + h) (n + rt_mr al y sy)) = fg) (hb : ∀ i, i < t → rt_01 (fg i)) (Hm : al = 0 → post (nI (fi - rt_mn fi s + (t - fi - h2))) ((nI t), (nI p), (nI w2), (nI h2), (nI s), (nI (rt_mn fi s)), al, 0, (nI (h2 - 1)), (nI (p - fi)), (nI (k % w2)), 0, (nI sy), (nI sx), sp, (rt_put (rt_gP g fl (fi - rt_mn fi s) t (rt_mn fi s + h2)) 384 128 (fun _ => 32)), (rt_put (rt_fP f fg (fi - rt_mn fi s) t (rt_mn fi s + h2)) 24 8 (fun _ => 0)), fl, fg)) (Ha : ¬ al = 0 → post (nI (fi - rt_mn fi s + (t - fi - h2))) ((nI t), (nI p), (nI w2), (nI h2), (nI s), (nI (rt_mn fi s)), al, 0, (nI (h2 - 1)), (nI (rt_mn y (h2 - 1))), (nI (rt_mn x (w2 - 1))), 0, (nI (p - fi)), (nI (k % w2)), 0, (rt_crop (rt_gP g fl (fi - rt_mn fi s) t (rt_mn fi s + h2)) 384 h2 w2), (rt_put (rt_fP f fg (fi - rt_mn fi s) t (rt_mn fi s + h2)) 24 8 (fun _ => 0)), fl, fg)) : wpX_resize post (fn, fu, (nI w), (nI h), (nI s), (nI n), al, (nI tp), (nI bt), (nI y), (nI x), pd, (nI sy), (nI sx), sp, g, f, fc, ff) v1 v2 := by
  have hfp : fi ≤ p ∧ fi ≤ t := by
    subst hfi
    rcases rt_mn_sp (t - h2) p with ⟨a, e⟩ | ⟨a, e⟩ <;> omega
  have eh : nI h2 - 1 = nI (h2 - 1) := pk_sub (b := 1) (by omega)
  unfold wpX_resize
  refine rx_clamp cw _ ?_
  refine rx_clamp ch _ ?_
  refine rx_cursorOffset (by omega) hm ?_
  refine rx_flowLines w2 h0 (by omega) hw0 hw h24 hw2 hm hmx ?_
  rw [ht, hp, hfl, hfg, hk]
  refine rx_first t p h2 ht96 (by omega) hh2 ?_
  rw [← hfi]
  refine rx_place fi h2 t ht96 hs hh2 hfp.2 hb ?_
  refine nm_r (pk_sub hfp.1) ⟨nI_ne0 (by omega) (by omega), nm_r (pk_rem (by omega) (by omega) (by omega)) (br_c (fun z => ?_) (fun z => ?_))⟩
  · refine rx_move ?_
    refine rx_clearRows 24 32 (by omega) (by omega) ?_
    exact nm_r eh (Hm z)
  · refine rx_crop w2 h2 h20 hh2 (by omega) hw2 hy hx ?_
    exact nm_r eh (Ha z)
theorem ry_resize {w h s n y x sy sx tp bt : Nat} {al pd sp lc cl ck : Int32} {sb sbf sc scf rb rbf ls lr ll : Nat → Int32} {g f : Nat → Int32} {post : Int32 → SY → Prop} {v1 v2 : Int32} {w2 h2 t p fi k m l : Nat} {rl rg : Nat → Int32} (cw : ∀ P : Int32 → Prop, P (nI w2) → ((nI 4 ≤ v1 → ((v1 ≤ nI 16 → P v1) ∧ (¬ v1 ≤ nI 16 → P (nI 16)))) ∧ (¬ nI 4 ≤ v1 → P (nI 4)))) (ch : ∀ P : Int32 → Prop, P (nI h2) → ((nI 2 ≤ v2 → ((v2 ≤ nI 8 → P v2) ∧ (¬ v2 ≤ nI 8 → P (nI 8)))) ∧ (¬ nI 2 ≤ v2 → P (nI 2)))) (C : rt_Mc w h n g sb sc) (F : rt_Mf h n f sbf scf) (hn : n ≤ 16) (h0 : 0 < h) (hh : h ≤ 8) (hw0 : 0 < w) (hw : w ≤ 16) (hs : s ≤ 16) (h20 : 0 < h2) (hh2 : h2 ≤ 8) (h24 : 4 ≤ w2) (hw2 : w2 ≤ 16) (hy : y < 8) (hx : x < 16) (hm : rt_mr al y sy < h) (hmx : rt_mr al x sx < w) (ht : rt_Bs (rt_RR g f w (n + h) w2 (n + rt_mr al y sy) (rt_mr al x sx)) (rt_N g f w (n + h) (n + rt_mr al y sy)) = t) (hp : rt_Bs (rt_RR g f w (n + h) w2 (n + rt_mr al y sy) (rt_mr al x sx)) (rt_L f (n + rt_mr al y sy)) + (rt_ck f w (n + h) (n + rt_mr al y sy) (rt_mr al x sx)) / w2 = p) (hk : (rt_ck f w (n + h) (n + rt_mr al y sy) (rt_mr al x sx)) = k) (hpt : p < t) (ht96 : t ≤ 96) (hk20 : k < 2 ^ 20) (hfi : fi = rt_mn (t - h2) p) (hmN : (rt_N g f w (n + h) (n + rt_mr al y sy)) = m) (hlL : (rt_L f (n + rt_mr al y sy)) = l) (hrl : rt_fa (rt_TX g f w (n + h)) (rt_ln g f w (n + h)) (rt_RR g f w (n + h) w2 (n + rt_mr al y sy) (rt_mr al x sx)) w2 rb (rt_N g f w (n + h) (n + rt_mr al y sy)) = rl) (hrg : rt_ff (rt_RR g f w (n + h) w2 (n + rt_mr al y sy) (rt_mr al x sx)) rbf (rt_N g f w (n + h) (n + rt_mr al y sy)) = rg) (hb : ∀ i, i < t → rt_01 (rg i)) (Hm : al = 0 → ∀ ls' lr' ll' : Nat → Int32, post (nI (fi - rt_mn fi s + (t - fi - h2))) ((nI w2), (nI h2), (nI s), (nI (rt_mn fi s)), (nI (p - fi)), (nI (k % w2)), (nI sy), (nI sx), 0, (nI (h2 - 1)), al, 0, sp, (nI m), (nI l), (nI k), (rt_put sb 0 (rt_mn fi s * 16) (fun i => rl ((fi - rt_mn fi s) * 16 + i))), (rt_put sbf 0 (rt_mn fi s) (fun i => rg (fi - rt_mn fi s + i))), (rt_put (rt_scP sc rl fi t h2) 128 128 (fun _ => 32)), (rt_put (rt_sfP scf rg fi t h2) 8 8 (fun _ => 0)), rl, rg, ls', lr', ll')) (Ha : ¬ al = 0 → ∀ (mh mw : Nat) (ls' lr' ll' : Nat → Int32), ((h < h2 ∧ mh = h) ∨ (h2 ≤ h ∧ mh = h2)) → ((w < w2 ∧ mw = w) ∨ (w2 ≤ w ∧ mw = w2)) → post (nI (fi - rt_mn fi s + (t - fi - h2))) ((nI w2), (nI h2), (nI s), (nI (rt_mn fi s)), (nI (rt_mn y (h2 - 1))), (nI (rt_mn x (w2 - 1))), (nI (p - fi)), (nI (k % w2)), 0, (nI (h2 - 1)), al, 0, 0, (nI m), (nI l), (nI k), (rt_put sb 0 (rt_mn fi s * 16) (fun i => rl ((fi - rt_mn fi s) * 16 + i))), (rt_put sbf 0 (rt_mn fi s) (fun i => rg (fi - rt_mn fi s + i))), (rt_crop (rt_scP sc rl fi t h2) 128 mh mw), (rt_put (rt_sfP scf rg fi t h2) 8 8 (fun _ => 0)), rl, rg, ls', lr', ll')) : wpY_resize post ((nI w), (nI h), (nI s), (nI n), (nI y), (nI x), (nI sy), (nI sx), (nI tp), (nI bt), al, pd, sp, lc, cl, ck, sb, sbf, sc, scf, rb, rbf, ls, lr, ll) v1 v2 := by
  have hfp : fi ≤ p ∧ fi ≤ t := by
    subst hfi
    rcases rt_mn_sp (t - h2) p with ⟨a, e⟩ | ⟨a, e⟩ <;> omega
  have hms := rt_mn_sub (a := fi) (b := s)
  have hM := rt_N_M (g := g) (f := f) (w := w) (T := n + h) (ci := n + rt_mr al y sy) hw0 (by omega)
  unfold wpY_resize
  refine ry_clamp cw _ ?_
  refine ry_clamp ch _ ?_
  refine ry_computeLines C F hn hh hw0 hw hm (fun ls' lr' ll' hl => ?_)
  refine ry_rz32 C hn hh h0 hw0 hw h24 hw2 (by omega) hmx _ hM.2.1 hM.1 hl ?_
  rw [ht, hp, hrl, hrg, hk, hmN, hlL]
  refine ry_rz92 t p h2 ht96 (by omega) hh2 ?_
  rw [← hfi]
  refine ry_126 fi t h2 ht96 hh2 hfp.2 hs hb (fun z => ?_) (fun z => ?_)
  · refine ry_292 fi t h2 (fi - rt_mn fi s) ht96 (by omega) (by omega) hfp.2 hh2 ?_ hb ?_
    · rcases rt_mn_sp (t - h2) p with ⟨a, e⟩ | ⟨a, e⟩ <;> omega
    · exact ry_389 w2 h2 p fi k h20 hh2 h24 hw2 hw hh hy hx hfp.1 hk20 (fun z => Hm z ls' lr' ll') (fun z mh mw q1 q2 => Ha z mh mw ls' lr' ll' q1 q2)
  · have ef : fi = 0 := by rcases rt_mn_sp (t - h2) p with ⟨a, e⟩ | ⟨a, e⟩ <;> omega
    have em : rt_mn fi s = 0 := by omega
    have el : fi - 0 + (t - fi - h2) = 0 := by omega
    rw [em, Nat.zero_mul, rt_put_0, rt_put_0] at Hm Ha
    rw [el] at Hm Ha
    exact ry_389 (n := 0) w2 h2 p fi k h20 hh2 h24 hw2 hw hh hy hx hfp.1 hk20 (fun z => Hm z ls' lr' ll') (fun z mh mw q1 q2 => Ha z mh mw ls' lr' ll' q1 q2)
theorem i_vc_resize {k : Nat} {u : SX} {v : SY} (I : i_Rel k u v) (hk : k + 3 ≤ 1539) (v1 : Int32) (v2 : Int32) : wpX_resize (fun r u' => wpY_resize (fun r' v' => r' = r ∧ i_Rel (k + 3) u' v') v v1 v2) u v1 v2 := by
  obtain ⟨w, h, s, n, y, x, sy, sx, tp, bt, al, pd, sp, fn, fu, lc, cl, ck, g, f, fc, ff, sb, sbf, sc, scf, rb, rbf, ls, lr, ll, rfl, rfl, I, C, F⟩ := I
  have hm := rt_I_mr I
  obtain ⟨a1, a2, a3, a4, a5, a6, a7, a8, a9, a10, a11, a12, a13, a14⟩ := I
  obtain ⟨w2, w21, w22, cw⟩ := rt_clamp v1 4 16 (by omega) (by omega)
  obtain ⟨h2, h21, h22, ch⟩ := rt_clamp v2 2 8 (by omega) (by omega)
  have hM := rt_N_M (g := g) (f := f) (w := w) (T := n + h) (ci := n + rt_mr al y sy) (by omega) (by omega)
  have h96 := rt_Bs_96 (g := g) (f := f) (w2 := w2) (mc := rt_mr al x sx) (show 0 < n + h by omega) (by omega) a2 w21 (show n + rt_mr al y sy < n + h by omega) hm.2 hM.2.1
  have hcur := rt_R_cur (rt_ln g f w (n + h)) w2 (rt_L f (n + rt_mr al y sy)) (rt_ck f w (n + h) (n + rt_mr al y sy) (rt_mr al x sx))
  have hbm := rt_Bs_m (R := (rt_RR g f w (n + h) w2 (n + rt_mr al y sy) (rt_mr al x sx))) hM.1
  have hRR : (rt_RR g f w (n + h) w2 (n + rt_mr al y sy) (rt_mr al x sx)) (rt_L f (n + rt_mr al y sy)) = rt_R (rt_ln g f w (n + h)) w2 (rt_L f (n + rt_mr al y sy)) (rt_ck f w (n + h) (n + rt_mr al y sy) (rt_mr al x sx)) (rt_L f (n + rt_mr al y sy)) := rfl
  have hck : (rt_ck f w (n + h) (n + rt_mr al y sy) (rt_mr al x sx)) < 2 ^ 20 := by
    have a := rt_ck_lt (f := f) (w := w) (T := n + h) (ci := n + rt_mr al y sy) (by omega) hm.2
    have b := rt_V_le f (n + h) (rt_L f (n + rt_mr al y sy) + 1)
    have c : (rt_V f (n + h) (rt_L f (n + rt_mr al y sy) + 1) - rt_V f (n + h) (rt_L f (n + rt_mr al y sy))) * w ≤ 24 * 16 := Nat.mul_le_mul (by omega) a2
    omega
  obtain ⟨fl, hfl⟩ : ∃ fl, rt_fa (rt_TX g f w (n + h)) (rt_ln g f w (n + h)) (rt_RR g f w (n + h) w2 (n + rt_mr al y sy) (rt_mr al x sx)) w2 fc (rt_N g f w (n + h) (n + rt_mr al y sy)) = fl := ⟨_, rfl⟩
  obtain ⟨rl, hrl⟩ : ∃ rl, rt_fa (rt_TX g f w (n + h)) (rt_ln g f w (n + h)) (rt_RR g f w (n + h) w2 (n + rt_mr al y sy) (rt_mr al x sx)) w2 rb (rt_N g f w (n + h) (n + rt_mr al y sy)) = rl := ⟨_, rfl⟩
  obtain ⟨fg, hfg⟩ : ∃ fg, rt_ff (rt_RR g f w (n + h) w2 (n + rt_mr al y sy) (rt_mr al x sx)) ff (rt_N g f w (n + h) (n + rt_mr al y sy)) = fg := ⟨_, rfl⟩
  obtain ⟨rg, hrg⟩ : ∃ rg, rt_ff (rt_RR g f w (n + h) w2 (n + rt_mr al y sy) (rt_mr al x sx)) rbf (rt_N g f w (n + h) (n + rt_mr al y sy)) = rg := ⟨_, rfl⟩
  obtain ⟨t, ht⟩ : ∃ t, rt_Bs (rt_RR g f w (n + h) w2 (n + rt_mr al y sy) (rt_mr al x sx)) (rt_N g f w (n + h) (n + rt_mr al y sy)) = t := ⟨_, rfl⟩
  obtain ⟨p, hp⟩ : ∃ p, rt_Bs (rt_RR g f w (n + h) w2 (n + rt_mr al y sy) (rt_mr al x sx)) (rt_L f (n + rt_mr al y sy)) + (rt_ck f w (n + h) (n + rt_mr al y sy) (rt_mr al x sx)) / w2 = p := ⟨_, rfl⟩
  obtain ⟨q, hq⟩ : ∃ q, (rt_ck f w (n + h) (n + rt_mr al y sy) (rt_mr al x sx)) = q := ⟨_, rfl⟩
  obtain ⟨fi, hfi⟩ : ∃ fi, fi = rt_mn (t - h2) p := ⟨_, rfl⟩
  have hpt : p < t := by
    rw [hRR] at hbm
    generalize (rt_ck f w (n + h) (n + rt_mr al y sy) (rt_mr al x sx)) / w2 = d at *
    omega
  have ag : rt_sg fl rl 0 0 (t * 16) := by
    intro i hi
    rw [Nat.zero_add, ← hfl, ← hrl]
    exact rt_fa_u _ _ _ i (by rw [ht]; exact hi)
  have agf : rt_sg fg rg 0 0 t := by
    intro i hi
    rw [Nat.zero_add, ← hfg, ← hrg]
    exact rt_ff_u _ _ _ i (by rw [ht]; exact hi)
  have hb1 : ∀ i, i < t → rt_01 (fg i) := by
    intro i hi
    rw [← hfg, rt_ff_u ff (fun _ => 0) _ i (by rw [ht]; exact hi)]
    exact rt_ff01 (fun _ => rt_01_0) _ i
  have hb2 : ∀ i, i < t → rt_01 (rg i) := by
    intro i hi
    rw [← hrg, rt_ff_u rbf (fun _ => 0) _ i (by rw [ht]; exact hi)]
    exact rt_ff01 (fun _ => rt_01_0) _ i
  have hfp : fi ≤ p ∧ fi ≤ t ∧ p - fi < h2 := by
    subst hfi
    rcases rt_mn_sp (t - h2) p with ⟨a, e⟩ | ⟨a, e⟩ <;> omega
  have hms := rt_mn_sub (a := fi) (b := s)
  have hmod : q % w2 < w2 := Nat.mod_lt _ (by omega)
  have hyy : rt_mn y (h2 - 1) < h2 := by rcases rt_mn_sp y (h2 - 1) with ⟨a, e⟩ | ⟨a, e⟩ <;> omega
  have hxx : rt_mn x (w2 - 1) < w2 := by rcases rt_mn_sp x (w2 - 1) with ⟨a, e⟩ | ⟨a, e⟩ <;> omega
  have F' := rt_Mf_rz F (n2 := rt_mn fi s) (d := fi - rt_mn fi s) (by omega) h22 hms.1 hfp.2.1 agf hb1
  rw [ht] at h96
  rw [hq] at hck
  refine rx_resize cw ch (by omega) (by omega) a4 (by omega) a2 a5 (by omega) h22 w21 w22 (by omega) (by omega) hm.1 hm.2 ht hp hq hpt h96 hck hfi hfl hfg hb1 (fun hal => ?_) (fun hal => ?_)
  · exact ry_resize cw ch C F (by omega) (by omega) a4 (by omega) a2 a5 (by omega) h22 w21 w22 (by omega) (by omega) hm.1 hm.2 ht hp hq hpt h96 hck hfi rfl rfl hrl hrg hb2 (fun _ ls' lr' ll' => ⟨rfl, rl_mk (tp := 0) ⟨w21, w22, h21, h22, a5, hms.2.1, hfp.2.2, hmod, by omega, by omega, a11, rt_01_0, a13, fun z => absurd hal z⟩ (rt_Mc_rm C (by omega) h22 hms.1 hfp.2.1 ag) F'⟩) (fun z => absurd hal z)
  · exact ry_resize cw ch C F (by omega) (by omega) a4 (by omega) a2 a5 (by omega) h22 w21 w22 (by omega) (by omega) hm.1 hm.2 ht hp hq hpt h96 hck hfi rfl rfl hrl hrg hb2 (fun z => absurd z hal) (fun _ mh mw ls' lr' ll' q1 q2 => ⟨rfl, rl_mk (tp := 0) ⟨w21, w22, h21, h22, a5, hms.2.1, hyy, hxx, by omega, by omega, a11, rt_01_0, rt_01_0, fun _ => ⟨hfp.2.2, hmod⟩⟩ (rt_Mc_ra C (by omega) h22 hms.1 hfp.2.1 ag q1 q2) F'⟩)
end
