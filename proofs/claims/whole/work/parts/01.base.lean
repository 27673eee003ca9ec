theorem pk_us {f : Nat → Int32} {k : Nat} {x : Int32} : upd f k x k = x := if_pos rfl
theorem pk_un {f : Nat → Int32} {k j : Nat} {x : Int32} (h : j ≠ k) : upd f k x j = f j := if_neg h
theorem pk_sub {a b : Nat} (h : b ≤ a) : nI a - nI b = nI (a - b) := by
  obtain ⟨c, rfl⟩ : ∃ c, a = c + b := ⟨a - b, by omega⟩
  rw [← nI_add, Int32.add_sub_cancel, Nat.add_sub_cancel]
theorem pk_m1 (n : Nat) : nI (n + 1) + (-1) = nI n := by
  rw [← nI_1, Int32.add_assoc, show (1 : Int32) + (-1) = 0 from rfl, Int32.add_zero]
theorem pk_mul (a b : Nat) : nI a * nI b = nI (a * b) := (Int32.ofNat_mul a b).symm
theorem pk_div {a d : Nat} (ha : a < 2 ^ 31) (h0 : 0 < d) (hd : d < 2 ^ 31) : nI a / nI d = nI (a / d) := by
  apply Int32.toInt_inj.mp
  rw [lg_idiv_nonneg (by rw [nI_toInt ha]; omega) (by rw [nI_toInt hd]; omega), nI_toInt ha, nI_toInt hd, nI_toInt (Nat.lt_of_le_of_lt (Nat.div_le_self a d) ha)]
  first | rfl | exact (Int.natCast_ediv _ _).symm
theorem pk_rem {a d : Nat} (ha : a < 2 ^ 31) (h0 : 0 < d) (hd : d < 2 ^ 31) : nI a - nI a / nI d * nI d = nI (a % d) := by
  rw [pk_div ha h0 hd, pk_mul, pk_sub (Nat.div_mul_le_self a d)]
  exact congrArg nI (by have := Nat.div_add_mod' a d; omega)
theorem pk_ix (x : Int32) {n : Nat} (hn : n < 2 ^ 31) : x < 0 ∨ nI n ≤ x ∨ ∃ j : Nat, j < n ∧ x = nI j := by
  by_cases h : x < 0
  · exact Or.inl h
  · obtain ⟨j, hj, rfl⟩ := nI_of h
    by_cases h2 : j < n
    · exact Or.inr (Or.inr ⟨j, h2, rfl⟩)
    · exact Or.inr (Or.inl (nI_le (by omega) hj))
theorem pk_le {x y : Int32} {A B : Prop} (a b : Nat) (f : a ≤ b → A) (g : b < a → B) (hx : x = nI a := by rfl) (hy : y = nI b := by rfl) (ha : a < 2 ^ 31 := by omega) (hb : b < 2 ^ 31 := by omega) : (x ≤ y → A) ∧ (¬ x ≤ y → B) := by
  subst hx hy
  rw [nI_leI ha hb]
  exact ⟨f, fun z => g (by omega)⟩
theorem pk_lt {x y : Int32} {A B : Prop} (a b : Nat) (f : a < b → A) (g : b ≤ a → B) (hx : x = nI a := by rfl) (hy : y = nI b := by rfl) (ha : a < 2 ^ 31 := by omega) (hb : b < 2 ^ 31 := by omega) : (x < y → A) ∧ (¬ x < y → B) := by
  subst hx hy
  rw [nI_ltI ha hb]
  exact ⟨f, fun z => g (by omega)⟩
theorem pk_eq {x y : Int32} {A B : Prop} (a b : Nat) (f : a = b → A) (g : a ≠ b → B) (hx : x = nI a := by rfl) (hy : y = nI b := by rfl) (ha : a < 2 ^ 31 := by omega) (hb : b < 2 ^ 31 := by omega) : (x = y → A) ∧ (¬ x = y → B) := by
  subst hx hy
  rw [nI_eq ha hb]
  exact ⟨f, g⟩
theorem pk_in {x : Int32} (n N : Nat) (h : n < N) (hx : x = nI n := by rfl) (hN : N < 2 ^ 31 := by omega) : vp_in x N := by
  subst hx
  exact vp_in_nI h hN
theorem pk_cl {x : Int32} (n : Nat) (hx : x = nI n := by rfl) (h : n < 2 ^ 31 := by omega) : x.toNatClampNeg = n := by
  subst hx
  exact nI_clamp h
theorem pk_loop {σ : Type} (W : Nat → Nat → σ → Prop) (I : Nat → σ → Prop) (e i0 : Nat) (s : σ) (hi : i0 ≤ e) (h0 : I i0 s) (hx : ∀ n s, I e s → W (n + 1) e s)
    (hs : ∀ n i s, i < e → I i s → (∀ s', I (i + 1) s' → W n (i + 1) s') → W (n + 1) i s) : ∃ n, W n i0 s :=
  ⟨e + 1, loop_i W I e hx hs (e + 1) i0 s hi (by omega) h0⟩
theorem pk_loopD {σ : Type} (W : Nat → Nat → σ → Prop) (I : Nat → σ → Prop) (hx : ∀ n s, I 0 s → W (n + 1) 0 s)
    (hs : ∀ n i s, I (i + 1) s → (∀ s', I i s' → W n i s') → W (n + 1) (i + 1) s) : ∀ (e : Nat) (s : σ), I e s → W (e + 1) e s := by
  intro e
  induction e with
  | zero => exact fun s h => hx 0 s h
  | succ e ih => exact fun s h => hs (e + 1) e s h (fun s' h' => ih s' h')
theorem sb_m1 {p : Nat} (h : 0 < p) : nI p + (-1) = nI (p - 1) := by
  obtain ⟨q, rfl⟩ : ∃ q, p = q + 1 := ⟨p - 1, by omega⟩
  exact pk_m1 q
theorem sb_negT {w : Nat} (h : w < 2 ^ 31) : (-nI w).toInt = -(w : Int) := by
  rw [Int32.toInt_neg, nI_toInt h]
  exact Int.bmod_eq_of_le (by omega) (by omega)
/-! blits: m cells of v laid into g from b on -/
def rt_put (g : Nat → Int32) (b m : Nat) (v : Nat → Int32) : Nat → Int32 := fun i => if b ≤ i ∧ i < b + m then v (i - b) else g i
theorem rt_put_in {g v : Nat → Int32} {b m i : Nat} (h1 : b ≤ i) (h2 : i < b + m) : rt_put g b m v i = v (i - b) := by
  unfold rt_put; rw [if_pos ⟨h1, h2⟩]
theorem rt_put_out {g v : Nat → Int32} {b m i : Nat} (h : i < b ∨ b + m ≤ i) : rt_put g b m v i = g i := by
  unfold rt_put; rw [if_neg (by omega)]
theorem rt_put_0 (g : Nat → Int32) (b : Nat) (v : Nat → Int32) : rt_put g b 0 v = g := by
  funext i; exact rt_put_out (by omega)
theorem rt_put_at {g v : Nat → Int32} {b m k : Nat} (h : k < m) : rt_put g b m v (b + k) = v k := by
  rw [rt_put_in (by omega) (by omega), Nat.add_sub_cancel_left]
theorem rt_put_s {g v : Nat → Int32} {b m : Nat} {x : Int32} (hx : x = v m) : upd (rt_put g b m v) (b + m) x = rt_put g b (m + 1) v := by
  funext i
  by_cases h : i = b + m
  · subst h
    rw [pk_us, rt_put_at (by omega), hx]
  · rw [pk_un h]
    by_cases h2 : b ≤ i ∧ i < b + m
    · rw [rt_put_in h2.1 h2.2, rt_put_in h2.1 (by omega)]
    · rw [rt_put_out (by omega), rt_put_out (by omega)]
theorem rt_put_k {g v : Nat → Int32} {b m : Nat} (hx : v m = g (b + m)) : rt_put g b m v = rt_put g b (m + 1) v := by
  funext i
  by_cases h : i = b + m
  · subst h
    rw [rt_put_out (by omega), rt_put_at (by omega), hx]
  · by_cases h2 : b ≤ i ∧ i < b + m
    · rw [rt_put_in h2.1 h2.2, rt_put_in h2.1 (by omega)]
    · rw [rt_put_out (by omega), rt_put_out (by omega)]
theorem rt_put_a {g v v' : Nat → Int32} {b m k b' : Nat} (hb : b' = b + m) (h : ∀ j, j < k → v' j = v (m + j)) : rt_put (rt_put g b m v) b' k v' = rt_put g b (m + k) v := by
  subst hb
  funext i
  by_cases h1 : b + m ≤ i ∧ i < b + m + k
  · rw [rt_put_in h1.1 h1.2, rt_put_in (by omega) (by omega), h _ (by omega)]
    congr 1; omega
  · rw [rt_put_out (by omega)]
    by_cases h2 : b ≤ i ∧ i < b + m
    · rw [rt_put_in h2.1 h2.2, rt_put_in h2.1 (by omega)]
    · rw [rt_put_out (by omega), rt_put_out (by omega)]
theorem rt_put_p {g v v' v'' : Nat → Int32} {b m k b' : Nat} (hb : b' = b + k) (h1 : ∀ j, j < k → v' j = v'' j) (h2 : ∀ j, j < m → v j = v'' (k + j)) : rt_put (rt_put g b' m v) b k v' = rt_put g b (k + m) v'' := by
  subst hb
  funext i
  by_cases z : b ≤ i ∧ i < b + k
  · rw [rt_put_in z.1 z.2, rt_put_in z.1 (by omega), h1 _ (by omega)]
  · rw [rt_put_out (by omega)]
    by_cases z2 : b + k ≤ i ∧ i < b + k + m
    · rw [rt_put_in z2.1 z2.2, rt_put_in (by omega) (by omega), h2 _ (by omega)]
      congr 1; omega
    · rw [rt_put_out (by omega), rt_put_out (by omega)]
theorem rt_put_c {g v v' : Nat → Int32} {b m : Nat} (h : ∀ j, j < m → v j = v' j) : rt_put g b m v = rt_put g b m v' := by
  funext i
  by_cases z : b ≤ i ∧ i < b + m
  · rw [rt_put_in z.1 z.2, rt_put_in z.1 z.2, h _ (by omega)]
  · rw [rt_put_out (by omega), rt_put_out (by omega)]
theorem rt_upd_put (g : Nat → Int32) (b : Nat) (x : Int32) : upd g b x = rt_put g b 1 (fun _ => x) := by
  have h := rt_put_s (g := g) (v := fun _ => x) (b := b) (m := 0) (x := x) rfl
  rw [rt_put_0] at h
  exact h
/-! booleans -/
def rt_01 (x : Int32) : Prop := x = 0 ∨ x = 1
def rt_B01 (f : Nat → Int32) : Prop := ∀ i, rt_01 (f i)
theorem rt_01_0 : rt_01 0 := Or.inl rfl
theorem rt_01_1 : rt_01 1 := Or.inr rfl
theorem rt_B_upd {f : Nat → Int32} {k : Nat} {x : Int32} (h : rt_B01 f) (hx : rt_01 x) : rt_B01 (upd f k x) := by
  intro i
  by_cases e : i = k
  · subst e; rw [pk_us]; exact hx
  · rw [pk_un e]; exact h i
theorem rt_B_put {f v : Nat → Int32} {b m : Nat} (h : rt_B01 f) (hv : ∀ j, j < m → rt_01 (v j)) : rt_B01 (rt_put f b m v) := by
  intro i
  by_cases z : b ≤ i ∧ i < b + m
  · rw [rt_put_in z.1 z.2]; exact hv _ (by omega)
  · rw [rt_put_out (by omega)]; exact h i
/-! numbers -/
theorem rt_ix (r c : Nat) : nI r * 16 + nI c = nI (r * 16 + c) := by
  rw [show (16 : Int32) = nI 16 from rfl, pk_mul, nI_add]
theorem rt_dm {a w c : Nat} (hc : c < w) : (a * w + c) / w = a ∧ (a * w + c) % w = c := by
  constructor
  · rw [Nat.add_comm, Nat.add_mul_div_right _ _ (by omega), Nat.div_eq_of_lt hc]; omega
  · rw [Nat.add_comm, Nat.add_mul_mod_self_right, Nat.mod_eq_of_lt hc]
theorem rt_neg {x : Int32} {n : Nat} (hn : n ≤ 16) (h0 : x < 0) (h1 : -nI n ≤ x) : ∃ j, j < n ∧ nI n + x = nI j := by
  have a : x.toInt < 0 := by
    have := Int32.lt_iff_toInt_lt.mp h0
    rwa [show (0 : Int32).toInt = 0 from by decide] at this
  have b : -(n : Int) ≤ x.toInt := by
    have := Int32.le_iff_toInt_le.mp h1
    rwa [sb_negT (by omega)] at this
  refine ⟨((n : Int) + x.toInt).toNat, by omega, ?_⟩
  apply Int32.toInt_inj.mp
  rw [Int32.toInt_add, nI_toInt (by omega), nI_toInt (by omega)]
  rw [Int.bmod_eq_of_le (by omega) (by omega)]
  omega
theorem rt_nneg {x : Int32} {n : Nat} (hn : n ≤ 16) (h0 : ¬ x < 0) : -nI n ≤ x := by
  obtain ⟨j, hj, rfl⟩ := nI_of h0
  rw [Int32.le_iff_toInt_le, sb_negT (by omega), nI_toInt hj]
  omega
theorem rt_nar0 : vp_nar .boolean 0 = 0 := rfl
theorem rt_nar1 : vp_nar .boolean 1 = 1 := rfl
theorem rt_nar {x : Int32} (h : rt_01 x) : vp_nar .boolean x = x := by rcases h with rfl | rfl <;> rfl
theorem rt_nb {x : Int32} (h : rt_01 x) : narrow .boolean (.int x) = .int x := by rcases h with rfl | rfl <;> rfl
theorem rt_us {a : Nat → Int32} {e v v' : Int32} {k : Nat} (he : e = nI k) (hk : k < 2 ^ 31) (hv : v = v') : upd a e.toNatClampNeg v = upd a k v' := by
  subst he; rw [nI_clamp hk, hv]
theorem rt_rd {a : Nat → Int32} {e : Int32} {k : Nat} (he : e = nI k) (hk : k < 2 ^ 31) : a e.toNatClampNeg = a k := by
  subst he; rw [nI_clamp hk]
theorem rt_loop2 {σ τ : Type} (W : Nat → Nat → σ → τ → Prop) (I : Nat → σ → τ → Prop) (e i0 : Nat) (s : σ) (t : τ) (hi : i0 ≤ e) (h0 : I i0 s t) (hx : ∀ n s t, I e s t → W (n + 1) e s t) (hs : ∀ n i s t, i < e → I i s t → (∀ s' t', I (i + 1) s' t' → W n (i + 1) s' t') → W (n + 1) i s t) : ∃ n, W n i0 s t :=
  pk_loop (fun n i (q : σ × τ) => W n i q.1 q.2) (fun i q => I i q.1 q.2) e i0 (s, t) hi h0 (fun n q H => hx n q.1 q.2 H) (fun n i q hi H K => hs n i q.1 q.2 hi H (fun s' t' H' => K (s', t') H'))
theorem rt_loopD2 {σ τ : Type} (W : Nat → Nat → σ → τ → Prop) (I : Nat → σ → τ → Prop) (hx : ∀ n s t, I 0 s t → W (n + 1) 0 s t) (hs : ∀ n i s t, I (i + 1) s t → (∀ s' t', I i s' t' → W n i s' t') → W (n + 1) (i + 1) s t) (e : Nat) (s : σ) (t : τ) (h0 : I e s t) : W (e + 1) e s t :=
  pk_loopD (fun n i (q : σ × τ) => W n i q.1 q.2) (fun i q => I i q.1 q.2) (fun n q H => hx n q.1 q.2 H) (fun n i q H K => hs n i q.1 q.2 H (fun s' t' H' => K (s', t') H')) e (s, t) h0
theorem rt_loop3 {σ τ υ : Type} (W : Nat → Nat → σ → τ → υ → Prop) (I : Nat → σ → τ → υ → Prop) (e i0 : Nat) (s : σ) (t : τ) (u : υ) (hi : i0 ≤ e) (h0 : I i0 s t u) (hx : ∀ n s t u, I e s t u → W (n + 1) e s t u) (hs : ∀ n i s t u, i < e → I i s t u → (∀ s' t' u', I (i + 1) s' t' u' → W n (i + 1) s' t' u') → W (n + 1) i s t u) : ∃ n, W n i0 s t u :=
  pk_loop (fun n i (q : σ × τ × υ) => W n i q.1 q.2.1 q.2.2) (fun i q => I i q.1 q.2.1 q.2.2) e i0 (s, t, u) hi h0 (fun n q H => hx n q.1 q.2.1 q.2.2 H) (fun n i q hi H K => hs n i q.1 q.2.1 q.2.2 hi H (fun s' t' u' H' => K (s', t', u') H'))
