/-! eraseInLine, cell, wrapped, the constructors -/
theorem ry_69 {w h s n y x sy sx tp bt : Nat} {al pd sp lc cl ck : Int32} {sb sbf sc scf rb rbf ls lr ll : Nat → Int32} {post : Int32 → SY → Prop} {J : Int32 → (Nat → Int32) → (Nat → Int32) → (Nat → Int32) → (Nat → Int32) → (Nat → Int32) → (Nat → Int32) → (Nat → Int32) → (Nat → Int32) → (Nat → Int32) → Prop} {x1 : Int32} {b i : Nat} (hb : b + i < 256) (H : J (nI (i + 1)) sb sbf (upd sc (b + i) 32) scf rb rbf ls lr ll) : wY_eraseInLine_69 post J x1 (nI b) (nI i) (nI w) (nI h) (nI s) (nI n) (nI y) (nI x) (nI sy) (nI sx) (nI tp) (nI bt) al pd sp lc cl ck sb sbf sc scf rb rbf ls lr ll :=
  ⟨pk_in (b + i) 256 hb (nI_add b i), nm_r (rt_us (nI_add b i) (by omega) rfl) (nm_r (nI_1 i) H)⟩
theorem ry_er2 {w h s n y x sy sx tp bt : Nat} {al pd sp lc cl ck : Int32} {sb sbf sc scf rb rbf ls lr ll : Nat → Int32} {post : Int32 → SY → Prop} {b : Nat} (hb : b + 16 ≤ 256) (hw : w ≤ 16) (H : wpY_fbase (fun r => vp_in (r + nI y) 16 ∧ ∀ a : Nat → Int32, a = upd scf (r + nI y).toNatClampNeg (vp_nar .boolean 0) → post 1 ((nI w), (nI h), (nI s), (nI n), (nI y), (nI x), (nI sy), (nI sx), (nI tp), (nI bt), al, 0, sp, lc, cl, ck, sb, sbf, (rt_put sc b w (fun _ => 32)), a, rb, rbf, ls, lr, ll)) ((nI w), (nI h), (nI s), (nI n), (nI y), (nI x), (nI sy), (nI sx), (nI tp), (nI bt), al, pd, sp, lc, cl, ck, sb, sbf, (rt_put sc b w (fun _ => 32)), scf, rb, rbf, ls, lr, ll)) : ∃ N, wY_eraseInLine_31 post 2 (nI b) (nI w) (nI h) (nI s) (nI n) (nI y) (nI x) (nI sy) (nI sx) (nI tp) (nI bt) al pd sp lc cl ck N 0 sb sbf sc scf rb rbf ls lr ll := by
  refine pk_loop (fun N i c => wY_eraseInLine_31 post 2 (nI b) (nI w) (nI h) (nI s) (nI n) (nI y) (nI x) (nI sy) (nI sx) (nI tp) (nI bt) al pd sp lc cl ck N (nI i) sb sbf c scf rb rbf ls lr ll) (fun i c => c = rt_put sc b i (fun _ => 32)) w 0 sc (Nat.zero_le _) (rt_put_0 _ _ _).symm ?_ ?_
  · rintro N c rfl
    exact pk_le w w (fun _ => br_f (by decide) H) (fun z => absurd z (by omega))
  · rintro N i c hi rfl K
    exact pk_le w i (fun z => absurd z (by omega)) (fun _ => br_t rfl (ry_69 (by omega) (K _ (rt_put_s rfl))))
theorem ry_er0 {w h s n y x sy sx tp bt : Nat} {al pd sp lc cl ck : Int32} {sb sbf sc scf rb rbf ls lr ll : Nat → Int32} {post : Int32 → SY → Prop} {b : Nat} (hb : b + 16 ≤ 256) (hw : w ≤ 16) (hx : x < w) (H : wpY_fbase (fun r => vp_in (r + nI y) 16 ∧ ∀ a : Nat → Int32, a = upd scf (r + nI y).toNatClampNeg (vp_nar .boolean 0) → post 1 ((nI w), (nI h), (nI s), (nI n), (nI y), (nI x), (nI sy), (nI sx), (nI tp), (nI bt), al, 0, sp, lc, cl, ck, sb, sbf, (rt_put sc (b + x) (w - x) (fun _ => 32)), a, rb, rbf, ls, lr, ll)) ((nI w), (nI h), (nI s), (nI n), (nI y), (nI x), (nI sy), (nI sx), (nI tp), (nI bt), al, pd, sp, lc, cl, ck, sb, sbf, (rt_put sc (b + x) (w - x) (fun _ => 32)), scf, rb, rbf, ls, lr, ll)) : ∃ N, wY_eraseInLine_31 post 0 (nI b) (nI w) (nI h) (nI s) (nI n) (nI y) (nI x) (nI sy) (nI sx) (nI tp) (nI bt) al pd sp lc cl ck N 0 sb sbf sc scf rb rbf ls lr ll := by
  refine pk_loop (fun N i c => wY_eraseInLine_31 post 0 (nI b) (nI w) (nI h) (nI s) (nI n) (nI y) (nI x) (nI sy) (nI sx) (nI tp) (nI bt) al pd sp lc cl ck N (nI i) sb sbf c scf rb rbf ls lr ll) (fun i c => c = rt_put sc (b + x) (i - x) (fun _ => 32)) w 0 sc (Nat.zero_le _) (by rw [Nat.zero_sub, rt_put_0]) ?_ ?_
  · rintro N c rfl
    exact pk_le w w (fun _ => br_f (by decide) H) (fun z => absurd z (by omega))
  · rintro N i c hi rfl K
    refine pk_le w i (fun z => absurd z (by omega)) (fun _ => br_f (by decide) (br_t rfl (pk_le x i (fun z => ry_69 (by omega) (K _ ?_)) (fun z => br_f (by decide) (nm_r (nI_1 i) (K _ ?_))))))
    · have h := rt_put_s (g := sc) (v := fun _ => 32) (b := b + x) (m := i - x) (x := 32) rfl
      rw [show b + x + (i - x) = b + i by omega, show i - x + 1 = i + 1 - x by omega] at h
      exact h
    · rw [show i - x = 0 by omega, show i + 1 - x = 0 by omega]
theorem ry_er1 {w h s n y x sy sx tp bt : Nat} {al pd sp lc cl ck : Int32} {sb sbf sc scf rb rbf ls lr ll : Nat → Int32} {post : Int32 → SY → Prop} {b : Nat} (hb : b + 16 ≤ 256) (hw : w ≤ 16) (hx : x < w) (H : post 1 ((nI w), (nI h), (nI s), (nI n), (nI y), (nI x), (nI sy), (nI sx), (nI tp), (nI bt), al, 0, sp, lc, cl, ck, sb, sbf, (rt_put sc b (x + 1) (fun _ => 32)), scf, rb, rbf, ls, lr, ll)) : ∃ N, wY_eraseInLine_31 post 1 (nI b) (nI w) (nI h) (nI s) (nI n) (nI y) (nI x) (nI sy) (nI sx) (nI tp) (nI bt) al pd sp lc cl ck N 0 sb sbf sc scf rb rbf ls lr ll := by
  refine pk_loop (fun N i c => wY_eraseInLine_31 post 1 (nI b) (nI w) (nI h) (nI s) (nI n) (nI y) (nI x) (nI sy) (nI sx) (nI tp) (nI bt) al pd sp lc cl ck N (nI i) sb sbf c scf rb rbf ls lr ll) (fun i c => c = rt_put sc b (rt_mn i (x + 1)) (fun _ => 32)) w 0 sc (Nat.zero_le _) (by rw [show rt_mn 0 (x + 1) = 0 from if_neg (by omega), rt_put_0]) ?_ ?_
  · rintro N c rfl
    refine pk_le w w (fun _ => br_t rfl ?_) (fun z => absurd z (by omega))
    rw [show rt_mn w (x + 1) = x + 1 from if_pos (by omega)]
    exact H
  · rintro N i c hi rfl K
    refine pk_le w i (fun z => absurd z (by omega)) (fun _ => br_f (by decide) (br_f (by decide) (br_t rfl (pk_lt x i (fun z => nm_r (nI_1 i) (K _ ?_)) (fun z => ry_69 (by omega) (K _ ?_))))))
    · rw [show rt_mn i (x + 1) = x + 1 from if_pos (by omega), show rt_mn (i + 1) (x + 1) = x + 1 from if_pos (by omega)]
    · have h := rt_put_s (g := sc) (v := fun _ => 32) (b := b) (m := i) (x := 32) rfl
      rw [show rt_mn i (x + 1) = i from if_neg (by omega)]
      rw [show rt_mn (i + 1) (x + 1) = i + 1 from by rcases rt_mn_sp (i + 1) (x + 1) with ⟨p, e⟩ | ⟨p, e⟩ <;> omega]
      exact h
theorem rx_eraseRow {w h s n y x sy sx tp bt : Nat} {al pd sp fn fu : Int32} {g f fc ff : Nat → Int32} {P : SX → Prop} {A B : Int32} (r a b : Nat) (hr : (al = 0 ∧ r = n + y) ∨ (¬ al = 0 ∧ r = 24 + y)) (hr2 : r < 32) (hab : a ≤ b) (hb : b ≤ 16) (H : P (fn, fu, (nI w), (nI h), (nI s), (nI n), al, (nI tp), (nI bt), (nI y), (nI x), pd, (nI sy), (nI sx), sp, (rt_put g (r * 16 + a) (b - a) (fun _ => 32)), f, fc, ff)) (eA : A = nI a := by rfl) (eB : B = nI b := by rfl) : wpX_eraseInCursorRow P (fn, fu, (nI w), (nI h), (nI s), (nI n), al, (nI tp), (nI bt), (nI y), (nI x), pd, (nI sy), (nI sx), sp, g, f, fc, ff) A B := by
  subst eA eB
  rcases hr with ⟨hal, rfl⟩ | ⟨hal, rfl⟩
  · exact br_t hal (nm_r (nI_add n y) (rx_clearCells (n + y) a b hr2 hab hb H))
  · exact br_f hal (nm_r (nI_add 24 y) (rx_clearCells (24 + y) a b hr2 hab hb H))
theorem rx_endRow {w h s n y x sy sx tp bt : Nat} {al pd sp fn fu : Int32} {g f fc ff : Nat → Int32} {P : SX → Prop} (r : Nat) (hr : (al = 0 ∧ r = n + y) ∨ (¬ al = 0 ∧ r = 24 + y)) (hr2 : r < 32) (H : P (fn, fu, (nI w), (nI h), (nI s), (nI n), al, (nI tp), (nI bt), (nI y), (nI x), pd, (nI sy), (nI sx), sp, g, (upd f r 0), fc, ff)) : wpX_endCursorRow P (fn, fu, (nI w), (nI h), (nI s), (nI n), al, (nI tp), (nI bt), (nI y), (nI x), pd, (nI sy), (nI sx), sp, g, f, fc, ff) := by
  rcases hr with ⟨hal, rfl⟩ | ⟨hal, rfl⟩
  · exact br_t hal ⟨pk_in (n + y) 32 hr2 (nI_add n y), nm_r (rt_us (nI_add n y) (by omega) rt_nar0) H⟩
  · exact br_f hal ⟨pk_in (24 + y) 32 hr2 (nI_add 24 y), nm_r (rt_us (nI_add 24 y) (by omega) rt_nar0) H⟩
theorem i_vc_eraseInLine {k : Nat} {u : SX} {v : SY} (I : i_Rel k u v) (hk : k + 3 ≤ 1539) (v1 : Int32) : wpX_eraseInLine (fun r u' => wpY_eraseInLine (fun r' v' => r' = r ∧ i_Rel (k + 3) u' v') v v1) u v1 := by
  obtain ⟨w, h, s, n, y, x, sy, sx, tp, bt, al, pd, sp, fn, fu, lc, cl, ck, g, f, fc, ff, sb, sbf, sc, scf, rb, rbf, ls, lr, ll, rfl, rfl, I, C, F⟩ := I
  have I0 := I
  obtain ⟨a1, a2, a3, a4, a5, a6, a7, a8, a9, a10, a11, a12, a13, a14⟩ := I
  have I1 := rt_I_y I0 a7 a8 rt_01_0
  have eb0 : 0 + nI y * 16 = nI (y * 16) := by
    have h := rt_iy0 y 0
    rw [Nat.add_zero, nI_0, Int32.add_zero] at h
    exact h
  have eb1 : 128 + nI y * 16 = nI (128 + y * 16) := by
    have h := rt_iy 128 y 0
    rw [Nat.add_zero, nI_0, Int32.add_zero] at h
    exact h
  by_cases h0 : v1 = 0
  · subst h0
    by_cases hal : al = 0
    · exact br_f (by decide) (br_f (by decide) (br_t rfl (rx_eraseRow (n + y) x w (Or.inl ⟨hal, rfl⟩) (by omega) (by omega) a2 (rx_endRow (n + y) (Or.inl ⟨hal, rfl⟩) (by omega) (br_t rfl (br_t hal (nm_r eb0 (ry_er0 (by omega) a2 a8 (br_t hal ⟨pk_in y 16 (by omega) (rt_z0 y), nm_r (rt_us (rt_z0 y) (by omega) rt_nar0) ⟨rfl, rl_mk I1 (rt_Mc_e0 C a2 a4 (by omega) a7 (by omega)) (rt_Mf_w0 F a4 (by omega) a7 rt_01_0)⟩⟩)))))))))
    · exact br_f (by decide) (br_f (by decide) (br_t rfl (rx_eraseRow (24 + y) x w (Or.inr ⟨hal, rfl⟩) (by omega) (by omega) a2 (rx_endRow (24 + y) (Or.inr ⟨hal, rfl⟩) (by omega) (br_t rfl (br_f hal (nm_r eb1 (ry_er0 (by omega) a2 a8 (br_f hal ⟨pk_in (8 + y) 16 (by omega) (nI_add 8 y), nm_r (rt_us (nI_add 8 y) (by omega) rt_nar0) ⟨rfl, rl_mk I1 (rt_Mc_e1 C a2 a4 (by omega) a7 (by omega)) (rt_Mf_w1 F a4 (by omega) a7 rt_01_0)⟩⟩)))))))))
  by_cases h1 : v1 = 1
  · subst h1
    by_cases hal : al = 0
    · have M := rt_Mc_e0 (a := 0) (m := x + 1) C a2 a4 (by omega) a7 (by omega)
      rw [Nat.add_zero] at M
      exact br_f (by decide) (br_f (by decide) (br_f (by decide) (br_t rfl (rx_eraseRow (n + y) 0 (x + 1) (Or.inl ⟨hal, rfl⟩) (by omega) (by omega) (by omega) (br_f (by decide) (br_t rfl (br_t hal (nm_r eb0 (ry_er1 (by omega) a2 a8 ⟨rfl, rl_mk I1 M F⟩))))) rfl (nI_1 x)))))
    · have M := rt_Mc_e1 (a := 0) (m := x + 1) C a2 a4 (by omega) a7 (by omega)
      rw [Nat.add_zero] at M
      exact br_f (by decide) (br_f (by decide) (br_f (by decide) (br_t rfl (rx_eraseRow (24 + y) 0 (x + 1) (Or.inr ⟨hal, rfl⟩) (by omega) (by omega) (by omega) (br_f (by decide) (br_t rfl (br_f hal (nm_r eb1 (ry_er1 (by omega) a2 a8 ⟨rfl, rl_mk I1 M F⟩))))) rfl (nI_1 x)))))
  by_cases h2 : v1 = 2
  · subst h2
    by_cases hal : al = 0
    · have M := rt_Mc_e0 (a := 0) (m := w) C a2 a4 (by omega) a7 (by omega)
      rw [Nat.add_zero] at M
      exact br_f (by decide) (br_f (by decide) (br_f (by decide) (br_f (by decide) (br_t rfl (rx_eraseRow (n + y) 0 w (Or.inl ⟨hal, rfl⟩) (by omega) (by omega) a2 (rx_endRow (n + y) (Or.inl ⟨hal, rfl⟩) (by omega) (br_f (by decide) (br_f (by decide) (br_t rfl (br_t hal (nm_r eb0 (ry_er2 (by omega) a2 (br_t hal ⟨pk_in y 16 (by omega) (rt_z0 y), nm_r (rt_us (rt_z0 y) (by omega) rt_nar0) ⟨rfl, rl_mk I1 M (rt_Mf_w0 F a4 (by omega) a7 rt_01_0)⟩⟩)))))))))))))
    · have M := rt_Mc_e1 (a := 0) (m := w) C a2 a4 (by omega) a7 (by omega)
      rw [Nat.add_zero] at M
      exact br_f (by decide) (br_f (by decide) (br_f (by decide) (br_f (by decide) (br_t rfl (rx_eraseRow (24 + y) 0 w (Or.inr ⟨hal, rfl⟩) (by omega) (by omega) a2 (rx_endRow (24 + y) (Or.inr ⟨hal, rfl⟩) (by omega) (br_f (by decide) (br_f (by decide) (br_t rfl (br_f hal (nm_r eb1 (ry_er2 (by omega) a2 (br_f hal ⟨pk_in (8 + y) 16 (by omega) (nI_add 8 y), nm_r (rt_us (nI_add 8 y) (by omega) rt_nar0) ⟨rfl, rl_mk I1 M (rt_Mf_w1 F a4 (by omega) a7 rt_01_0)⟩⟩)))))))))))))
  have R : wpY_eraseInLine (fun r' v' => r' = 0 ∧ i_Rel (k + 3) (fn, fu, (nI w), (nI h), (nI s), (nI n), al, (nI tp), (nI bt), (nI y), (nI x), pd, (nI sy), (nI sx), sp, g, f, fc, ff) v') ((nI w), (nI h), (nI s), (nI n), (nI y), (nI x), (nI sy), (nI sx), (nI tp), (nI bt), al, pd, sp, lc, cl, ck, sb, sbf, sc, scf, rb, rbf, ls, lr, ll) v1 := br_f h0 (br_f h1 (br_f h2 ⟨rfl, rl_mk I0 C F⟩))
  exact br_c (fun _ => R) (fun _ => br_c (fun _ => R) (fun _ => br_f h0 (br_f h1 (br_f h2 trivial))))
