/-! the relation -/
def rt_I (w h s n y x sy sx tp bt : Nat) (al pd sp : Int32) : Prop := 4 ≤ w ∧ w ≤ 16 ∧ 2 ≤ h ∧ h ≤ 8 ∧ s ≤ 16 ∧ n ≤ s ∧ y < h ∧ x < w ∧ tp < bt ∧ bt < h ∧ rt_01 al ∧ rt_01 pd ∧ rt_01 sp ∧ (¬ al = 0 → sy < h ∧ sx < w)
def i_Rel (_ : Nat) (u : SX) (v : SY) : Prop := ∃ (w h s n y x sy sx tp bt : Nat) (al pd sp fn fu lc cl ck : Int32) (g f fc ff sb sbf sc scf rb rbf ls lr ll : Nat → Int32), u = (fn, fu, (nI w), (nI h), (nI s), (nI n), al, (nI tp), (nI bt), (nI y), (nI x), pd, (nI sy), (nI sx), sp, g, f, fc, ff) ∧ v = ((nI w), (nI h), (nI s), (nI n), (nI y), (nI x), (nI sy), (nI sx), (nI tp), (nI bt), al, pd, sp, lc, cl, ck, sb, sbf, sc, scf, rb, rbf, ls, lr, ll) ∧ rt_I w h s n y x sy sx tp bt al pd sp ∧ rt_Mc w h n g sb sc ∧ rt_Mf h n f sbf scf
theorem i_up {k : Nat} {u : SX} {v : SY} (h : i_Rel k u v) : i_Rel (k + 3) u v := h
theorem rl_mk {w h s n y x sy sx tp bt : Nat} {al pd sp fn fu : Int32} {g f fc ff : Nat → Int32} {lc cl ck : Int32} {sb sbf sc scf rb rbf ls lr ll : Nat → Int32} {k : Nat} (I : rt_I w h s n y x sy sx tp bt al pd sp) (C : rt_Mc w h n g sb sc) (F : rt_Mf h n f sbf scf) : i_Rel k (fn, fu, (nI w), (nI h), (nI s), (nI n), al, (nI tp), (nI bt), (nI y), (nI x), pd, (nI sy), (nI sx), sp, g, f, fc, ff) ((nI w), (nI h), (nI s), (nI n), (nI y), (nI x), (nI sy), (nI sx), (nI tp), (nI bt), al, pd, sp, lc, cl, ck, sb, sbf, sc, scf, rb, rbf, ls, lr, ll) :=
  ⟨w, h, s, n, y, x, sy, sx, tp, bt, al, pd, sp, fn, fu, lc, cl, ck, g, f, fc, ff, sb, sbf, sc, scf, rb, rbf, ls, lr, ll, rfl, rfl, I, C, F⟩
theorem rt_I_y {w h s n y x sy sx tp bt : Nat} {al pd sp : Int32} (I : rt_I w h s n y x sy sx tp bt al pd sp) {y' x' : Nat} {pd' : Int32} (hy : y' < h) (hx : x' < w) (hp : rt_01 pd') : rt_I w h s n y' x' sy sx tp bt al pd' sp := by
  obtain ⟨a1, a2, a3, a4, a5, a6, a7, a8, a9, a10, a11, a12, a13, a14⟩ := I
  exact ⟨a1, a2, a3, a4, a5, a6, hy, hx, a9, a10, a11, hp, a13, a14⟩
theorem rt_al1 {al : Int32} (h : rt_01 al) (h0 : ¬ al = 0) : al = 1 := h.resolve_left h0
theorem rt_iy0 (r c : Nat) : 0 + nI r * 16 + nI c = nI (r * 16 + c) := by
  have h := rt_iy 0 r c
  rw [Nat.zero_add] at h
  exact h
theorem rt_z0 (r : Nat) : 0 + nI r = nI r := by
  have h := nI_add 0 r
  rw [Nat.zero_add] at h
  exact h
theorem rl_lf {w h s n y x sy sx tp bt : Nat} {al pd sp fn fu : Int32} {g f fc ff : Nat → Int32} {lc cl ck : Int32} {sb sbf sc scf rb rbf ls lr ll : Nat → Int32} (I : rt_I w h s n y x sy sx tp bt al pd sp) (C : rt_Mc w h n g sb sc) (F : rt_Mf h n f sbf scf) : ∃ (n' y' : Nat) (g' f' sb' sbf' sc' scf' : Nat → Int32), rt_I w h s n' y' x sy sx tp bt al pd sp ∧ rt_Mc w h n' g' sb' sc' ∧ rt_Mf h n' f' sbf' scf' ∧ (∀ post : SX → Prop, post (fn, fu, (nI w), (nI h), (nI s), (nI n'), al, (nI tp), (nI bt), (nI y'), (nI x), pd, (nI sy), (nI sx), sp, g', f', fc, ff) → wpX_lineFeed post (fn, fu, (nI w), (nI h), (nI s), (nI n), al, (nI tp), (nI bt), (nI y), (nI x), pd, (nI sy), (nI sx), sp, g, f, fc, ff)) ∧ (∀ post : SY → Prop, post ((nI w), (nI h), (nI s), (nI n'), (nI y'), (nI x), (nI sy), (nI sx), (nI tp), (nI bt), al, pd, sp, lc, cl, ck, sb', sbf', sc', scf', rb, rbf, ls, lr, ll) → wpY_lineFeed post ((nI w), (nI h), (nI s), (nI n), (nI y), (nI x), (nI sy), (nI sx), (nI tp), (nI bt), al, pd, sp, lc, cl, ck, sb, sbf, sc, scf, rb, rbf, ls, lr, ll)) := by
  have I0 := I
  obtain ⟨a1, a2, a3, a4, a5, a6, a7, a8, a9, a10, a11, a12, a13, a14⟩ := I
  have f4 := F.2.2.2.1
  have f5 := F.2.2.2.2.1
  have f6 := F.2.2.2.2.2
  by_cases hy : y = bt
  · by_cases hal : al = 0
    · by_cases ht : tp = 0
      · by_cases hs : n < s
        · subst ht
          exact ⟨n + 1, y, _, _, _, _, _, _, ⟨a1, a2, a3, a4, a5, by omega, a7, a8, a9, a10, a11, a12, a13, a14⟩, rt_Mc_sg C a2 a4 (by omega) a10 (by omega), rt_Mf_sg F a4 (by omega) a10 (by omega), fun post H => pk_eq y bt (fun _ => rx_scrollG hal rfl hs a5 a10 a4 f4 H) (fun z => absurd hy z), fun post H => pk_eq y bt (fun _ => ry_scrollG hal rfl hs a5 (by omega) f6 H) (fun z => absurd hy z)⟩
        · by_cases h0 : n = 0
          · refine ⟨n, y, rt_shC g (n + tp) (n + bt), rt_shF f (n + tp) (n + bt), sb, sbf, rt_shC sc tp bt, rt_shF scf tp bt, I0, rt_Mc_s0 C a2 a4 (by omega) (by omega) a10, rt_Mf_s0 F a4 (by omega) (by omega) a10, fun post H => pk_eq y bt (fun _ => rx_scrollF hal ht (by omega) (by omega) f4 ?_) (fun z => absurd hy z), fun post H => pk_eq y bt (fun _ => ry_scroll0 hal (Or.inr (by omega)) (by omega) (by omega) a5 f6 H) (fun z => absurd hy z)⟩
            rw [show n + tp = 0 by omega] at H
            exact H
          · subst ht
            exact ⟨n, y, _, _, _, _, _, _, I0, rt_Mc_sf C a2 a4 (by omega) a10 (by omega), rt_Mf_sf F a4 (by omega) a10 (by omega), fun post H => pk_eq y bt (fun _ => rx_scrollF hal rfl (by omega) (by omega) f4 H) (fun z => absurd hy z), fun post H => pk_eq y bt (fun _ => ry_scrollF hal rfl (by omega) (by omega) a5 (by omega) f6 f5 H) (fun z => absurd hy z)⟩
      · exact ⟨n, y, _, _, _, _, _, _, I0, rt_Mc_s0 C a2 a4 (by omega) (Nat.le_of_lt a9) a10, rt_Mf_s0 F a4 (by omega) (Nat.le_of_lt a9) a10, fun post H => pk_eq y bt (fun _ => rx_scroll0 hal (by omega) (by omega) (by omega) f4 H) (fun z => absurd hy z), fun post H => pk_eq y bt (fun _ => ry_scroll0 hal (Or.inl (by omega)) (by omega) (by omega) a5 f6 H) (fun z => absurd hy z)⟩
    · exact ⟨n, y, _, _, _, _, _, _, I0, rt_Mc_s1 C a2 a4 (by omega) (Nat.le_of_lt a9) a10, rt_Mf_s1 F a4 (by omega) (Nat.le_of_lt a9) a10, fun post H => pk_eq y bt (fun _ => rx_scroll1 hal (by omega) (by omega) f4 H) (fun z => absurd hy z), fun post H => pk_eq y bt (fun _ => ry_scroll1 hal (by omega) (by omega) f6 H) (fun z => absurd hy z)⟩
  · by_cases hh : h - 1 ≤ y
    · exact ⟨n, y, g, f, sb, sbf, sc, scf, I0, C, F, fun post H => pk_eq y bt (fun z => absurd z hy) (fun _ => pk_le (h - 1) y (fun _ => H) (fun z => absurd z (by omega)) (pk_sub (b := 1) (by omega))), fun post H => pk_eq y bt (fun z => absurd z hy) (fun _ => pk_le (h - 1) y (fun _ => H) (fun z => absurd z (by omega)) (pk_sub (b := 1) (by omega)))⟩
    · exact ⟨n, y + 1, g, f, sb, sbf, sc, scf, rt_I_y I0 (by omega) a8 a12, C, F, fun post H => pk_eq y bt (fun z => absurd z hy) (fun _ => pk_le (h - 1) y (fun z => absurd z hh) (fun _ => nm_r (nI_1 y) H) (pk_sub (b := 1) (by omega))), fun post H => pk_eq y bt (fun z => absurd z hy) (fun _ => pk_le (h - 1) y (fun z => absurd z hh) (fun _ => nm_r (nI_1 y) H) (pk_sub (b := 1) (by omega)))⟩
theorem rl_p36 {w h s n y x sy sx tp bt : Nat} {al pd sp fn fu : Int32} {g f fc ff : Nat → Int32} {lc cl ck : Int32} {sb sbf sc scf rb rbf ls lr ll : Nat → Int32} (c : Int32) (I : rt_I w h s n y x sy sx tp bt al pd sp) (C : rt_Mc w h n g sb sc) : ∃ (x' : Nat) (pd' : Int32) (g' sc' : Nat → Int32), rt_I w h s n y x' sy sx tp bt al pd' sp ∧ rt_Mc w h n g' sb sc' ∧ (∀ post : SX → Prop, post (fn, fu, (nI w), (nI h), (nI s), (nI n), al, (nI tp), (nI bt), (nI y), (nI x'), pd', (nI sy), (nI sx), sp, g', f, fc, ff) → wX_print_36 post c fn fu (nI w) (nI h) (nI s) (nI n) al (nI tp) (nI bt) (nI y) (nI x) pd (nI sy) (nI sx) sp g f fc ff) ∧ (∀ post : Int32 → SY → Prop, post 1 ((nI w), (nI h), (nI s), (nI n), (nI y), (nI x'), (nI sy), (nI sx), (nI tp), (nI bt), al, pd', sp, lc, cl, ck, sb, sbf, sc', scf, rb, rbf, ls, lr, ll) → wY_put_48 post c (nI w) (nI h) (nI s) (nI n) (nI y) (nI x) (nI sy) (nI sx) (nI tp) (nI bt) al pd sp lc cl ck sb sbf sc scf rb rbf ls lr ll) := by
  have I0 := I
  obtain ⟨a1, a2, a3, a4, a5, a6, a7, a8, a9, a10, a11, a12, a13, a14⟩ := I
  have ew : nI w - 1 = nI (w - 1) := pk_sub (b := 1) (by omega)
  have e0 : (nI n + nI y) * 16 + nI x = nI ((n + y) * 16 + x) := by rw [nI_add, rt_ix]
  have e1 : (24 + nI y) * 16 + nI x = nI ((24 + y) * 16 + x) := by rw [show (24 : Int32) = nI 24 from rfl, nI_add, rt_ix]
  by_cases hal : al = 0
  · have M := rt_Mc_w0 (c := c) C a2 a4 (by omega) a7 (show x < 16 by omega)
    by_cases hx : x = w - 1
    · exact ⟨x, 1, _, _, rt_I_y I0 a7 a8 rt_01_1, M, fun post H => br_t hal ⟨pk_in _ 512 (by omega) e0, nm_r (rt_us e0 (by omega) rfl) (pk_eq x (w - 1) (fun _ => H) (fun z => absurd hx z) rfl ew)⟩, fun post H => br_t hal ⟨pk_in _ 256 (by omega) (rt_iy0 y x), nm_r (rt_us (rt_iy0 y x) (by omega) rfl) (pk_eq x (w - 1) (fun _ => H) (fun z => absurd hx z) rfl ew)⟩⟩
    · exact ⟨x + 1, pd, _, _, rt_I_y I0 a7 (by omega) a12, M, fun post H => br_t hal ⟨pk_in _ 512 (by omega) e0, nm_r (rt_us e0 (by omega) rfl) (pk_eq x (w - 1) (fun z => absurd z hx) (fun _ => nm_r (nI_1 x) H) rfl ew)⟩, fun post H => br_t hal ⟨pk_in _ 256 (by omega) (rt_iy0 y x), nm_r (rt_us (rt_iy0 y x) (by omega) rfl) (pk_eq x (w - 1) (fun z => absurd z hx) (fun _ => nm_r (nI_1 x) H) rfl ew)⟩⟩
  · have M := rt_Mc_w1 (c := c) C a2 a4 (by omega) a7 a8
    by_cases hx : x = w - 1
    · exact ⟨x, 1, _, _, rt_I_y I0 a7 a8 rt_01_1, M, fun post H => br_f hal ⟨pk_in _ 512 (by omega) e1, nm_r (rt_us e1 (by omega) rfl) (pk_eq x (w - 1) (fun _ => H) (fun z => absurd hx z) rfl ew)⟩, fun post H => br_f hal ⟨pk_in _ 256 (by omega) (rt_iy 128 y x), nm_r (rt_us (rt_iy 128 y x) (by omega) rfl) (pk_eq x (w - 1) (fun _ => H) (fun z => absurd hx z) rfl ew)⟩⟩
    · exact ⟨x + 1, pd, _, _, rt_I_y I0 a7 (by omega) a12, M, fun post H => br_f hal ⟨pk_in _ 512 (by omega) e1, nm_r (rt_us e1 (by omega) rfl) (pk_eq x (w - 1) (fun z => absurd z hx) (fun _ => nm_r (nI_1 x) H) rfl ew)⟩, fun post H => br_f hal ⟨pk_in _ 256 (by omega) (rt_iy 128 y x), nm_r (rt_us (rt_iy 128 y x) (by omega) rfl) (pk_eq x (w - 1) (fun z => absurd z hx) (fun _ => nm_r (nI_1 x) H) rfl ew)⟩⟩
