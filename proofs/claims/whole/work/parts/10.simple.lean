/-! erase, region, cursor, alternate screen, cell, wrapped -/
theorem rt_fb {x : Int32} (h : rt_01 x) : fits .boolean (.int x) = true := by rcases h with rfl | rfl <;> first | rfl | decide
theorem rx_move {w h s n y x sy sx tp bt : Nat} {al pd sp fn fu : Int32} {g f fc ff : Nat → Int32} {P : SX → Prop} {A B : Int32} (H : P (fn, fu, (nI w), (nI h), (nI s), (nI n), al, (nI tp), (nI bt), A, B, 0, (nI sy), (nI sx), sp, g, f, fc, ff)) : wpX_moveCursor P (fn, fu, (nI w), (nI h), (nI s), (nI n), al, (nI tp), (nI bt), (nI y), (nI x), pd, (nI sy), (nI sx), sp, g, f, fc, ff) A B := H
theorem i_vc_setScrollRegion {k : Nat} {u : SX} {v : SY} (I : i_Rel k u v) (hk : k + 3 ≤ 1539) (v1 : Int32) (v2 : Int32) : wpX_setScrollRegion (fun r u' => wpY_setScrollRegion (fun r' v' => r' = r ∧ i_Rel (k + 3) u' v') v v1 v2) u v1 v2 := by
  obtain ⟨w, h, s, n, y, x, sy, sx, tp, bt, al, pd, sp, fn, fu, lc, cl, ck, g, f, fc, ff, sb, sbf, sc, scf, rb, rbf, ls, lr, ll, rfl, rfl, I, C, F⟩ := I
  have I0 := I
  obtain ⟨a1, a2, a3, a4, a5, a6, a7, a8, a9, a10, a11, a12, a13, a14⟩ := I
  by_cases h1 : v1 < 0
  · exact br_t h1 (br_t h1 ⟨rfl, rl_mk I0 C F⟩)
  by_cases h2 : v2 ≤ v1
  · exact br_f h1 (br_t h2 (br_f h1 (br_t h2 ⟨rfl, rl_mk I0 C F⟩)))
  have e1 : nI h - 1 = nI (h - 1) := pk_sub (b := 1) (by omega)
  obtain ⟨a, ha, rfl⟩ := nI_of h1
  have h3 : ¬ v2 < 0 := fun z => h2 (Int32.le_trans (Int32.le_of_lt z) (nI_pos' ha))
  obtain ⟨b, hb, rfl⟩ := nI_of h3
  have hab : a < b := by
    rw [nI_leI hb ha] at h2; omega
  refine br_f h1 (br_f h2 (pk_lt b h (fun z => rx_move (br_f h1 (br_f h2 (pk_le b (h - 1) (fun _ => ⟨rfl, rl_mk (y := 0) (x := 0) ⟨a1, a2, a3, a4, a5, a6, by omega, by omega, hab, z, a11, rt_01_0, a13, a14⟩ C F⟩) (fun z => absurd z (by omega)) rfl e1)))) (fun z => br_f h1 (br_f h2 (pk_le b (h - 1) (fun z => absurd z (by omega)) (fun _ => ⟨rfl, rl_mk I0 C F⟩) rfl e1)))))
theorem i_vc_setCursor {k : Nat} {u : SX} {v : SY} (I : i_Rel k u v) (hk : k + 3 ≤ 1539) (v1 : Int32) (v2 : Int32) : wpX_setCursor (fun r u' => wpY_setCursor (fun r' v' => r' = r ∧ i_Rel (k + 3) u' v') v v1 v2) u v1 v2 := by
  obtain ⟨w, h, s, n, y, x, sy, sx, tp, bt, al, pd, sp, fn, fu, lc, cl, ck, g, f, fc, ff, sb, sbf, sc, scf, rb, rbf, ls, lr, ll, rfl, rfl, I, C, F⟩ := I
  have I0 := I
  obtain ⟨a1, a2, a3, a4, a5, a6, a7, a8, a9, a10, a11, a12, a13, a14⟩ := I
  have e1 : nI h - 1 = nI (h - 1) := pk_sub (b := 1) (by omega)
  have e2 : nI w - 1 = nI (w - 1) := pk_sub (b := 1) (by omega)
  by_cases h1 : v1 < 0
  · exact br_t h1 (br_t h1 ⟨rfl, rl_mk I0 C F⟩)
  obtain ⟨a, ha, rfl⟩ := nI_of h1
  by_cases h2 : h ≤ a
  · exact br_f h1 (pk_le h a (fun _ => br_f h1 (pk_lt (h - 1) a (fun _ => ⟨rfl, rl_mk I0 C F⟩) (fun z => absurd z (by omega)) e1)) (fun z => absurd z (by omega)))
  by_cases h3 : v2 < 0
  · exact br_f h1 (pk_le h a (fun z => absurd z h2) (fun _ => br_t h3 (br_f h1 (pk_lt (h - 1) a (fun z => absurd z (by omega)) (fun _ => br_t h3 ⟨rfl, rl_mk I0 C F⟩) e1))))
  obtain ⟨b, hb, rfl⟩ := nI_of h3
  refine br_f h1 (pk_le h a (fun z => absurd z h2) (fun _ => br_f h3 (pk_lt b w (fun z => rx_move ?_) (fun z => ?_))))
  · exact br_f h1 (pk_lt (h - 1) a (fun z => absurd z (by omega)) (fun _ => br_f h3 (pk_le b (w - 1) (fun _ => ⟨rfl, rl_mk (rt_I_y I0 (by omega) z rt_01_0) C F⟩) (fun z => absurd z (by omega)) rfl e2)) e1)
  · exact br_f h1 (pk_lt (h - 1) a (fun z => absurd z (by omega)) (fun _ => br_f h3 (pk_le b (w - 1) (fun z => absurd z (by omega)) (fun _ => ⟨rfl, rl_mk I0 C F⟩) rfl e2)) e1)
theorem i_vc_leaveAlt {k : Nat} {u : SX} {v : SY} (I : i_Rel k u v) (hk : k + 3 ≤ 1539) : wpX_leaveAlt (fun r u' => wpY_leaveAlt (fun r' v' => r' = r ∧ i_Rel (k + 3) u' v') v) u := by
  obtain ⟨w, h, s, n, y, x, sy, sx, tp, bt, al, pd, sp, fn, fu, lc, cl, ck, g, f, fc, ff, sb, sbf, sc, scf, rb, rbf, ls, lr, ll, rfl, rfl, I, C, F⟩ := I
  have I0 := I
  obtain ⟨a1, a2, a3, a4, a5, a6, a7, a8, a9, a10, a11, a12, a13, a14⟩ := I
  have e1 : nI h - 1 = nI (h - 1) := pk_sub (b := 1) (by omega)
  by_cases hal : al = 0
  · exact br_t hal (br_t hal ⟨rfl, rl_mk I0 C F⟩)
  · have a15 := a14 hal
    exact br_f hal ⟨rt_nb a13, rt_fb a13, nm_r e1 (br_f hal ⟨rt_nb a13, rt_fb a13, nm_r e1 ⟨rfl, rl_mk (tp := 0) (bt := h - 1) ⟨a1, a2, a3, a4, a5, a6, a15.1, a15.2, by omega, by omega, rt_01_0, a13, a13, fun z => absurd rfl z⟩ C F⟩⟩)⟩
theorem ry_ea {w h s n y x sy sx tp bt : Nat} {al pd sp lc cl ck : Int32} {sb sbf sc scf rb rbf ls lr ll : Nat → Int32} {post : Int32 → SY → Prop} (H : post 1 ((nI w), (nI h), (nI s), (nI n), 0, 0, (nI sy), (nI sx), 0, (nI h - 1), 1, 0, sp, lc, cl, ck, sb, sbf, (rt_put sc 128 128 (fun _ => 32)), (rt_put scf 8 8 (fun _ => 0)), rb, rbf, ls, lr, ll)) : ∃ N, wY_enterAlt_37 post (nI w) (nI h) (nI s) (nI n) (nI y) (nI x) (nI sy) (nI sx) (nI tp) (nI bt) al pd sp lc cl ck N 128 sb sbf sc scf rb rbf ls lr ll := by
  refine pk_loop (fun N i c => wY_enterAlt_37 post (nI w) (nI h) (nI s) (nI n) (nI y) (nI x) (nI sy) (nI sx) (nI tp) (nI bt) al pd sp lc cl ck N (nI i) sb sbf c scf rb rbf ls lr ll) (fun i c => 128 ≤ i ∧ c = rt_put sc 128 (i - 128) (fun _ => 32)) 256 128 sc (by omega) ⟨Nat.le_refl _, by rw [Nat.sub_self, rt_put_0]⟩ ?_ ?_
  · rintro N c ⟨-, rfl⟩
    refine pk_le 256 256 (fun _ => ?_) (fun z => absurd z (by omega))
    refine pk_loop (fun N i c => wY_enterAlt_61 post (nI w) (nI h) (nI s) (nI n) (nI y) (nI x) (nI sy) (nI sx) (nI tp) (nI bt) al pd sp lc cl ck N (nI i) sb sbf (rt_put sc 128 128 (fun _ => 32)) c rb rbf ls lr ll) (fun i c => 8 ≤ i ∧ c = rt_put scf 8 (i - 8) (fun _ => 0)) 16 8 scf (by omega) ⟨Nat.le_refl _, by rw [Nat.sub_self, rt_put_0]⟩ ?_ ?_
    · rintro N c ⟨-, rfl⟩
      exact pk_le 16 16 (fun _ => nm_e H) (fun z => absurd z (by omega))
    · rintro N i c hi ⟨ha, rfl⟩ K
      have e : upd (rt_put scf 8 (i - 8) (fun _ => 0)) i 0 = rt_put scf 8 (i + 1 - 8) (fun _ => 0) := by
        have h := rt_put_s (g := scf) (v := fun _ => 0) (b := 8) (m := i - 8) (x := 0) rfl
        rw [show 8 + (i - 8) = i by omega, show i - 8 + 1 = i + 1 - 8 by omega] at h
        exact h
      exact pk_le 16 i (fun z => absurd z (by omega)) (fun _ => ⟨pk_in i 16 (by omega), nm_r ((rt_us rfl (by omega) rt_nar0).trans e) (nm_r (nI_1 i) (K _ ⟨by omega, rfl⟩))⟩)
  · rintro N i c hi ⟨ha, rfl⟩ K
    have e : upd (rt_put sc 128 (i - 128) (fun _ => 32)) i 32 = rt_put sc 128 (i + 1 - 128) (fun _ => 32) := by
      have h := rt_put_s (g := sc) (v := fun _ => 32) (b := 128) (m := i - 128) (x := 32) rfl
      rw [show 128 + (i - 128) = i by omega, show i - 128 + 1 = i + 1 - 128 by omega] at h
      exact h
    exact pk_le 256 i (fun z => absurd z (by omega)) (fun _ => ⟨pk_in i 256 (by omega), nm_r ((rt_us rfl (by omega) rfl).trans e) (nm_r (nI_1 i) (K _ ⟨by omega, rfl⟩))⟩)
theorem i_vc_enterAlt {k : Nat} {u : SX} {v : SY} (I : i_Rel k u v) (hk : k + 3 ≤ 1539) : wpX_enterAlt (fun r u' => wpY_enterAlt (fun r' v' => r' = r ∧ i_Rel (k + 3) u' v') v) u := by
  obtain ⟨w, h, s, n, y, x, sy, sx, tp, bt, al, pd, sp, fn, fu, lc, cl, ck, g, f, fc, ff, sb, sbf, sc, scf, rb, rbf, ls, lr, ll, rfl, rfl, I, C, F⟩ := I
  have I0 := I
  obtain ⟨a1, a2, a3, a4, a5, a6, a7, a8, a9, a10, a11, a12, a13, a14⟩ := I
  have e1 : nI h - 1 = nI (h - 1) := pk_sub (b := 1) (by omega)
  by_cases hal : al = 0
  · refine br_t hal ⟨rt_nb a12, rt_fb a12, rx_clearRows 24 32 (by omega) (by omega) (rx_move (nm_r e1 (br_t hal ⟨rt_nb a12, rt_fb a12, ry_ea ⟨rfl, ?_⟩⟩)))⟩
    rw [e1]
    exact rl_mk (y := 0) (x := 0) (tp := 0) (bt := h - 1) (al := 1) (sy := y) (sx := x) ⟨a1, a2, a3, a4, a5, a6, by omega, by omega, by omega, by omega, rt_01_1, rt_01_0, a12, fun _ => ⟨a7, a8⟩⟩ (rt_Mc_ea C a2 a4 (by omega)) (rt_Mf_ea F a4 (by omega))
  · exact br_f hal (br_f hal ⟨rfl, rl_mk I0 C F⟩)
theorem i_vc_cursorRow {k : Nat} {u : SX} {v : SY} (I : i_Rel k u v) (hk : k + 3 ≤ 1539) : wpX_cursorRow (fun r => wpY_cursorRow (fun r' => r' = r ∧ i_Rel (k + 3) u v) v) u := by
  obtain ⟨w, h, s, n, y, x, sy, sx, tp, bt, al, pd, sp, fn, fu, lc, cl, ck, g, f, fc, ff, sb, sbf, sc, scf, rb, rbf, ls, lr, ll, rfl, rfl, I, C, F⟩ := I
  exact ⟨rfl, rl_mk I C F⟩
theorem i_vc_cursorCol {k : Nat} {u : SX} {v : SY} (I : i_Rel k u v) (hk : k + 3 ≤ 1539) : wpX_cursorCol (fun r => wpY_cursorCol (fun r' => r' = r ∧ i_Rel (k + 3) u v) v) u := by
  obtain ⟨w, h, s, n, y, x, sy, sx, tp, bt, al, pd, sp, fn, fu, lc, cl, ck, g, f, fc, ff, sb, sbf, sc, scf, rb, rbf, ls, lr, ll, rfl, rfl, I, C, F⟩ := I
  exact ⟨rfl, rl_mk I C F⟩
