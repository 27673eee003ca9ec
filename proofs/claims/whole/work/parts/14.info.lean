/-! info, lineLength, lineChar -/
theorem rt_I_mr {w h s n y x sy sx tp bt : Nat} {al pd sp : Int32} (I : rt_I w h s n y x sy sx tp bt al pd sp) : rt_mr al y sy < h ∧ rt_mr al x sx < w := by
  obtain ⟨a1, a2, a3, a4, a5, a6, a7, a8, a9, a10, a11, a12, a13, a14⟩ := I
  unfold rt_mr
  by_cases hal : al = 0
  · rw [if_pos hal, if_pos hal]; exact ⟨a7, a8⟩
  · rw [if_neg hal, if_neg hal]; exact a14 hal
theorem i_vc_info {k : Nat} {u : SX} {v : SY} (I : i_Rel k u v) (hk : k + 3 ≤ 1539) (v1 : Int32) : wpX_info (fun r => wpY_info (fun r' v' => r' = r ∧ i_Rel (k + 3) u v') v v1) u v1 := by
  obtain ⟨w, h, s, n, y, x, sy, sx, tp, bt, al, pd, sp, fn, fu, lc, cl, ck, g, f, fc, ff, sb, sbf, sc, scf, rb, rbf, ls, lr, ll, rfl, rfl, I, C, F⟩ := I
  have I0 := I
  have hm := rt_I_mr I
  obtain ⟨a1, a2, a3, a4, a5, a6, a7, a8, a9, a10, a11, a12, a13, a14⟩ := I
  by_cases h1 : v1 < 0
  · exact br_t h1 (br_t h1 ⟨rfl, rl_mk I0 C F⟩)
  by_cases h2 : 12 < v1
  · exact br_f h1 (br_t h2 (br_f h1 (br_t h2 ⟨rfl, rl_mk I0 C F⟩)))
  obtain ⟨j, hj, rfl⟩ := nI_of2 (M := 12) (n := 12) (by decide) h1 (Int32.not_lt.mp h2)
  have hj' : j = 0 ∨ j = 1 ∨ j = 2 ∨ j = 3 ∨ j = 4 ∨ j = 5 ∨ j = 6 ∨ j = 7 ∨ j = 8 ∨ j = 9 ∨ j = 10 ∨ j = 11 ∨ j = 12 := by omega
  rcases hj' with rfl | rfl | rfl | rfl | rfl | rfl | rfl | rfl | rfl | rfl | rfl | rfl | rfl
  · exact br_f h1 (br_f h2 (br_t rfl (br_f h1 (br_f h2 (br_t rfl (⟨rfl, rl_mk I0 C F⟩))))))
  · exact br_f h1 (br_f h2 (br_f (by decide) (br_t rfl (br_f h1 (br_f h2 (br_f (by decide) (br_t rfl (⟨rfl, rl_mk I0 C F⟩))))))))
  · exact br_f h1 (br_f h2 (br_f (by decide) (br_f (by decide) (br_t rfl (br_f h1 (br_f h2 (br_f (by decide) (br_f (by decide) (br_t rfl (⟨rfl, rl_mk I0 C F⟩))))))))))
  · exact br_f h1 (br_f h2 (br_f (by decide) (br_f (by decide) (br_f (by decide) (br_t rfl (br_f h1 (br_f h2 (br_f (by decide) (br_f (by decide) (br_f (by decide) (br_t rfl (⟨rfl, rl_mk I0 C F⟩))))))))))))
  · exact br_f h1 (br_f h2 (br_f (by decide) (br_f (by decide) (br_f (by decide) (br_f (by decide) (br_t rfl (br_c (fun z => br_f h1 (br_f h2 (br_f (by decide) (br_f (by decide) (br_f (by decide) (br_f (by decide) (br_t rfl (br_t z ⟨rfl, rl_mk I0 C F⟩)))))))) (fun z => br_f h1 (br_f h2 (br_f (by decide) (br_f (by decide) (br_f (by decide) (br_f (by decide) (br_t rfl (br_f z ⟨rfl, rl_mk I0 C F⟩)))))))))))))))
  · exact br_f h1 (br_f h2 (br_f (by decide) (br_f (by decide) (br_f (by decide) (br_f (by decide) (br_f (by decide) (br_t rfl (br_f h1 (br_f h2 (br_f (by decide) (br_f (by decide) (br_f (by decide) (br_f (by decide) (br_f (by decide) (br_t rfl (⟨rfl, rl_mk I0 C F⟩))))))))))))))))
  · exact br_f h1 (br_f h2 (br_f (by decide) (br_f (by decide) (br_f (by decide) (br_f (by decide) (br_f (by decide) (br_f (by decide) (br_t rfl (br_f h1 (br_f h2 (br_f (by decide) (br_f (by decide) (br_f (by decide) (br_f (by decide) (br_f (by decide) (br_f (by decide) (br_t rfl (⟨rfl, rl_mk I0 C F⟩))))))))))))))))))
  · exact br_f h1 (br_f h2 (br_f (by decide) (br_f (by decide) (br_f (by decide) (br_f (by decide) (br_f (by decide) (br_f (by decide) (br_f (by decide) (br_t rfl (br_c (fun z => br_f h1 (br_f h2 (br_f (by decide) (br_f (by decide) (br_f (by decide) (br_f (by decide) (br_f (by decide) (br_f (by decide) (br_f (by decide) (br_t rfl (br_t z ⟨rfl, rl_mk I0 C F⟩))))))))))) (fun z => br_f h1 (br_f h2 (br_f (by decide) (br_f (by decide) (br_f (by decide) (br_f (by decide) (br_f (by decide) (br_f (by decide) (br_f (by decide) (br_t rfl (br_f z ⟨rfl, rl_mk I0 C F⟩)))))))))))))))))))))
  · exact br_f h1 (br_f h2 (br_f (by decide) (br_f (by decide) (br_f (by decide) (br_f (by decide) (br_f (by decide) (br_f (by decide) (br_f (by decide) (br_f (by decide) (br_t rfl (rx_lineCount (by omega) a2 hm.1 (br_f h1 (br_f h2 (br_f (by decide) (br_f (by decide) (br_f (by decide) (br_f (by decide) (br_f (by decide) (br_f (by decide) (br_f (by decide) (br_f (by decide) (br_t rfl (ry_computeLines C F (by omega) a4 (by omega) a2 hm.1 (fun ls' lr' ll' _ => ⟨rfl, rl_mk I0 C F⟩))))))))))))))))))))))))
  · exact br_f h1 (br_f h2 (br_f (by decide) (br_f (by decide) (br_f (by decide) (br_f (by decide) (br_f (by decide) (br_f (by decide) (br_f (by decide) (br_f (by decide) (br_f (by decide) (br_t rfl (rx_cursorLine (by omega) (br_f h1 (br_f h2 (br_f (by decide) (br_f (by decide) (br_f (by decide) (br_f (by decide) (br_f (by decide) (br_f (by decide) (br_f (by decide) (br_f (by decide) (br_f (by decide) (br_t rfl (ry_computeLines C F (by omega) a4 (by omega) a2 hm.1 (fun ls' lr' ll' _ => ⟨rfl, rl_mk I0 C F⟩))))))))))))))))))))))))))
  · exact br_f h1 (br_f h2 (br_f (by decide) (br_f (by decide) (br_f (by decide) (br_f (by decide) (br_f (by decide) (br_f (by decide) (br_f (by decide) (br_f (by decide) (br_f (by decide) (br_f (by decide) (br_t rfl (rx_cursorOffset (by omega) hm.1 (br_f h1 (br_f h2 (br_f (by decide) (br_f (by decide) (br_f (by decide) (br_f (by decide) (br_f (by decide) (br_f (by decide) (br_f (by decide) (br_f (by decide) (br_f (by decide) (br_f (by decide) (br_t rfl (ry_computeLines C F (by omega) a4 (by omega) a2 hm.1 (fun ls' lr' ll' _ => ⟨rfl, rl_mk I0 C F⟩))))))))))))))))))))))))))))
  · exact br_f h1 (br_f h2 (br_f (by decide) (br_f (by decide) (br_f (by decide) (br_f (by decide) (br_f (by decide) (br_f (by decide) (br_f (by decide) (br_f (by decide) (br_f (by decide) (br_f (by decide) (br_f (by decide) (br_t rfl (br_c (fun z => br_f h1 (br_f h2 (br_f (by decide) (br_f (by decide) (br_f (by decide) (br_f (by decide) (br_f (by decide) (br_f (by decide) (br_f (by decide) (br_f (by decide) (br_f (by decide) (br_f (by decide) (br_f (by decide) (br_t rfl (br_t z ⟨rfl, rl_mk I0 C F⟩))))))))))))))) (fun z => br_f h1 (br_f h2 (br_f (by decide) (br_f (by decide) (br_f (by decide) (br_f (by decide) (br_f (by decide) (br_f (by decide) (br_f (by decide) (br_f (by decide) (br_f (by decide) (br_f (by decide) (br_f (by decide) (br_t rfl (br_f z ⟨rfl, rl_mk I0 C F⟩)))))))))))))))))))))))))))))
  · exact br_f h1 (br_f h2 (br_f (by decide) (br_f (by decide) (br_f (by decide) (br_f (by decide) (br_f (by decide) (br_f (by decide) (br_f (by decide) (br_f (by decide) (br_f (by decide) (br_f (by decide) (br_f (by decide) (br_f (by decide) (br_t rfl (br_c (fun z => br_f h1 (br_f h2 (br_f (by decide) (br_f (by decide) (br_f (by decide) (br_f (by decide) (br_f (by decide) (br_f (by decide) (br_f (by decide) (br_f (by decide) (br_f (by decide) (br_f (by decide) (br_f (by decide) (br_f (by decide) (br_t rfl (br_t z ⟨rfl, rl_mk I0 C F⟩)))))))))))))))) (fun z => br_f h1 (br_f h2 (br_f (by decide) (br_f (by decide) (br_f (by decide) (br_f (by decide) (br_f (by decide) (br_f (by decide) (br_f (by decide) (br_f (by decide) (br_f (by decide) (br_f (by decide) (br_f (by decide) (br_f (by decide) (br_t rfl (br_f z ⟨rfl, rl_mk I0 C F⟩)))))))))))))))))))))))))))))))
theorem i_vc_lineLength {k : Nat} {u : SX} {v : SY} (I : i_Rel k u v) (hk : k + 3 ≤ 1539) (v1 : Int32) : wpX_lineLength (fun r => wpY_lineLength (fun r' v' => r' = r ∧ i_Rel (k + 3) u v') v v1) u v1 := by
  obtain ⟨w, h, s, n, y, x, sy, sx, tp, bt, al, pd, sp, fn, fu, lc, cl, ck, g, f, fc, ff, sb, sbf, sc, scf, rb, rbf, ls, lr, ll, rfl, rfl, I, C, F⟩ := I
  have I0 := I
  have hm := rt_I_mr I
  obtain ⟨a1, a2, a3, a4, a5, a6, a7, a8, a9, a10, a11, a12, a13, a14⟩ := I
  have M := rt_N_M (g := g) (f := f) (w := w) (T := n + h) (ci := n + rt_mr al y sy) (by omega) (by omega)
  have hle := rt_L_le f (n + h - 1)
  have hN := M.2.1
  by_cases h1 : v1 < 0
  · refine br_t h1 ?_
    unfold wpY_lineLength
    exact ry_computeLines C F (by omega) a4 (by omega) a2 hm.1 (fun ls' lr' ll' _ => br_t h1 ⟨rfl, rl_mk I0 C F⟩)
  obtain ⟨i, hi, rfl⟩ := nI_of h1
  refine br_f h1 (rx_lineCount (by omega) a2 hm.1 (pk_lt i (rt_N g f w (n + h) (n + rt_mr al y sy)) (fun z => rx_lineStart i (by omega) (by omega) (by omega) (rx_textLength i (by omega) (by omega) (by omega) a2 (by omega) ?_)) (fun z => ?_)))
  · unfold wpY_lineLength
    refine ry_computeLines C F (by omega) a4 (by omega) a2 hm.1 (fun ls' lr' ll' hl => br_f h1 (pk_lt i (rt_N g f w (n + h) (n + rt_mr al y sy)) (fun _ => ⟨pk_in i 24 (by omega), ?_, rl_mk I0 C F⟩) (fun z => absurd z (by omega))))
    rw [rt_rd (a := ll') rfl (by omega)]
    exact (hl i (by omega)).2
  · unfold wpY_lineLength
    exact ry_computeLines C F (by omega) a4 (by omega) a2 hm.1 (fun ls' lr' ll' hl => br_f h1 (pk_lt i (rt_N g f w (n + h) (n + rt_mr al y sy)) (fun z => absurd z (by omega)) (fun _ => ⟨rfl, rl_mk I0 C F⟩)))
theorem i_vc_lineChar {k : Nat} {u : SX} {v : SY} (I : i_Rel k u v) (hk : k + 3 ≤ 1539) (v1 : Int32) (v2 : Int32) : wpX_lineChar (fun r => wpY_lineChar (fun r' v' => r' = r ∧ i_Rel (k + 3) u v') v v1 v2) u v1 v2 := by
  obtain ⟨w, h, s, n, y, x, sy, sx, tp, bt, al, pd, sp, fn, fu, lc, cl, ck, g, f, fc, ff, sb, sbf, sc, scf, rb, rbf, ls, lr, ll, rfl, rfl, I, C, F⟩ := I
  have I0 := I
  have hm := rt_I_mr I
  obtain ⟨a1, a2, a3, a4, a5, a6, a7, a8, a9, a10, a11, a12, a13, a14⟩ := I
  have M := rt_N_M (g := g) (f := f) (w := w) (T := n + h) (ci := n + rt_mr al y sy) (by omega) (by omega)
  have hle := rt_L_le f (n + h - 1)
  have hN := M.2.1
  by_cases h1 : v1 < 0
  · refine br_t h1 ?_
    unfold wpY_lineChar
    exact ry_computeLines C F (by omega) a4 (by omega) a2 hm.1 (fun ls' lr' ll' _ => br_t h1 ⟨rfl, rl_mk I0 C F⟩)
  obtain ⟨i, hi, rfl⟩ := nI_of h1
  refine br_f h1 (rx_lineCount (by omega) a2 hm.1 (pk_lt i (rt_N g f w (n + h) (n + rt_mr al y sy)) (fun z => rx_lineStart i (by omega) (by omega) (by omega) ?_) (fun z => ?_)))
  · by_cases h2 : v2 < 0
    · refine br_t h2 ?_
      unfold wpY_lineChar
      exact ry_computeLines C F (by omega) a4 (by omega) a2 hm.1 (fun ls' lr' ll' _ => br_f h1 (pk_le (rt_N g f w (n + h) (n + rt_mr al y sy)) i (fun z => absurd z (by omega)) (fun _ => br_t h2 ⟨rfl, rl_mk I0 C F⟩)))
    obtain ⟨j, hj, rfl⟩ := nI_of h2
    have hb := rt_ln_le g f w (n + h) i
    have hb2 : (n + h) * w ≤ 24 * 16 := Nat.mul_le_mul (by omega) a2
    refine br_f h2 (rx_textLength i (by omega) (by omega) (by omega) a2 (by omega) (pk_lt j (rt_ln g f w (n + h) i) (fun z2 => ?_) (fun z2 => ?_)))
    · have hpl : j < (rt_V f (n + h) (i + 1) - rt_V f (n + h) i) * w := Nat.lt_of_lt_of_le z2 (rt_len_le _ _)
      have hq : j / w < rt_V f (n + h) (i + 1) - rt_V f (n + h) i := Nat.div_lt_of_lt_mul (by rw [Nat.mul_comm]; exact hpl)
      have b2 := rt_V_le f (n + h) (i + 1)
      have hq2 : rt_V f (n + h) i + j / w < n + h := Nat.lt_of_lt_of_le (Nat.add_lt_of_lt_sub' hq) b2
      refine rx_textChar (rt_V f (n + h) i) j (by omega) a2 (Nat.lt_of_lt_of_le hq2 (by omega)) (by omega) ?_
      unfold wpY_lineChar
      refine ry_computeLines C F (by omega) a4 (by omega) a2 hm.1 (fun ls' lr' ll' hl => br_f h1 (pk_le (rt_N g f w (n + h) (n + rt_mr al y sy)) i (fun z => absurd z (by omega)) (fun _ => br_f h2 ⟨pk_in i 24 (by omega), pk_lt j (rt_ln g f w (n + h) i) (fun _ => ry_textAt i j (rt_V f (n + h) i) C (by omega) a4 (by omega) a2 (by omega) (by omega) (hl i (by omega)).1 hq2 ⟨rfl, rl_mk I0 C F⟩) (fun z => absurd z (by omega)) rfl ?_⟩)))
      rw [rt_rd (a := ll') rfl (by omega)]
      exact (hl i (by omega)).2
    · unfold wpY_lineChar
      refine ry_computeLines C F (by omega) a4 (by omega) a2 hm.1 (fun ls' lr' ll' hl => br_f h1 (pk_le (rt_N g f w (n + h) (n + rt_mr al y sy)) i (fun z => absurd z (by omega)) (fun _ => br_f h2 ⟨pk_in i 24 (by omega), pk_lt j (rt_ln g f w (n + h) i) (fun z => absurd z (by omega)) (fun _ => ⟨rfl, rl_mk I0 C F⟩) rfl ?_⟩)))
      rw [rt_rd (a := ll') rfl (by omega)]
      exact (hl i (by omega)).2
  · unfold wpY_lineChar
    exact ry_computeLines C F (by omega) a4 (by omega) a2 hm.1 (fun ls' lr' ll' hl => br_f h1 (pk_le (rt_N g f w (n + h) (n + rt_mr al y sy)) i (fun _ => ⟨rfl, rl_mk I0 C F⟩) (fun z => absurd z (by omega))))
