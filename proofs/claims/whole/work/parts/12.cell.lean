/-! cell, wrapped, the constructors -/
theorem rt_ltn {v : Int32} {n : Nat} (hn : n ≤ 16) (h : v < -nI n) : v < 0 := by
  apply Classical.byContradiction
  intro z
  exact Int32.not_lt.mpr (rt_nneg hn z) h
theorem rt_gen {v : Int32} {h : Nat} (hh : h < 2 ^ 31) (hv : nI h ≤ v) : ¬ v < 0 := fun z =>
  Int32.lt_irrefl (Int32.lt_of_le_of_lt (Int32.le_trans (nI_pos' hh) hv) z)
theorem rt_nrd {v : Int32} {n : Nat} (hn : n ≤ 16) (h : ¬ v < 0) : ¬ v < -nI n := fun z => h (rt_ltn hn z)
theorem rt_hle {v : Int32} {h : Nat} (hh : h < 2 ^ 31) (hv : v < 0) : ¬ nI h ≤ v := fun z => rt_gen hh z hv
theorem i_vc_cell {k : Nat} {u : SX} {v : SY} (I : i_Rel k u v) (hk : k + 3 ≤ 1539) (v1 : Int32) (v2 : Int32) : wpX_cell (fun r => wpY_cell (fun r' => r' = r ∧ i_Rel (k + 3) u v) v v1 v2) u v1 v2 := by
  have R0 := I
  obtain ⟨w, h, s, n, y, x, sy, sx, tp, bt, al, pd, sp, fn, fu, lc, cl, ck, g, f, fc, ff, sb, sbf, sc, scf, rb, rbf, ls, lr, ll, rfl, rfl, I, C, F⟩ := I
  obtain ⟨a1, a2, a3, a4, a5, a6, a7, a8, a9, a10, a11, a12, a13, a14⟩ := I
  have R : i_Rel (k + 3) (fn, fu, (nI w), (nI h), (nI s), (nI n), al, (nI tp), (nI bt), (nI y), (nI x), pd, (nI sy), (nI sx), sp, g, f, fc, ff) ((nI w), (nI h), (nI s), (nI n), (nI y), (nI x), (nI sy), (nI sx), (nI tp), (nI bt), al, pd, sp, lc, cl, ck, sb, sbf, sc, scf, rb, rbf, ls, lr, ll) := R0
  clear R0
  unfold wpX_cell
  by_cases hc0 : v2 < 0
  · have Q : wpY_cell (fun r' => r' = -1 ∧ i_Rel (k + 3) (fn, fu, (nI w), (nI h), (nI s), (nI n), al, (nI tp), (nI bt), (nI y), (nI x), pd, (nI sy), (nI sx), sp, g, f, fc, ff) ((nI w), (nI h), (nI s), (nI n), (nI y), (nI x), (nI sy), (nI sx), (nI tp), (nI bt), al, pd, sp, lc, cl, ck, sb, sbf, sc, scf, rb, rbf, ls, lr, ll)) ((nI w), (nI h), (nI s), (nI n), (nI y), (nI x), (nI sy), (nI sx), (nI tp), (nI bt), al, pd, sp, lc, cl, ck, sb, sbf, sc, scf, rb, rbf, ls, lr, ll) v1 v2 := br_t hc0 ⟨rfl, R⟩
    exact br_c (fun _ => br_t rfl Q) (fun _ => br_c (fun _ => br_t rfl Q) (fun _ => br_f (by decide) (br_t hc0 Q)))
  by_cases hcw : v2 < nI w
  case neg =>
    have Q : wpY_cell (fun r' => r' = -1 ∧ i_Rel (k + 3) (fn, fu, (nI w), (nI h), (nI s), (nI n), al, (nI tp), (nI bt), (nI y), (nI x), pd, (nI sy), (nI sx), sp, g, f, fc, ff) ((nI w), (nI h), (nI s), (nI n), (nI y), (nI x), (nI sy), (nI sx), (nI tp), (nI bt), al, pd, sp, lc, cl, ck, sb, sbf, sc, scf, rb, rbf, ls, lr, ll)) ((nI w), (nI h), (nI s), (nI n), (nI y), (nI x), (nI sy), (nI sx), (nI tp), (nI bt), al, pd, sp, lc, cl, ck, sb, sbf, sc, scf, rb, rbf, ls, lr, ll) v1 v2 := br_f hc0 (br_f hcw ⟨rfl, R⟩)
    exact br_c (fun _ => br_t rfl Q) (fun _ => br_c (fun _ => br_t rfl Q) (fun _ => br_f (by decide) (br_f hc0 (br_f hcw Q))))
  obtain ⟨c, hc, rfl⟩ := nI_of hc0
  have hcl : c < w := (nI_ltI hc (by omega)).mp hcw
  by_cases h1 : v1 < -nI n
  · have h2 := rt_ltn (by omega) h1
    have h3 : ¬ 0 ≤ v1 := Int32.not_le.mpr h2
    exact br_t h1 (br_t rfl (br_f hc0 (br_t hcw (br_f h3 (br_t h1 (br_t h2 ⟨rfl, R⟩))))))
  by_cases h2 : nI h ≤ v1
  · have h3 := rt_gen (by omega) h2
    have h4 : 0 ≤ v1 := Int32.not_lt.mp h3
    exact br_f h1 (br_t h2 (br_t rfl (br_f hc0 (br_t hcw (br_t h4 (br_f h3 (br_t h2 ⟨rfl, R⟩)))))))
  by_cases h3 : v1 < 0
  · have h4 : ¬ 0 ≤ v1 := Int32.not_le.mpr h3
    obtain ⟨j, hj, ej⟩ := rt_neg (by omega) h3 (Int32.not_lt.mp h1)
    have e : (nI n + v1) * 16 + nI c = nI (j * 16 + c) := by rw [ej, rt_ix]
    refine br_f h1 (br_f h2 (br_f (by decide) (br_f hc0 (br_t hcw (br_f h4 ⟨pk_in _ 512 (by omega) e, br_f hc0 (br_t hcw (br_f h4 (br_f h1 ⟨pk_in _ 256 (by omega) e, ?_, R⟩)))⟩)))))
    rw [rt_rd (a := sb) e (by omega), rt_rd (a := g) e (by omega)]
    exact (rt_cg C.1 (by omega) (by omega) (by omega)).symm
  · obtain ⟨r, hr, rfl⟩ := nI_of h3
    have h4 : (0 : Int32) ≤ nI r := Int32.not_lt.mp h3
    have hrl : r < h := by
      rw [nI_leI (by omega) hr] at h2; omega
    by_cases hal : al = 0
    · have e0 : (nI n + nI r) * 16 + nI c = nI ((n + r) * 16 + c) := by rw [nI_add, rt_ix]
      refine br_f h1 (br_f h2 (br_f (by decide) (br_f hc0 (br_t hcw (br_t h4 (br_t hal ⟨pk_in _ 512 (by omega) e0, br_f hc0 (br_t hcw (br_t h4 (br_f h3 (br_f h2 (br_t hal ⟨pk_in _ 256 (by omega) (rt_iy0 r c), ?_, R⟩)))))⟩))))))
      rw [rt_rd (a := sc) (rt_iy0 r c) (by omega), rt_rd (a := g) e0 (by omega)]
      exact (rt_cg C.2.1 (by omega) (by omega) (by omega)).symm
    · have e1 : (24 + nI r) * 16 + nI c = nI ((24 + r) * 16 + c) := by rw [show (24 : Int32) = nI 24 from rfl, nI_add, rt_ix]
      refine br_f h1 (br_f h2 (br_f (by decide) (br_f hc0 (br_t hcw (br_t h4 (br_f hal ⟨pk_in _ 512 (by omega) e1, br_f hc0 (br_t hcw (br_t h4 (br_f h3 (br_f h2 (br_f hal ⟨pk_in _ 256 (by omega) (rt_iy 128 r c), ?_, R⟩)))))⟩))))))
      rw [rt_rd (a := sc) (show 128 + nI r * 16 + nI c = nI (128 + r * 16 + c) from rt_iy 128 r c) (by omega), rt_rd (a := g) e1 (by omega)]
      exact (rt_cg C.2.2.1 (by omega) (by omega) (by omega)).symm
theorem i_vc_wrapped {k : Nat} {u : SX} {v : SY} (I : i_Rel k u v) (hk : k + 3 ≤ 1539) (v1 : Int32) : wpX_wrapped (fun r => wpY_wrapped (fun r' => r' = r ∧ i_Rel (k + 3) u v) v v1) u v1 := by
  have R0 := I
  obtain ⟨w, h, s, n, y, x, sy, sx, tp, bt, al, pd, sp, fn, fu, lc, cl, ck, g, f, fc, ff, sb, sbf, sc, scf, rb, rbf, ls, lr, ll, rfl, rfl, I, C, F⟩ := I
  obtain ⟨a1, a2, a3, a4, a5, a6, a7, a8, a9, a10, a11, a12, a13, a14⟩ := I
  have R : i_Rel (k + 3) (fn, fu, (nI w), (nI h), (nI s), (nI n), al, (nI tp), (nI bt), (nI y), (nI x), pd, (nI sy), (nI sx), sp, g, f, fc, ff) ((nI w), (nI h), (nI s), (nI n), (nI y), (nI x), (nI sy), (nI sx), (nI tp), (nI bt), al, pd, sp, lc, cl, ck, sb, sbf, sc, scf, rb, rbf, ls, lr, ll) := R0
  clear R0
  obtain ⟨f1, f2, f3, f4, f5, f6⟩ := F
  unfold wpX_wrapped
  by_cases h1 : v1 < -nI n
  · have h2 := rt_ltn (by omega) h1
    have h3 : ¬ 0 ≤ v1 := Int32.not_le.mpr h2
    exact br_t h1 (br_t rfl (br_f h3 (br_t h1 (br_t h2 ⟨rfl, R⟩))))
  by_cases h2 : nI h ≤ v1
  · have h3 := rt_gen (by omega) h2
    have h4 : 0 ≤ v1 := Int32.not_lt.mp h3
    exact br_f h1 (br_t h2 (br_t rfl (br_t h4 (br_f h3 (br_t h2 ⟨rfl, R⟩)))))
  by_cases h3 : v1 < 0
  · have h4 : ¬ 0 ≤ v1 := Int32.not_le.mpr h3
    obtain ⟨j, hj, ej⟩ := rt_neg (by omega) h3 (Int32.not_lt.mp h1)
    refine br_f h1 (br_f h2 (br_f (by decide) (br_f h4 ⟨pk_in j 32 (by omega) ej, rt_nb (f4 _), br_f h4 (br_f h1 ⟨pk_in j 16 (by omega) ej, rt_nb (f5 _), ?_, R⟩)⟩)))
    rw [rt_rd (a := sbf) ej (by omega), rt_rd (a := f) ej (by omega)]
    exact (rt_cg f1 (by omega) (by omega) (by omega)).symm
  · obtain ⟨r, hr, rfl⟩ := nI_of h3
    have h4 : (0 : Int32) ≤ nI r := Int32.not_lt.mp h3
    have hrl : r < h := by
      rw [nI_leI (by omega) hr] at h2; omega
    by_cases hal : al = 0
    · refine br_f h1 (br_f h2 (br_f (by decide) (br_t h4 (br_t hal ⟨pk_in (n + r) 32 (by omega) (nI_add n r), rt_nb (f4 _), br_t h4 (br_f h3 (br_f h2 (br_t hal ⟨pk_in r 16 (by omega) (rt_z0 r), rt_nb (f6 _), ?_, R⟩)))⟩))))
      rw [rt_rd (a := scf) (rt_z0 r) (by omega), rt_rd (a := f) (nI_add n r) (by omega)]
      exact (rt_cg f2 (by omega) (by omega) (by omega)).symm
    · refine br_f h1 (br_f h2 (br_f (by decide) (br_t h4 (br_f hal ⟨pk_in (24 + r) 32 (by omega) (nI_add 24 r), rt_nb (f4 _), br_t h4 (br_f h3 (br_f h2 (br_f hal ⟨pk_in (8 + r) 16 (by omega) (nI_add 8 r), rt_nb (f6 _), ?_, R⟩)))⟩))))
      rw [rt_rd (a := scf) (show 8 + nI r = nI (8 + r) from nI_add 8 r) (by omega), rt_rd (a := f) (show 24 + nI r = nI (24 + r) from nI_add 24 r) (by omega)]
      exact (rt_cg f3 (by omega) (by omega) (by omega)).symm
theorem ry_init {w h s n y x sy sx tp bt : Nat} {al pd sp lc cl ck : Int32} {sb sbf sc scf rb rbf ls lr ll : Nat → Int32} {post : SY → Prop} (H : post ((nI w), (nI h), (nI s), (nI n), (nI y), (nI x), (nI sy), (nI sx), 0, (nI h - 1), al, pd, sp, lc, cl, ck, (rt_put sb 0 256 (fun _ => 32)), sbf, (rt_put sc 0 256 (fun _ => 32)), scf, rb, rbf, ls, lr, ll)) : ∃ N, wY_init_118 post (nI w) (nI h) (nI s) (nI n) (nI y) (nI x) (nI sy) (nI sx) (nI tp) (nI bt) al pd sp lc cl ck N 0 sb sbf sc scf rb rbf ls lr ll := by
  refine rt_loop2 (fun N i (qa qb : Nat → Int32) => wY_init_118 post (nI w) (nI h) (nI s) (nI n) (nI y) (nI x) (nI sy) (nI sx) (nI tp) (nI bt) al pd sp lc cl ck N (nI i) qa sbf qb scf rb rbf ls lr ll) (fun i qa qb => qa = rt_put sb 0 i (fun _ => 32) ∧ qb = rt_put sc 0 i (fun _ => 32)) 256 0 sb sc (by omega) ⟨(rt_put_0 _ _ _).symm, (rt_put_0 _ _ _).symm⟩ ?_ ?_
  · rintro N qa qb ⟨rfl, rfl⟩
    exact pk_le 256 256 (fun _ => nm_e H) (fun z => absurd z (by omega))
  · rintro N i qa qb hi ⟨rfl, rfl⟩ K
    have e1 := rt_put_s (g := sb) (v := fun _ => 32) (b := 0) (m := i) (x := 32) rfl
    have e2 := rt_put_s (g := sc) (v := fun _ => 32) (b := 0) (m := i) (x := 32) rfl
    rw [Nat.zero_add] at e1 e2
    exact pk_le 256 i (fun z => absurd z (by omega)) (fun _ => ⟨pk_in i 256 (by omega), nm_r ((rt_us rfl (by omega) rfl).trans e1) ⟨pk_in i 256 (by omega), nm_r ((rt_us rfl (by omega) rfl).trans e2) (nm_r (nI_1 i) (K _ _ ⟨rfl, rfl⟩))⟩⟩)
theorem rx_clamp {v : Int32} {lo hi c : Nat} (H : ∀ P : Int32 → Prop, P (nI c) → ((nI lo ≤ v → ((v ≤ nI hi → P v) ∧ (¬ v ≤ nI hi → P (nI hi)))) ∧ (¬ nI lo ≤ v → P (nI lo)))) (P : Int32 → Prop) (h : P (nI c)) : wpX_clamp P v (nI lo) (nI hi) := H P h
theorem ry_clamp {v : Int32} {lo hi c : Nat} (H : ∀ P : Int32 → Prop, P (nI c) → ((nI lo ≤ v → ((v ≤ nI hi → P v) ∧ (¬ v ≤ nI hi → P (nI hi)))) ∧ (¬ nI lo ≤ v → P (nI lo)))) {q1 q2 q3 q4 q5 q6 q7 q8 q9 q10 q11 q12 q13 q14 q15 q16 : Int32} {b1 b2 b3 b4 b5 b6 b7 b8 b9 : Nat → Int32} (P : Int32 → Prop) (h : P (nI c)) : wpY_clamp P (q1, q2, q3, q4, q5, q6, q7, q8, q9, q10, q11, q12, q13, q14, q15, q16, b1, b2, b3, b4, b5, b6, b7, b8, b9) v (nI lo) (nI hi) := H P h
theorem i_vc0 (k0 : Int32) (k1 : Int32) (k2 : Int32) : wpX_init (fun u => wpY_init (fun v => i_Rel 3 u v) k0 k1 k2) k0 k1 k2 := by
  obtain ⟨w, w1, w2, hw⟩ := rt_clamp k0 4 16 (by omega) (by omega)
  obtain ⟨h, h1, h2, hh⟩ := rt_clamp k1 2 8 (by omega) (by omega)
  obtain ⟨s, s1, s2, hs⟩ := rt_clamp k2 0 16 (by omega) (by omega)
  have e1 : nI h - 1 = nI (h - 1) := pk_sub (b := 1) (by omega)
  unfold wpX_init
  refine rx_clamp hw _ ?_
  refine rx_clamp hh _ ?_
  refine rx_clamp hs _ ?_
  refine (rx_clearRows (n := 0) (tp := 0) (bt := 0) (y := 0) (x := 0) (sy := 0) (sx := 0) 0 32 (by omega) (by omega) (nm_r e1 ?_))
  show wpY_init _ k0 k1 k2
  unfold wpY_init
  refine ry_clamp hw _ ?_
  refine ry_clamp hh _ ?_
  refine ry_clamp hs _ ?_
  refine ry_init (n := 0) (tp := 0) (bt := 0) (y := 0) (x := 0) (sy := 0) (sx := 0) ?_
  rw [e1]
  refine rl_mk (n := 0) (tp := 0) (bt := h - 1) (y := 0) (x := 0) (sy := 0) (sx := 0) ⟨w1, w2, h1, h2, s2, by omega, by omega, by omega, by omega, by omega, rt_01_0, rt_01_0, rt_01_0, fun z => absurd rfl z⟩ ?_ ?_
  · refine ⟨fun i hi => by omega, fun i hi => ?_, fun i hi => ?_, fun i hi hb => ?_⟩ <;> simp only [rt_put] <;> repeat' split
    all_goals first | omega | rfl
  · refine ⟨fun i hi => by omega, fun i hi => ?_, fun i hi => ?_, fun i => ?_, fun i => rt_01_0, fun i => rt_01_0⟩
    · simp only [rt_put]; split <;> rfl
    · simp only [rt_put]; split <;> rfl
    · simp only [rt_put]; split <;> exact rt_01_0
