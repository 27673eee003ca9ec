/-! larger, smaller, clamp -/
def rt_mn (a b : Nat) : Nat := if b ≤ a then b else a
theorem rt_mn_sp (a b : Nat) : (b ≤ a ∧ rt_mn a b = b) ∨ (a < b ∧ rt_mn a b = a) := by
  rcases Nat.lt_or_ge a b with h | h
  · exact Or.inr ⟨h, if_neg (by omega)⟩
  · exact Or.inl ⟨h, if_pos h⟩
theorem rx_larger {P : Int32 → Prop} {A B : Int32} (a b : Nat) (H : P (nI (rt_mx a b))) (eA : A = nI a := by rfl) (eB : B = nI b := by rfl) (ha : a < 2 ^ 31 := by omega) (hb : b < 2 ^ 31 := by omega) : wpX_larger P A B := by
  subst eA eB
  refine pk_le a b (fun z => ?_) (fun z => ?_)
  · rcases rt_mx_sp a b with ⟨h, e⟩ | ⟨h, e⟩
    · rw [e] at H; exact H
    · rw [e, show a = b by omega] at H; exact H
  · rw [rt_mx_ge (by omega)] at H; exact H
theorem rx_smaller {P : Int32 → Prop} {A B : Int32} (a b : Nat) (H : P (nI (rt_mn a b))) (eA : A = nI a := by rfl) (eB : B = nI b := by rfl) (ha : a < 2 ^ 31 := by omega) (hb : b < 2 ^ 31 := by omega) : wpX_smaller P A B := by
  subst eA eB
  refine pk_le b a (fun z => ?_) (fun z => ?_)
  · rcases rt_mn_sp a b with ⟨h, e⟩ | ⟨h, e⟩
    · rw [e] at H; exact H
    · omega
  · rcases rt_mn_sp a b with ⟨h, e⟩ | ⟨h, e⟩
    · omega
    · rw [e] at H; exact H
theorem rx_larger0 {P : Int32 → Prop} {B : Int32} (a b : Nat) (H : P (nI (a - b))) (eB : B = nI a - nI b := by rfl) (ha : a < 2 ^ 30 := by omega) (hb : b < 2 ^ 30 := by omega) : wpX_larger P 0 B := by
  subst eB
  rcases Nat.lt_or_ge a b with z | z
  · have hn : nI a - nI b < 0 := by
      rw [Int32.lt_iff_toInt_lt, Int32.toInt_sub, nI_toInt (by omega), nI_toInt (by omega), show (0 : Int32).toInt = 0 from by decide, Int.bmod_eq_of_le (by omega) (by omega)]
      omega
    rw [show a - b = 0 by omega] at H
    exact br_f (Int32.not_le.mpr hn) H
  · exact pk_le 0 (a - b) (fun _ => by rw [pk_sub z]; exact H) (fun z => absurd z (by omega)) rfl (pk_sub z)
/-- the clamped number -/
theorem rt_clamp (v : Int32) (lo hi : Nat) (h : lo ≤ hi) (hb : hi < 2 ^ 31) : ∃ c : Nat, lo ≤ c ∧ c ≤ hi ∧ (∀ P : Int32 → Prop, P (nI c) → ((nI lo ≤ v → ((v ≤ nI hi → P v) ∧ (¬ v ≤ nI hi → P (nI hi)))) ∧ (¬ nI lo ≤ v → P (nI lo)))) := by
  by_cases h1 : nI lo ≤ v
  · by_cases h2 : v ≤ nI hi
    · have h0 : ¬ v < 0 := by
        intro z
        have := Int32.lt_of_le_of_lt (Int32.le_trans (nI_pos' (n := lo) (by omega)) h1) z
        exact Int32.lt_irrefl this
      obtain ⟨j, hj, rfl⟩ := nI_of h0
      rw [nI_leI (by omega) hj] at h1
      rw [nI_leI hj hb] at h2
      exact ⟨j, h1, h2, fun P H => br_t (nI_le h1 hj) (br_t (nI_le h2 hb) H)⟩
    · exact ⟨hi, h, Nat.le_refl _, fun P H => br_t h1 (br_f h2 H)⟩
  · exact ⟨lo, Nat.le_refl _, h, fun P H => br_f h1 H⟩
/-! put -/
theorem rl_104 {w h s n y x sy sx tp bt : Nat} {al pd sp fn fu : Int32} {g f fc ff : Nat → Int32} {lc cl ck : Int32} {sb sbf sc scf rb rbf ls lr ll : Nat → Int32} {k : Nat} {v1 : Int32} (hY : ∀ post : Int32 → SY → Prop, wY_put_104 post v1 (nI w) (nI h) (nI s) (nI n) (nI y) (nI x) (nI sy) (nI sx) (nI tp) (nI bt) al pd sp lc cl ck sb sbf sc scf rb rbf ls lr ll → wpY_put post ((nI w), (nI h), (nI s), (nI n), (nI y), (nI x), (nI sy), (nI sx), (nI tp), (nI bt), al, pd, sp, lc, cl, ck, sb, sbf, sc, scf, rb, rbf, ls, lr, ll) v1) (I : rt_I w h s n y x sy sx tp bt al pd sp) (C : rt_Mc w h n g sb sc) (F : rt_Mf h n f sbf scf) : wX_put_19 (fun r u' => wpY_put (fun r' v' => r' = r ∧ i_Rel k u' v') ((nI w), (nI h), (nI s), (nI n), (nI y), (nI x), (nI sy), (nI sx), (nI tp), (nI bt), al, pd, sp, lc, cl, ck, sb, sbf, sc, scf, rb, rbf, ls, lr, ll) v1) v1 fn fu (nI w) (nI h) (nI s) (nI n) al (nI tp) (nI bt) (nI y) (nI x) pd (nI sy) (nI sx) sp g f fc ff := by
  have I0 := I
  obtain ⟨a1, a2, a3, a4, a5, a6, a7, a8, a9, a10, a11, a12, a13, a14⟩ := I
  by_cases h13 : v1 = 13
  · subst h13
    exact br_f (by decide) (br_f (by decide) (br_f (by decide) (br_f (by decide) (br_f (by decide) (br_f (by decide) (br_f (by decide) (br_t rfl (hY _ (br_t rfl ⟨rfl, rl_mk (x := 0) (rt_I_y I0 a7 (by omega) rt_01_0) C F⟩)))))))))
  by_cases h10 : v1 = 10
  · subst h10
    obtain ⟨n', y', g', f', sb', sbf', sc', scf', I', C', F', hX, hY'⟩ := rl_lf (fn := fn) (fu := fu) (fc := fc) (ff := ff) (lc := lc) (cl := cl) (ck := ck) (rb := rb) (rbf := rbf) (ls := ls) (lr := lr) (ll := ll) I0 C F
    exact br_f (by decide) (br_f (by decide) (br_f (by decide) (br_f (by decide) (br_t rfl (hX _ (hY _ (br_f (by decide) (br_t rfl (hY' _ ⟨rfl, rl_mk (rt_I_y I' I'.2.2.2.2.2.2.1 a8 rt_01_0) C' F'⟩)))))))))
  by_cases h8 : v1 = 8
  · subst h8
    refine br_f (by decide) (br_f (by decide) (br_t rfl (rx_larger0 x 1 (hY _ (br_f (by decide) (br_f (by decide) (br_t rfl (pk_le x 0 (fun z => ?_) (fun z => nm_r (pk_sub (b := 1) (by omega)) ?_)))))))))
    · refine ⟨rfl, ?_⟩
      rw [show x - 1 = x by omega]
      exact rl_mk (rt_I_y I0 a7 a8 rt_01_0) C F
    · exact ⟨rfl, rl_mk (rt_I_y I0 a7 (by omega) rt_01_0) C F⟩
  by_cases h9 : v1 = 9
  · subst h9
    have e8 : nI x - (nI x - nI x / 8 * 8) + 8 = nI (x - x % 8 + 8) := by
      rw [show (8 : Int32) = nI 8 from rfl, pk_rem (by omega) (by omega) (by omega), pk_sub (Nat.mod_le _ _), nI_add]
    have ew : nI w - 1 = nI (w - 1) := pk_sub (b := 1) (by omega)
    refine br_f (by decide) (br_f (by decide) (br_f (by decide) (br_t rfl ⟨by decide, rx_smaller (w - 1) (x - x % 8 + 8) (hY _ (br_f (by decide) (br_f (by decide) (br_f (by decide) (br_t rfl ⟨by decide, nm_r e8 (pk_le (w - 1) (x - x % 8 + 8) (fun z => nm_r ew ?_) (fun z => ?_) ew)⟩))))) ew e8⟩)))
    · refine ⟨rfl, ?_⟩
      rcases rt_mn_sp (w - 1) (x - x % 8 + 8) with ⟨h, e⟩ | ⟨h, e⟩
      · rw [e, show x - x % 8 + 8 = w - 1 by omega]
        exact rl_mk (rt_I_y I0 a7 (by omega) rt_01_0) C F
      · rw [e]
        exact rl_mk (rt_I_y I0 a7 (by omega) rt_01_0) C F
    · refine ⟨rfl, ?_⟩
      rcases rt_mn_sp (w - 1) (x - x % 8 + 8) with ⟨h, e⟩ | ⟨h, e⟩
      · rw [e]
        exact rl_mk (rt_I_y I0 a7 (by omega) rt_01_0) C F
      · omega
  have R : wpY_put (fun r' v' => r' = 0 ∧ i_Rel k (fn, fu, (nI w), (nI h), (nI s), (nI n), al, (nI tp), (nI bt), (nI y), (nI x), pd, (nI sy), (nI sx), sp, g, f, fc, ff) v') ((nI w), (nI h), (nI s), (nI n), (nI y), (nI x), (nI sy), (nI sx), (nI tp), (nI bt), al, pd, sp, lc, cl, ck, sb, sbf, sc, scf, rb, rbf, ls, lr, ll) v1 := hY _ (br_f h13 (br_f h10 (br_f h8 (br_f h9 ⟨rfl, rl_mk I0 C F⟩))))
  exact br_c (fun _ => R) (fun _ => br_c (fun _ => R) (fun _ => br_f h8 (br_f h9 (br_f h10 (br_c (fun _ => R) (fun _ => br_c (fun _ => R) (fun _ => br_f h13 trivial)))))))
theorem i_vc_put {k : Nat} {u : SX} {v : SY} (I : i_Rel k u v) (hk : k + 3 ≤ 1539) (v1 : Int32) : wpX_put (fun r u' => wpY_put (fun r' v' => r' = r ∧ i_Rel (k + 3) u' v') v v1) u v1 := by
  obtain ⟨w, h, s, n, y, x, sy, sx, tp, bt, al, pd, sp, fn, fu, lc, cl, ck, g, f, fc, ff, sb, sbf, sc, scf, rb, rbf, ls, lr, ll, rfl, rfl, I, C, F⟩ := I
  by_cases h1 : v1 < 32
  · exact br_t h1 (rl_104 (fun post H => br_t h1 H) I C F)
  by_cases h2 : 126 < v1
  · exact br_f h1 (br_t h2 (rl_104 (fun post H => br_f h1 (br_t h2 H)) I C F))
  refine br_f h1 (br_f h2 ?_)
  have I0 := I
  obtain ⟨a1, a2, a3, a4, a5, a6, a7, a8, a9, a10, a11, a12, a13, a14⟩ := I
  by_cases hp : pd = 0
  · obtain ⟨x', pd', g', sc', I', C', hX, hY⟩ := rl_p36 (fn := fn) (fu := fu) (f := f) (fc := fc) (ff := ff) (lc := lc) (cl := cl) (ck := ck) (sbf := sbf) (scf := scf) (rb := rb) (rbf := rbf) (ls := ls) (lr := lr) (ll := ll) v1 I0 C
    exact br_t hp (hX _ (br_f h1 (br_f h2 (br_t hp (hY _ ⟨rfl, rl_mk I' C' F⟩)))))
  · by_cases hal : al = 0
    · have F1 := rt_Mf_w0 F a4 (by omega) a7 rt_01_1
      obtain ⟨n', y', g', f', sb', sbf', sc', scf', I', C', F', hX, hY⟩ := rl_lf (fn := fn) (fu := fu) (fc := fc) (ff := ff) (lc := lc) (cl := cl) (ck := ck) (rb := rb) (rbf := rbf) (ls := ls) (lr := lr) (ll := ll) I0 C F1
      obtain ⟨x'', pd'', g'', sc'', I'', C'', hX', hY'⟩ := rl_p36 (fn := fn) (fu := fu) (f := f') (fc := fc) (ff := ff) (lc := lc) (cl := cl) (ck := ck) (sbf := sbf') (scf := scf') (rb := rb) (rbf := rbf) (ls := ls) (lr := lr) (ll := ll) v1 (rt_I_y (x' := 0) I' I'.2.2.2.2.2.2.1 (by omega) rt_01_0) C'
      exact br_f hp (br_t hal ⟨pk_in (n + y) 32 (by omega) (nI_add n y), nm_r (rt_us (nI_add n y) (by omega) rt_nar1) (hX _ (hX' _ (br_f h1 (br_f h2 (br_f hp (br_t hal ⟨pk_in y 16 (by omega) (rt_z0 y), nm_r (rt_us (rt_z0 y) (by omega) rt_nar1) (hY _ (hY' _ ⟨rfl, rl_mk I'' C'' F'⟩))⟩))))))⟩)
    · have F1 := rt_Mf_w1 F a4 (by omega) a7 rt_01_1
      obtain ⟨n', y', g', f', sb', sbf', sc', scf', I', C', F', hX, hY⟩ := rl_lf (fn := fn) (fu := fu) (fc := fc) (ff := ff) (lc := lc) (cl := cl) (ck := ck) (rb := rb) (rbf := rbf) (ls := ls) (lr := lr) (ll := ll) I0 C F1
      obtain ⟨x'', pd'', g'', sc'', I'', C'', hX', hY'⟩ := rl_p36 (fn := fn) (fu := fu) (f := f') (fc := fc) (ff := ff) (lc := lc) (cl := cl) (ck := ck) (sbf := sbf') (scf := scf') (rb := rb) (rbf := rbf) (ls := ls) (lr := lr) (ll := ll) v1 (rt_I_y (x' := 0) I' I'.2.2.2.2.2.2.1 (by omega) rt_01_0) C'
      exact br_f hp (br_f hal ⟨pk_in (24 + y) 32 (by omega) (nI_add 24 y), nm_r (rt_us (nI_add 24 y) (by omega) rt_nar1) (hX _ (hX' _ (br_f h1 (br_f h2 (br_f hp (br_f hal ⟨pk_in (8 + y) 16 (by omega) (nI_add 8 y), nm_r (rt_us (nI_add 8 y) (by omega) rt_nar1) (hY _ (hY' _ ⟨rfl, rl_mk I'' C'' F'⟩))⟩))))))⟩)
