/-! both sides' resize, whole -/
theorem rx_resize {w h s n y x sy sx tp bt : Nat} {al pd sp fn fu : Int32} {g f fc ff : Nat → Int32} {post : Int32 → SX → Prop} {v1 v2 : Int32} {w2 h2 t p fi k : Nat} {fl fg : Nat → Int32} (cw : ∀ P : Int32 → Prop, P (nI w2) → ((nI 4 ≤ v1 → ((v1 ≤ nI 16 → P v1) ∧ (¬ v1 ≤ nI 16 → P (nI 16)))) ∧ (¬ nI 4 ≤ v1 → P (nI 4)))) (ch : ∀ P : Int32 → Prop, P (nI h2) → ((nI 2 ≤ v2 → ((v2 ≤ nI 8 → P v2) ∧ (¬ v2 ≤ nI 8 → P (nI 8)))) ∧ (¬ nI 2 ≤ v2 → P (nI 2)))) (hn : n ≤ 16) (h0 : 0 < h) (hh : h ≤ 8) (hw0 : 0 < w) (hw : w ≤ 16) (hs : s ≤ 16) (h20 : 0 < h2) (hh2 : h2 ≤ 8) (h24 : 4 ≤ w2) (hw2 : w2 ≤ 16) (hy : y < 8) (hx : x < 16) (hm : rt_mr al y sy < h) (hmx : rt_mr al x sx < w) (ht : rt_Bs (rt_RR g f w (n + h) w2 (n + rt_mr al y sy) (rt_mr al x sx)) (rt_N g f w (n + h) (n + rt_mr al y sy)) = t) (hp : rt_Bs (rt_RR g f w (n + h) w2 (n + rt_mr al y sy) (rt_mr al x sx)) (rt_L f (n + rt_mr al y sy)) + (rt_ck f w (n + h) (n + rt_mr al y sy) (rt_mr al x sx)) / w2 = p) (hk : (rt_ck f w (n + h) (n + rt_mr al y sy) (rt_mr al x sx)) = k) (hpt : p < t) (ht96 : t ≤ 96) (hk20 : k < 2 ^ 20) (hfi : fi = rt_mn (t - h2) p) (hfl : rt_fa (rt_TX g f w (n + h)) (rt_ln g f w (n + h)) (rt_RR g f w (n + h) w2 (n + rt_mr al y sy) (rt_mr al x sx)) w2 fc (rt_N g f w (n + h) (n + rt_mr al y sy)) = fl) (hfg : rt_ff (rt_RR g f w (n + h) w2 (n + rt_mr al y sy) (rt_mr al x sx)) ff (rt_N g f w (n + h) (n + rt_mr al y sy)) = fg) (hb : ∀ i, i < t → rt_01 (fg i)) (Hm : al = 0 → post (nI (fi - rt_mn fi s + (t - fi - h2))) ((nI t), (nI p), (nI w2), (nI h2), (nI s), (nI (rt_mn fi s)), al, 0, (nI (h2 - 1)), (nI (p - fi)), (nI (k % w2)), 0, (nI sy), (nI sx), sp, (rt_put (rt_gP g fl (fi - rt_mn fi s) t (rt_mn fi s + h2)) 384 128 (fun _ => 32)), (rt_put (rt_fP f fg (fi - rt_mn fi s) t (rt_mn fi s + h2)) 24 8 (fun _ => 0)), fl, fg)) (Ha : ¬ al = 0 → post (nI (fi - rt_mn fi s + (t - fi - h2))) ((nI t), (nI p), (nI w2), (nI h2), (nI s), (nI (rt_mn fi s)), al, 0, (nI (h2 - 1)), (nI (rt_mn y (h2 - 1))), (nI (rt_mn x (w2 - 1))), 0, (nI (p - fi)), (nI (k % w2)), 0, (rt_crop (rt_gP g fl (fi - rt_mn fi s) t (rt_mn fi s + h2)) 384 h2 w2), (rt_put (rt_fP f fg (fi - rt_mn fi s) t (rt_mn fi s + h2)) 24 8 (fun _ => 0)), fl, fg)) : wpX_resize post (fn, fu, (nI w), (nI h), (nI s), (nI n), al, (nI tp), (nI bt), (nI y), (nI x), pd, (nI sy), (nI sx), sp, g, f, fc, ff) v1 v2 := by
  have hfp : fi ≤ p ∧ fi ≤ t := by
    subst hfi
    rcases rt_mn_sp (t - h2) p with ⟨a, e⟩ | ⟨a, e⟩ <;> omega
  have eh : nI h2 - 1 = nI (h2 - 1) := pk_sub (b := 1) (by omega)
  unfold wpX_resize
  refine rx_clamp cw _ ?_
  refine rx_clamp ch _ ?_
  refine rx_cursorOffset (by omega) hm ?_
  refine rx_flowLines w2 h0 (by omega) hw0 hw h24 hw2 hm hmx ?_
  rw [ht, hp, hfl, hfg, hk]
  refine rx_first t p h2 ht96 (by omega) hh2 ?_
  rw [← hfi]
  refine rx_place fi h2 t ht96 hs hh2 hfp.2 hb ?_
  refine nm_r (pk_sub hfp.1) ⟨nI_ne0 (by omega) (by omega), nm_r (pk_rem (by omega) (by omega) (by omega)) (br_c (fun z => ?_) (fun z => ?_))⟩
  · refine rx_move ?_
    refine rx_clearRows 24 32 (by omega) (by omega) ?_
    exact nm_r eh (Hm z)
  · refine rx_crop w2 h2 h20 hh2 (by omega) hw2 hy hx ?_
    exact nm_r eh (Ha z)
theorem ry_resize {w h s n y x sy sx tp bt : Nat} {al pd sp lc cl ck : Int32} {sb sbf sc scf rb rbf ls lr ll : Nat → Int32} {g f : Nat → Int32} {post : Int32 → SY → Prop} {v1 v2 : Int32} {w2 h2 t p fi k m l : Nat} {rl rg : Nat → Int32} (cw : ∀ P : Int32 → Prop, P (nI w2) → ((nI 4 ≤ v1 → ((v1 ≤ nI 16 → P v1) ∧ (¬ v1 ≤ nI 16 → P (nI 16)))) ∧ (¬ nI 4 ≤ v1 → P (nI 4)))) (ch : ∀ P : Int32 → Prop, P (nI h2) → ((nI 2 ≤ v2 → ((v2 ≤ nI 8 → P v2) ∧ (¬ v2 ≤ nI 8 → P (nI 8)))) ∧ (¬ nI 2 ≤ v2 → P (nI 2)))) (C : rt_Mc w h n g sb sc) (F : rt_Mf h n f sbf scf) (hn : n ≤ 16) (h0 : 0 < h) (hh : h ≤ 8) (hw0 : 0 < w) (hw : w ≤ 16) (hs : s ≤ 16) (h20 : 0 < h2) (hh2 : h2 ≤ 8) (h24 : 4 ≤ w2) (hw2 : w2 ≤ 16) (hy : y < 8) (hx : x < 16) (hm : rt_mr al y sy < h) (hmx : rt_mr al x sx < w) (ht : rt_Bs (rt_RR g f w (n + h) w2 (n + rt_mr al y sy) (rt_mr al x sx)) (rt_N g f w (n + h) (n + rt_mr al y sy)) = t) (hp : rt_Bs (rt_RR g f w (n + h) w2 (n + rt_mr al y sy) (rt_mr al x sx)) (rt_L f (n + rt_mr al y sy)) + (rt_ck f w (n + h) (n + rt_mr al y sy) (rt_mr al x sx)) / w2 = p) (hk : (rt_ck f w (n + h) (n + rt_mr al y sy) (rt_mr al x sx)) = k) (hpt : p < t) (ht96 : t ≤ 96) (hk20 : k < 2 ^ 20) (hfi : fi = rt_mn (t - h2) p) (hmN : (rt_N g f w (n + h) (n + rt_mr al y sy)) = m) (hlL : (rt_L f (n + rt_mr al y sy)) = l) (hrl : rt_fa (rt_TX g f w (n + h)) (rt_ln g f w (n + h)) (rt_RR g f w (n + h) w2 (n + rt_mr al y sy) (rt_mr al x sx)) w2 rb (rt_N g f w (n + h) (n + rt_mr al y sy)) = rl) (hrg : rt_ff (rt_RR g f w (n + h) w2 (n + rt_mr al y sy) (rt_mr al x sx)) rbf (rt_N g f w (n + h) (n + rt_mr al y sy)) = rg) (hb : ∀ i, i < t → rt_01 (rg i)) (Hm : al = 0 → ∀ ls' lr' ll' : Nat → Int32, post (nI (fi - rt_mn fi s + (t - fi - h2))) ((nI w2), (nI h2), (nI s), (nI (rt_mn fi s)), (nI (p - fi)), (nI (k % w2)), (nI sy), (nI sx), 0, (nI (h2 - 1)), al, 0, sp, (nI m), (nI l), (nI k), (rt_put sb 0 (rt_mn fi s * 16) (fun i => rl ((fi - rt_mn fi s) * 16 + i))), (rt_put sbf 0 (rt_mn fi s) (fun i => rg (fi - rt_mn fi s + i))), (rt_put (rt_scP sc rl fi t h2) 128 128 (fun _ => 32)), (rt_put (rt_sfP scf rg fi t h2) 8 8 (fun _ => 0)), rl, rg, ls', lr', ll')) (Ha : ¬ al = 0 → ∀ (mh mw : Nat) (ls' lr' ll' : Nat → Int32), ((h < h2 ∧ mh = h) ∨ (h2 ≤ h ∧ mh = h2)) → ((w < w2 ∧ mw = w) ∨ (w2 ≤ w ∧ mw = w2)) → post (nI (fi - rt_mn fi s + (t - fi - h2))) ((nI w2), (nI h2), (nI s), (nI (rt_mn fi s)), (nI (rt_mn y (h2 - 1))), (nI (rt_mn x (w2 - 1))), (nI (p - fi)), (nI (k % w2)), 0, (nI (h2 - 1)), al, 0, 0, (nI m), (nI l), (nI k), (rt_put sb 0 (rt_mn fi s * 16) (fun i => rl ((fi - rt_mn fi s) * 16 + i))), (rt_put sbf 0 (rt_mn fi s) (fun i => rg (fi - rt_mn fi s + i))), (rt_crop (rt_scP sc rl fi t h2) 128 mh mw), (rt_put (rt_sfP scf rg fi t h2) 8 8 (fun _ => 0)), rl, rg, ls', lr', ll')) : wpY_resize post ((nI w), (nI h), (nI s), (nI n), (nI y), (nI x), (nI sy), (nI sx), (nI tp), (nI bt), al, pd, sp, lc, cl, ck, sb, sbf, sc, scf, rb, rbf, ls, lr, ll) v1 v2 := by
  have hfp : fi ≤ p ∧ fi ≤ t := by
    subst hfi
    rcases rt_mn_sp (t - h2) p with ⟨a, e⟩ | ⟨a, e⟩ <;> omega
  have hms := rt_mn_sub (a := fi) (b := s)
  have hM := rt_N_M (g := g) (f := f) (w := w) (T := n + h) (ci := n + rt_mr al y sy) hw0 (by omega)
  unfold wpY_resize
  refine ry_clamp cw _ ?_
  refine ry_clamp ch _ ?_
  refine ry_computeLines C F hn hh hw0 hw hm (fun ls' lr' ll' hl => ?_)
  refine ry_rz32 C hn hh h0 hw0 hw h24 hw2 (by omega) hmx _ hM.2.1 hM.1 hl ?_
  rw [ht, hp, hrl, hrg, hk, hmN, hlL]
  refine ry_rz92 t p h2 ht96 (by omega) hh2 ?_
  rw [← hfi]
  refine ry_126 fi t h2 ht96 hh2 hfp.2 hs hb (fun z => ?_) (fun z => ?_)
  · refine ry_292 fi t h2 (fi - rt_mn fi s) ht96 (by omega) (by omega) hfp.2 hh2 ?_ hb ?_
    · rcases rt_mn_sp (t - h2) p with ⟨a, e⟩ | ⟨a, e⟩ <;> omega
    · exact ry_389 w2 h2 p fi k h20 hh2 h24 hw2 hw hh hy hx hfp.1 hk20 (fun z => Hm z ls' lr' ll') (fun z mh mw q1 q2 => Ha z mh mw ls' lr' ll' q1 q2)
  · have ef : fi = 0 := by rcases rt_mn_sp (t - h2) p with ⟨a, e⟩ | ⟨a, e⟩ <;> omega
    have em : rt_mn fi s = 0 := by omega
    have el : fi - 0 + (t - fi - h2) = 0 := by omega
    rw [em, Nat.zero_mul, rt_put_0, rt_put_0] at Hm Ha
    rw [el] at Hm Ha
    exact ry_389 (n := 0) w2 h2 p fi k h20 hh2 h24 hw2 hw hh hy hx hfp.1 hk20 (fun z => Hm z ls' lr' ll') (fun z mh mw q1 q2 => Ha z mh mw ls' lr' ll' q1 q2)
theorem i_vc_resize {k : Nat} {u : SX} {v : SY} (I : i_Rel k u v) (hk : k + 3 ≤ 1539) (v1 : Int32) (v2 : Int32) : wpX_resize (fun r u' => wpY_resize (fun r' v' => r' = r ∧ i_Rel (k + 3) u' v') v v1 v2) u v1 v2 := by
  obtain ⟨w, h, s, n, y, x, sy, sx, tp, bt, al, pd, sp, fn, fu, lc, cl, ck, g, f, fc, ff, sb, sbf, sc, scf, rb, rbf, ls, lr, ll, rfl, rfl, I, C, F⟩ := I
  have hm := rt_I_mr I
  obtain ⟨a1, a2, a3, a4, a5, a6, a7, a8, a9, a10, a11, a12, a13, a14⟩ := I
  obtain ⟨w2, w21, w22, cw⟩ := rt_clamp v1 4 16 (by omega) (by omega)
  obtain ⟨h2, h21, h22, ch⟩ := rt_clamp v2 2 8 (by omega) (by omega)
  have hM := rt_N_M (g := g) (f := f) (w := w) (T := n + h) (ci := n + rt_mr al y sy) (by omega) (by omega)
  have h96 := rt_Bs_96 (g := g) (f := f) (w2 := w2) (mc := rt_mr al x sx) (show 0 < n + h by omega) (by omega) a2 w21 (show n + rt_mr al y sy < n + h by omega) hm.2 hM.2.1
  have hcur := rt_R_cur (rt_ln g f w (n + h)) w2 (rt_L f (n + rt_mr al y sy)) (rt_ck f w (n + h) (n + rt_mr al y sy) (rt_mr al x sx))
  have hbm := rt_Bs_m (R := (rt_RR g f w (n + h) w2 (n + rt_mr al y sy) (rt_mr al x sx))) hM.1
  have hRR : (rt_RR g f w (n + h) w2 (n + rt_mr al y sy) (rt_mr al x sx)) (rt_L f (n + rt_mr al y sy)) = rt_R (rt_ln g f w (n + h)) w2 (rt_L f (n + rt_mr al y sy)) (rt_ck f w (n + h) (n + rt_mr al y sy) (rt_mr al x sx)) (rt_L f (n + rt_mr al y sy)) := rfl
  have hck : (rt_ck f w (n + h) (n + rt_mr al y sy) (rt_mr al x sx)) < 2 ^ 20 := by
    have a := rt_ck_lt (f := f) (w := w) (T := n + h) (ci := n + rt_mr al y sy) (by omega) hm.2
    have b := rt_V_le f (n + h) (rt_L f (n + rt_mr al y sy) + 1)
    have c : (rt_V f (n + h) (rt_L f (n + rt_mr al y sy) + 1) - rt_V f (n + h) (rt_L f (n + rt_mr al y sy))) * w ≤ 24 * 16 := Nat.mul_le_mul (by omega) a2
    omega
  obtain ⟨fl, hfl⟩ : ∃ fl, rt_fa (rt_TX g f w (n + h)) (rt_ln g f w (n + h)) (rt_RR g f w (n + h) w2 (n + rt_mr al y sy) (rt_mr al x sx)) w2 fc (rt_N g f w (n + h) (n + rt_mr al y sy)) = fl := ⟨_, rfl⟩
  obtain ⟨rl, hrl⟩ : ∃ rl, rt_fa (rt_TX g f w (n + h)) (rt_ln g f w (n + h)) (rt_RR g f w (n + h) w2 (n + rt_mr al y sy) (rt_mr al x sx)) w2 rb (rt_N g f w (n + h) (n + rt_mr al y sy)) = rl := ⟨_, rfl⟩
  obtain ⟨fg, hfg⟩ : ∃ fg, rt_ff (rt_RR g f w (n + h) w2 (n + rt_mr al y sy) (rt_mr al x sx)) ff (rt_N g f w (n + h) (n + rt_mr al y sy)) = fg := ⟨_, rfl⟩
  obtain ⟨rg, hrg⟩ : ∃ rg, rt_ff (rt_RR g f w (n + h) w2 (n + rt_mr al y sy) (rt_mr al x sx)) rbf (rt_N g f w (n + h) (n + rt_mr al y sy)) = rg := ⟨_, rfl⟩
  obtain ⟨t, ht⟩ : ∃ t, rt_Bs (rt_RR g f w (n + h) w2 (n + rt_mr al y sy) (rt_mr al x sx)) (rt_N g f w (n + h) (n + rt_mr al y sy)) = t := ⟨_, rfl⟩
  obtain ⟨p, hp⟩ : ∃ p, rt_Bs (rt_RR g f w (n + h) w2 (n + rt_mr al y sy) (rt_mr al x sx)) (rt_L f (n + rt_mr al y sy)) + (rt_ck f w (n + h) (n + rt_mr al y sy) (rt_mr al x sx)) / w2 = p := ⟨_, rfl⟩
  obtain ⟨q, hq⟩ : ∃ q, (rt_ck f w (n + h) (n + rt_mr al y sy) (rt_mr al x sx)) = q := ⟨_, rfl⟩
  obtain ⟨fi, hfi⟩ : ∃ fi, fi = rt_mn (t - h2) p := ⟨_, rfl⟩
  have hpt : p < t := by
    rw [hRR] at hbm
    generalize (rt_ck f w (n + h) (n + rt_mr al y sy) (rt_mr al x sx)) / w2 = d at *
    omega
  have ag : rt_sg fl rl 0 0 (t * 16) := by
    intro i hi
    rw [Nat.zero_add, ← hfl, ← hrl]
    exact rt_fa_u _ _ _ i (by rw [ht]; exact hi)
  have agf : rt_sg fg rg 0 0 t := by
    intro i hi
    rw [Nat.zero_add, ← hfg, ← hrg]
    exact rt_ff_u _ _ _ i (by rw [ht]; exact hi)
  have hb1 : ∀ i, i < t → rt_01 (fg i) := by
    intro i hi
    rw [← hfg, rt_ff_u ff (fun _ => 0) _ i (by rw [ht]; exact hi)]
    exact rt_ff01 (fun _ => rt_01_0) _ i
  have hb2 : ∀ i, i < t → rt_01 (rg i) := by
    intro i hi
    rw [← hrg, rt_ff_u rbf (fun _ => 0) _ i (by rw [ht]; exact hi)]
    exact rt_ff01 (fun _ => rt_01_0) _ i
  have hfp : fi ≤ p ∧ fi ≤ t ∧ p - fi < h2 := by
    subst hfi
    rcases rt_mn_sp (t - h2) p with ⟨a, e⟩ | ⟨a, e⟩ <;> omega
  have hms := rt_mn_sub (a := fi) (b := s)
  have hmod : q % w2 < w2 := Nat.mod_lt _ (by omega)
  have hyy : rt_mn y (h2 - 1) < h2 := by rcases rt_mn_sp y (h2 - 1) with ⟨a, e⟩ | ⟨a, e⟩ <;> omega
  have hxx : rt_mn x (w2 - 1) < w2 := by rcases rt_mn_sp x (w2 - 1) with ⟨a, e⟩ | ⟨a, e⟩ <;> omega
  have F' := rt_Mf_rz F (n2 := rt_mn fi s) (d := fi - rt_mn fi s) (by omega) h22 hms.1 hfp.2.1 agf hb1
  rw [ht] at h96
  rw [hq] at hck
  refine rx_resize cw ch (by omega) (by omega) a4 (by omega) a2 a5 (by omega) h22 w21 w22 (by omega) (by omega) hm.1 hm.2 ht hp hq hpt h96 hck hfi hfl hfg hb1 (fun hal => ?_) (fun hal => ?_)
  · exact ry_resize cw ch C F (by omega) (by omega) a4 (by omega) a2 a5 (by omega) h22 w21 w22 (by omega) (by omega) hm.1 hm.2 ht hp hq hpt h96 hck hfi rfl rfl hrl hrg hb2 (fun _ ls' lr' ll' => ⟨rfl, rl_mk (tp := 0) ⟨w21, w22, h21, h22, a5, hms.2.1, hfp.2.2, hmod, by omega, by omega, a11, rt_01_0, a13, fun z => absurd hal z⟩ (rt_Mc_rm C (by omega) h22 hms.1 hfp.2.1 ag) F'⟩) (fun z => absurd hal z)
  · exact ry_resize cw ch C F (by omega) (by omega) a4 (by omega) a2 a5 (by omega) h22 w21 w22 (by omega) (by omega) hm.1 hm.2 ht hp hq hpt h96 hck hfi rfl rfl hrl hrg hb2 (fun z => absurd z hal) (fun _ mh mw ls' lr' ll' q1 q2 => ⟨rfl, rl_mk (tp := 0) ⟨w21, w22, h21, h22, a5, hms.2.1, hyy, hxx, by omega, by omega, a11, rt_01_0, rt_01_0, fun _ => ⟨hfp.2.2, hmod⟩⟩ (rt_Mc_ra C (by omega) h22 hms.1 hfp.2.1 ag q1 q2) F'⟩)
