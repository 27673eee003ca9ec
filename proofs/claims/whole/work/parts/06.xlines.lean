/-! X's reading of its lines -/
def rt_mr (al : Int32) (a b : Nat) : Nat := if al = 0 then a else b
theorem rx_mr {w h s n y x sy sx tp bt : Nat} {al pd sp fn fu : Int32} {g f fc ff : Nat → Int32} {P : Int32 → Prop} (H : P (nI (rt_mr al y sy))) : wpX_mainCursorRow P (fn, fu, (nI w), (nI h), (nI s), (nI n), al, (nI tp), (nI bt), (nI y), (nI x), pd, (nI sy), (nI sx), sp, g, f, fc, ff) := by
  unfold rt_mr at H
  exact br_c (fun h => by rw [if_pos h] at H; exact H) (fun h => by rw [if_neg h] at H; exact H)
theorem rx_mc {w h s n y x sy sx tp bt : Nat} {al pd sp fn fu : Int32} {g f fc ff : Nat → Int32} {P : Int32 → Prop} (H : P (nI (rt_mr al x sx))) : wpX_mainCursorCol P (fn, fu, (nI w), (nI h), (nI s), (nI n), al, (nI tp), (nI bt), (nI y), (nI x), pd, (nI sy), (nI sx), sp, g, f, fc, ff) := by
  unfold rt_mr at H
  exact br_c (fun h => by rw [if_pos h] at H; exact H) (fun h => by rw [if_neg h] at H; exact H)
theorem rt_fl {f : Nat → Int32} {i : Nat} {v : Int32} (hi : i < 2 ^ 31) (h : f (nI i).toNatClampNeg = v) : f i = v := by rwa [nI_clamp hi] at h
theorem rt_nfl {f : Nat → Int32} {i : Nat} {v : Int32} (hi : i < 2 ^ 31) (h : ¬ f (nI i).toNatClampNeg = v) : ¬ f i = v := by rwa [nI_clamp hi] at h
theorem rt_flE {f : Nat → Int32} {e : Int32} (i : Nat) {v : Int32} (he : e = nI i) (hi : i < 2 ^ 31) (h : f e.toNatClampNeg = v) : f i = v := by rwa [he, nI_clamp hi] at h
theorem rt_nflE {f : Nat → Int32} {e : Int32} (i : Nat) {v : Int32} (he : e = nI i) (hi : i < 2 ^ 31) (h : ¬ f e.toNatClampNeg = v) : ¬ f i = v := by rwa [he, nI_clamp hi] at h
theorem rx_cursorLineL {w h s n y x sy sx tp bt : Nat} {al pd sp fn fu : Int32} {g f fc ff : Nat → Int32} {P : Int32 → Prop} {ci : Nat} (hc : ci ≤ 32) (H : P (nI (rt_L f ci))) : ∃ N, wX_cursorLine_14 P (nI ci) fn fu (nI w) (nI h) (nI s) (nI n) al (nI tp) (nI bt) (nI y) (nI x) pd (nI sy) (nI sx) sp g f fc ff N 0 0 := by
  refine pk_loop (fun N i (l : Int32) => wX_cursorLine_14 P (nI ci) fn fu (nI w) (nI h) (nI s) (nI n) al (nI tp) (nI bt) (nI y) (nI x) pd (nI sy) (nI sx) sp g f fc ff N l (nI i)) (fun i l => l = nI (rt_L f i)) ci 0 0 (Nat.zero_le _) rfl ?_ ?_
  · rintro N l rfl
    exact pk_le ci ci (fun _ => H) (fun z => absurd z (by omega))
  · rintro N i l hi rfl K
    exact pk_le ci i (fun z => absurd z (by omega)) (fun _ => ⟨pk_in i 32 (by omega), br_c (fun h => nm_r (nI_1 _) (nm_r (nI_1 i) (K _ (by rw [rt_L_z (rt_fl (by omega) h)])))) (fun h => nm_r (nI_1 i) (K _ (by rw [rt_L_n (rt_nfl (by omega) h)])))⟩)
theorem rx_cursorLine {w h s n y x sy sx tp bt : Nat} {al pd sp fn fu : Int32} {g f fc ff : Nat → Int32} {P : Int32 → Prop} (hc : n + rt_mr al y sy ≤ 32) (H : P (nI (rt_L f (n + rt_mr al y sy)))) : wpX_cursorLine P (fn, fu, (nI w), (nI h), (nI s), (nI n), al, (nI tp), (nI bt), (nI y), (nI x), pd, (nI sy), (nI sx), sp, g, f, fc, ff) := by
  unfold wpX_cursorLine
  exact rx_mr (nm_r (nI_add _ _) (rx_cursorLineL hc H))
theorem rx_lineStart {w h s n y x sy sx tp bt : Nat} {al pd sp fn fu : Int32} {g f fc ff : Nat → Int32} {P : Int32 → Prop} {A : Int32} (l : Nat) (hT : n + h ≤ 32) (h0 : 0 < n + h) (hl : l ≤ rt_L f (n + h - 1)) (H : P (nI (rt_V f (n + h) l))) (eA : A = nI l := by rfl) : wpX_lineStart P (fn, fu, (nI w), (nI h), (nI s), (nI n), al, (nI tp), (nI bt), (nI y), (nI x), pd, (nI sy), (nI sx), sp, g, f, fc, ff) A := by
  subst eA
  have hle := rt_L_le f (n + h - 1)
  refine nm_r (nI_add _ _) ?_
  refine rt_loop2 (fun N i (qa qb : Int32) => wX_lineStart_18 P (nI l) (nI (n + h)) fn fu (nI w) (nI h) (nI s) (nI n) al (nI tp) (nI bt) (nI y) (nI x) pd (nI sy) (nI sx) sp g f fc ff N qa qb (nI i)) (fun i qa qb => 1 ≤ i ∧ rt_L f (i - 1) ≤ l ∧ qa = nI (rt_V f (n + h) (rt_L f (i - 1))) ∧ qb = nI (rt_L f (i - 1))) (n + h) 1 0 0 (by omega) ⟨Nat.le_refl _, Nat.zero_le _, by rw [show rt_L f (1 - 1) = 0 from rfl, rt_V_0]; rfl, rfl⟩ ?_ ?_
  · rintro N qa qb ⟨h1, h2, rfl, rfl⟩
    refine pk_le (n + h) (n + h) (fun _ => ?_) (fun z => absurd z (by omega))
    rw [show l = rt_L f (n + h - 1) by omega] at H
    exact H
  · rintro N i qa qb hi ⟨h1, h2, rfl, rfl⟩ K
    obtain ⟨j, rfl⟩ : ∃ j, i = j + 1 := ⟨i - 1, by omega⟩
    have hj : rt_L f j ≤ l := h2
    refine pk_le (n + h) (j + 1) (fun z => absurd z (by omega)) (fun _ => pk_le l (rt_L f j) (fun z => ?_) (fun z => ⟨pk_in j 32 (by omega) (nI_pred j), br_c (fun hf => ?_) (fun hf => ?_)⟩))
    · rw [show l = rt_L f j by omega] at H
      exact H
    · have z0 := rt_flE j (nI_pred j) (by omega) hf
      have e := rt_L_z z0
      exact nm_r (nI_1 _) (nm_r (nI_1 (j + 1)) (K _ _ ⟨by omega, show rt_L f (j + 1) ≤ l by omega, show nI (j + 1) = nI (rt_V f (n + h) (rt_L f (j + 1))) by rw [rt_V_st (by omega) z0 (by omega)], show _ = nI (rt_L f (j + 1)) by rw [e]; rfl⟩))
    · have z0 := rt_nflE j (nI_pred j) (by omega) hf
      have e := rt_L_n z0
      exact nm_r (nI_1 (j + 1)) (K _ _ ⟨by omega, show rt_L f (j + 1) ≤ l by omega, show _ = nI (rt_V f (n + h) (rt_L f (j + 1))) by rw [e]; rfl, show _ = nI (rt_L f (j + 1)) by rw [e]; rfl⟩)
/-- the cursor's offset in its line -/
def rt_ck (f : Nat → Int32) (w T ci mc : Nat) : Nat := (ci - rt_V f T (rt_L f ci)) * w + mc
theorem rx_cursorOffset {w h s n y x sy sx tp bt : Nat} {al pd sp fn fu : Int32} {g f fc ff : Nat → Int32} {P : Int32 → Prop} (hT : n + h ≤ 32) (hm : rt_mr al y sy < h) (H : P (nI (rt_ck f w (n + h) (n + rt_mr al y sy) (rt_mr al x sx)))) : wpX_cursorOffset P (fn, fu, (nI w), (nI h), (nI s), (nI n), al, (nI tp), (nI bt), (nI y), (nI x), pd, (nI sy), (nI sx), sp, g, f, fc, ff) := by
  have hr := rt_V_row (f := f) (T := n + h) (r := n + rt_mr al y sy) (by omega)
  have hl := rt_L_m f (show n + rt_mr al y sy ≤ n + h - 1 by omega)
  unfold wpX_cursorOffset
  refine rx_cursorLine (by omega) (rx_lineStart _ hT (by omega) hl (rx_mr (nm_r (e' := nI (n + rt_mr al y sy - rt_V f (n + h) (rt_L f (n + rt_mr al y sy)))) ?_ (rx_mc ?_))))
  · rw [nI_add, pk_sub hr.1]
  · show P (_ * nI w + _)
    rw [pk_mul, nI_add]
    exact H
theorem rx_hasText {w h s n y x sy sx tp bt : Nat} {al pd sp fn fu : Int32} {g f fc ff : Nat → Int32} {P : Int32 → Prop} {A : Int32} (r : Nat) (hr : r < 32) (hw : w ≤ 16) (H1 : rt_hT g w r → P 1) (H0 : ¬ rt_hT g w r → P 0) (eA : A = nI r := by rfl) : wpX_hasText P (fn, fu, (nI w), (nI h), (nI s), (nI n), al, (nI tp), (nI bt), (nI y), (nI x), pd, (nI sy), (nI sx), sp, g, f, fc, ff) A := by
  subst eA
  refine pk_loop (fun N i (_ : Unit) => wX_hasText_2 P (nI r) fn fu (nI w) (nI h) (nI s) (nI n) al (nI tp) (nI bt) (nI y) (nI x) pd (nI sy) (nI sx) sp g f fc ff N (nI i)) (fun i _ => ∀ j, j < i → g (r * 16 + j) = 32) w 0 () (Nat.zero_le _) (fun j hj => by omega) ?_ ?_
  · rintro N _ I
    exact pk_le w w (fun _ => H0 (fun ⟨c, hc, hx⟩ => hx (I c hc))) (fun z => absurd z (by omega))
  · rintro N i _ hi I K
    exact pk_le w i (fun z => absurd z (by omega)) (fun _ => ⟨pk_in (r * 16 + i) 512 (by omega) (rt_ix r i), br_c (fun hx => nm_r (nI_1 i) (K () (lt_s I (rt_flE (r * 16 + i) (rt_ix r i) (by omega) hx)))) (fun hx => H1 ⟨i, hi, rt_nflE (r * 16 + i) (rt_ix r i) (by omega) hx⟩)⟩)
theorem rx_lc54 {w h s n y x sy sx tp bt : Nat} {al pd sp fn fu : Int32} {g f fc ff : Nat → Int32} {P : Int32 → Prop} {J : Int32 → Int32 → Int32 → Prop} {x1 x2 c : Int32} {i : Nat} (hi : i < 32) (H : J (nI (rt_L f (i + 1))) c (nI (i + 1))) : wX_lineCount_54 P J x1 x2 (nI (rt_L f i)) c (nI i) fn fu (nI w) (nI h) (nI s) (nI n) al (nI tp) (nI bt) (nI y) (nI x) pd (nI sy) (nI sx) sp g f fc ff :=
  ⟨pk_in i 32 hi, br_c (fun h => nm_r (by rw [nI_1, rt_L_z (rt_fl (by omega) h)]) (nm_r (nI_1 i) H)) (fun h => by
    rw [rt_L_n (rt_nfl (by omega) h)] at H
    exact nm_r (nI_1 i) H)⟩
theorem rx_lineCount {w h s n y x sy sx tp bt : Nat} {al pd sp fn fu : Int32} {g f fc ff : Nat → Int32} {P : Int32 → Prop} (hT : n + h ≤ 32) (hw : w ≤ 16) (hm : rt_mr al y sy < h) (H : P (nI (rt_N g f w (n + h) (n + rt_mr al y sy)))) : wpX_lineCount P (fn, fu, (nI w), (nI h), (nI s), (nI n), al, (nI tp), (nI bt), (nI y), (nI x), pd, (nI sy), (nI sx), sp, g, f, fc, ff) := by
  refine nm_r (nI_add _ _) (rx_mr (nm_r (nI_add _ _) ?_))
  refine rt_loop2 (fun N i (qa qb : Int32) => wX_lineCount_28 P (nI (n + h)) (nI (n + rt_mr al y sy)) fn fu (nI w) (nI h) (nI s) (nI n) al (nI tp) (nI bt) (nI y) (nI x) pd (nI sy) (nI sx) sp g f fc ff N qa qb (nI i)) (fun i qa qb => qa = nI (rt_L f i) ∧ qb = nI (rt_C f (fun r => r = n + rt_mr al y sy ∨ rt_hT g w r) i)) (n + h) 0 0 0 (Nat.zero_le _) ⟨rfl, rfl⟩ ?_ ?_
  · rintro N qa qb ⟨rfl, rfl⟩
    exact pk_le (n + h) (n + h) (fun _ => H) (fun z => absurd z (by omega))
  · rintro N i qa qb hi ⟨rfl, rfl⟩ K
    have yes : (i = n + rt_mr al y sy ∨ rt_hT g w i) → wX_lineCount_49 P (wX_lineCount_28 P (nI (n + h)) (nI (n + rt_mr al y sy)) fn fu (nI w) (nI h) (nI s) (nI n) al (nI tp) (nI bt) (nI y) (nI x) pd (nI sy) (nI sx) sp g f fc ff N) (nI (n + h)) (nI (n + rt_mr al y sy)) (nI (rt_L f i)) (nI i) fn fu (nI w) (nI h) (nI s) (nI n) al (nI tp) (nI bt) (nI y) (nI x) pd (nI sy) (nI sx) sp g f fc ff := fun hp =>
      nm_r (nI_1 _) (rx_lc54 (by omega) (K _ _ ⟨rfl, by rw [rt_C_t (P := fun r => r = n + rt_mr al y sy ∨ rt_hT g w r) hp]⟩))
    refine pk_le (n + h) i (fun z => absurd z (by omega)) (fun _ => pk_eq i (n + rt_mr al y sy) (fun e => yes (Or.inl e)) (fun e => rx_hasText i (by omega) hw (fun hx => br_f (by decide) (yes (Or.inr hx))) (fun hx => br_t rfl (rx_lc54 (by omega) (K _ _ ⟨rfl, ?_⟩)))))
    rw [rt_C_f (P := fun r => r = n + rt_mr al y sy ∨ rt_hT g w r) (fun z => z.elim e hx)]
theorem rx_lineEnd {w h s n y x sy sx tp bt : Nat} {al pd sp fn fu : Int32} {g f fc ff : Nat → Int32} {P : Int32 → Prop} {A : Int32} (l : Nat) (hT : n + h ≤ 32) (h0 : 0 < n + h) (hl : l ≤ rt_L f (n + h - 1)) (H : P (nI (rt_V f (n + h) (l + 1)))) (eA : A = nI (rt_V f (n + h) l) := by rfl) : wpX_lineEnd P (fn, fu, (nI w), (nI h), (nI s), (nI n), al, (nI tp), (nI bt), (nI y), (nI x), pd, (nI sy), (nI sx), sp, g, f, fc, ff) A := by
  subst eA
  have hne := rt_V_ne h0 hl
  have hle := rt_V_le f (n + h) (l + 1)
  refine nm_r (nI_add _ _) (nm_r (nI_1 _) ?_)
  refine pk_loop (fun N i (_ : Unit) => wX_lineEnd_14 P (nI (n + h)) fn fu (nI w) (nI h) (nI s) (nI n) al (nI tp) (nI bt) (nI y) (nI x) pd (nI sy) (nI sx) sp g f fc ff N (nI i)) (fun i _ => 1 ≤ i ∧ rt_L f (i - 1) = l) (n + h) (rt_V f (n + h) l + 1) () (by omega) ⟨by omega, (rt_V_in (Nat.le_refl _) hne).2⟩ ?_ ?_
  · rintro N _ ⟨h1, h2⟩
    refine pk_le (n + h) (n + h) (fun _ => ?_) (fun z => absurd z (by omega))
    rw [rt_V_T h0 (by omega)] at H
    exact H
  · rintro N i _ hi ⟨h1, h2⟩ K
    obtain ⟨j, rfl⟩ : ∃ j, i = j + 1 := ⟨i - 1, by omega⟩
    have hj : rt_L f j = l := h2
    refine pk_le (n + h) (j + 1) (fun z => absurd z (by omega)) (fun _ => ⟨pk_in j 32 (by omega) (nI_pred j), br_c (fun hf => ?_) (fun hf => nm_r (nI_1 (j + 1)) (K () ⟨by omega, ?_⟩))⟩)
    · have z0 := rt_flE j (nI_pred j) (by omega) hf
      have e := rt_V_st (T := n + h) (by omega) z0 (by omega)
      rw [rt_L_z z0, hj] at e
      rw [e] at H
      exact H
    · show rt_L f (j + 1) = l
      rw [rt_L_n (rt_nflE j (nI_pred j) (by omega) hf), hj]
theorem rx_textChar {w h s n y x sy sx tp bt : Nat} {al pd sp fn fu : Int32} {g f fc ff : Nat → Int32} {P : Int32 → Prop} {A B : Int32} (st j : Nat) (h0 : 0 < w) (hw : w ≤ 16) (hst : st + j / w < 32) (hj : j < 2 ^ 20) (H : P (rt_tx g w st j)) (eA : A = nI st := by rfl) (eB : B = nI j := by rfl) : wpX_textChar P (fn, fu, (nI w), (nI h), (nI s), (nI n), al, (nI tp), (nI bt), (nI y), (nI x), pd, (nI sy), (nI sx), sp, g, f, fc, ff) A B := by
  subst eA eB
  have hm := Nat.mod_lt j h0
  have e : (nI st + nI j / nI w) * 16 + (nI j - nI j / nI w * nI w) = nI ((st + j / w) * 16 + j % w) := by
    rw [pk_rem (by omega) h0 (by omega), pk_div (by omega) h0 (by omega), nI_add, rt_ix]
  refine ⟨nI_ne0 h0 (by omega), nI_ne0 h0 (by omega), pk_in _ 512 (by omega) e, ?_⟩
  rw [rt_rd (a := g) e (by omega)]
  exact H
theorem rx_textLength {w h s n y x sy sx tp bt : Nat} {al pd sp fn fu : Int32} {g f fc ff : Nat → Int32} {P : Int32 → Prop} {A : Int32} (l : Nat) (hT : n + h ≤ 32) (h0 : 0 < n + h) (hw0 : 0 < w) (hw : w ≤ 16) (hl : l ≤ rt_L f (n + h - 1)) (H : P (nI (rt_ln g f w (n + h) l))) (eA : A = nI (rt_V f (n + h) l) := by rfl) : wpX_textLength P (fn, fu, (nI w), (nI h), (nI s), (nI n), al, (nI tp), (nI bt), (nI y), (nI x), pd, (nI sy), (nI sx), sp, g, f, fc, ff) A := by
  subst eA
  have hne := rt_V_ne h0 hl
  have hle := rt_V_le f (n + h) (l + 1)
  have hpl : (rt_V f (n + h) (l + 1) - rt_V f (n + h) l) * w ≤ 32 * 16 := Nat.mul_le_mul (by omega) hw
  unfold wpX_textLength
  refine rx_lineEnd l hT h0 hl (nm_r (show (nI (rt_V f (n + h) (l + 1)) - nI (rt_V f (n + h) l)) * nI w = nI ((rt_V f (n + h) (l + 1) - rt_V f (n + h) l) * w) by rw [pk_sub (by omega), pk_mul]) ⟨_, pk_loopD (fun N i (_ : Unit) => wX_textLength_15 P (nI (rt_V f (n + h) l)) fn fu (nI w) (nI h) (nI s) (nI n) al (nI tp) (nI bt) (nI y) (nI x) pd (nI sy) (nI sx) sp g f fc ff N (nI i)) (fun i _ => i ≤ (rt_V f (n + h) (l + 1) - rt_V f (n + h) l) * w ∧ rt_len (rt_tx g w (rt_V f (n + h) l)) i = rt_ln g f w (n + h) l) ?_ ?_ _ () ⟨Nat.le_refl _, rfl⟩⟩)
  · rintro N _ ⟨h1, h2⟩
    refine pk_le 0 0 (fun _ => ?_) (fun z => absurd z (by omega))
    rw [← h2] at H
    exact H
  · rintro N i _ ⟨h1, h2⟩ K
    have hq : i / w < rt_V f (n + h) (l + 1) - rt_V f (n + h) l := Nat.div_lt_of_lt_mul (by rw [Nat.mul_comm]; omega)
    refine pk_le (i + 1) 0 (fun z => absurd z (by omega)) (fun _ => rx_textChar (rt_V f (n + h) l) i hw0 hw (by omega) (by omega) (br_c (fun hx => nm_r (pk_m1 i) (K () ⟨by omega, ?_⟩)) (fun hx => ?_)) rfl (nI_pred i))
    · rw [← h2, rt_len_b hx]
    · rw [← h2, rt_len_t hx] at H
      exact H
