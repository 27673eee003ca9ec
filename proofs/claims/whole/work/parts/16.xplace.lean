/-! X's reflow, continued: the whole flow, the first row shown, the placing, the cropping -/
theorem rx_flowLines {w h s n y x sy sx tp bt : Nat} {al pd sp fn fu : Int32} {g f fc ff : Nat → Int32} {post : SX → Prop} {A : Int32} (w2 : Nat) (h0 : 0 < h) (hT : n + h ≤ 24) (hw0 : 0 < w) (hw : w ≤ 16) (h24 : 4 ≤ w2) (hw2 : w2 ≤ 16) (hm : rt_mr al y sy < h) (hx : rt_mr al x sx < w) (H : post ((nI (rt_Bs (rt_RR g f w (n + h) w2 (n + rt_mr al y sy) (rt_mr al x sx)) (rt_N g f w (n + h) (n + rt_mr al y sy)))), (nI (rt_Bs (rt_RR g f w (n + h) w2 (n + rt_mr al y sy) (rt_mr al x sx)) (rt_L f (n + rt_mr al y sy)) + rt_ck f w (n + h) (n + rt_mr al y sy) (rt_mr al x sx) / w2)), (nI w), (nI h), (nI s), (nI n), al, (nI tp), (nI bt), (nI y), (nI x), pd, (nI sy), (nI sx), sp, g, f, (rt_fa (rt_TX g f w (n + h)) (rt_ln g f w (n + h)) (rt_RR g f w (n + h) w2 (n + rt_mr al y sy) (rt_mr al x sx)) w2 fc (rt_N g f w (n + h) (n + rt_mr al y sy))), (rt_ff (rt_RR g f w (n + h) w2 (n + rt_mr al y sy) (rt_mr al x sx)) ff (rt_N g f w (n + h) (n + rt_mr al y sy))))) (eA : A = nI w2 := by rfl) : wpX_flowLines post (fn, fu, (nI w), (nI h), (nI s), (nI n), al, (nI tp), (nI bt), (nI y), (nI x), pd, (nI sy), (nI sx), sp, g, f, fc, ff) A := by
  subst eA
  have M := rt_N_M (g := g) (f := f) (w := w) (T := n + h) (ci := n + rt_mr al y sy) hw0 (by omega)
  have hck : rt_ck f w (n + h) (n + rt_mr al y sy) (rt_mr al x sx) < 2 ^ 20 := by
    have a := rt_ck_lt (f := f) (w := w) (T := n + h) (ci := n + rt_mr al y sy) (by omega) hx
    have b := rt_V_le f (n + h) (rt_L f (n + rt_mr al y sy) + 1)
    have c : (rt_V f (n + h) (rt_L f (n + rt_mr al y sy) + 1) - rt_V f (n + h) (rt_L f (n + rt_mr al y sy))) * w ≤ 24 * 16 := Nat.mul_le_mul (by omega) hw
    omega
  unfold wpX_flowLines
  exact rx_lineCount (by omega) hw hm (rx_cursorLine (by omega) (rx_cursorOffset (by omega) hm ⟨nI_ne0 (by omega) (by omega), nm_r (pk_div (by omega) (by omega) (by omega)) (rx_fl29 (by omega) hT hw0 hw h24 hw2 (by omega) hx _ M.2.1 M.1 H)⟩))
theorem rx_first {w h s n y x sy sx tp bt : Nat} {al pd sp : Int32} {g f fc ff : Nat → Int32} {P : Int32 → Prop} {A : Int32} (t p h2 : Nat) (ht : t ≤ 96) (hp : p ≤ 96) (hh : h2 ≤ 8) (H : P (nI (rt_mn (t - h2) p))) (eA : A = nI h2 := by rfl) : wpX_firstShownFlowRow P ((nI t), (nI p), (nI w), (nI h), (nI s), (nI n), al, (nI tp), (nI bt), (nI y), (nI x), pd, (nI sy), (nI sx), sp, g, f, fc, ff) A := by
  subst eA
  unfold wpX_firstShownFlowRow
  exact rx_larger0 t h2 (rx_smaller (t - h2) p H)
theorem rx_placeL {w h s y x sy sx tp bt : Nat} {al pd sp fu : Int32} {g f fc ff : Nat → Int32} {post : Int32 → SX → Prop} (fi h2 n2 d t : Nat) (ht : t ≤ 96) (hn2 : n2 ≤ 16) (hh : h2 ≤ 8) (hd : fi = d + n2) (hf : fi ≤ t) (hb : ∀ i, i < t → rt_01 (ff i)) (H : post (nI (d + (t - fi - h2))) ((nI t), fu, (nI w), (nI h), (nI s), (nI n2), al, (nI tp), (nI bt), (nI y), (nI x), pd, (nI sy), (nI sx), sp, (rt_gP g fc d t (n2 + h2)), (rt_fP f ff d t (n2 + h2)), fc, ff)) : ∃ N, wX_placeFlow_30 post (nI fi) (nI h2) (nI d) (nI (n2 + h2)) N 0 (nI t) fu (nI w) (nI h) (nI s) (nI n2) al (nI tp) (nI bt) (nI y) (nI x) pd (nI sy) (nI sx) sp g f fc ff := by
  refine rt_loop2 (fun N i (qa qb : Nat → Int32) => wX_placeFlow_30 post (nI fi) (nI h2) (nI d) (nI (n2 + h2)) N (nI i) (nI t) fu (nI w) (nI h) (nI s) (nI n2) al (nI tp) (nI bt) (nI y) (nI x) pd (nI sy) (nI sx) sp qa qb fc ff) (fun i qa qb => qa = rt_gP g fc d t i ∧ qb = rt_fP f ff d t i) (n2 + h2) 0 g f (Nat.zero_le _) ⟨by unfold rt_gP; rw [Nat.zero_mul, rt_put_0], by unfold rt_fP; rw [rt_put_0]⟩ ?_ ?_
  · rintro N qa qb ⟨rfl, rfl⟩
    refine pk_le (n2 + h2) (n2 + h2) (fun _ => rx_larger0 (t - fi) h2 ?_ (by rw [pk_sub hf])) (fun z => absurd z (by omega))
    show post (nI d + nI (t - fi - h2)) _
    rw [nI_add]
    exact H
  · rintro N i qa qb hi ⟨rfl, rfl⟩ K
    refine pk_le (n2 + h2) i (fun z => absurd z (by omega)) (fun _ => pk_le t (d + i) (fun z => ?_) (fun z => ?_) rfl (nI_add d i))
    · have e1 : rt_put (rt_gP g fc d t i) (i * 16) 16 (fun _ => 32) = rt_gP g fc d t (i + 1) := by
        unfold rt_gP
        rw [rt_put_a (v := fun i => if d + i / 16 < t then fc (d * 16 + i) else 32) (by omega) (fun j hj => by
          show 32 = _
          rw [if_neg (by omega)])]
        congr 1; omega
      have e2 : upd (rt_fP f ff d t i) i 0 = rt_fP f ff d t (i + 1) := by
        unfold rt_fP
        have q := rt_put_s (g := f) (v := fun r => if d + r < t then ff (d + r) else 0) (b := 0) (m := i) (x := 0) (by
          show 0 = _
          rw [if_neg (by omega)])
        rw [Nat.zero_add] at q
        exact q
      exact rx_clearRow i (by omega) (nm_r (nI_1 i) (K _ _ ⟨e1, e2⟩))
    · have e1 : rt_put (rt_gP g fc d t i) (i * 16) 16 (fun j => fc ((d + i) * 16 + j)) = rt_gP g fc d t (i + 1) := by
        unfold rt_gP
        rw [rt_put_a (v := fun i => if d + i / 16 < t then fc (d * 16 + i) else 32) (by omega) (fun j hj => by
          show fc _ = _
          rw [if_pos (by omega)]
          congr 1; omega)]
        congr 1; omega
      have e2 : upd (rt_fP f ff d t i) i (ff (d + i)) = rt_fP f ff d t (i + 1) := by
        unfold rt_fP
        have q := rt_put_s (g := f) (v := fun r => if d + r < t then ff (d + r) else 0) (b := 0) (m := i) (x := ff (d + i)) (by
          show ff _ = _
          rw [if_pos (by omega)])
        rw [Nat.zero_add] at q
        exact q
      exact rx_takeRow (d + i) i (by omega) (by omega) (hb _ z) (nm_r (nI_1 i) (K _ _ ⟨e1, e2⟩)) (nI_add d i)
theorem rt_mn_sub {a b : Nat} : a = a - rt_mn a b + rt_mn a b ∧ rt_mn a b ≤ b ∧ rt_mn a b ≤ a := by
  rcases rt_mn_sp a b with ⟨p, e⟩ | ⟨p, e⟩ <;> omega
theorem rx_place {w h s n y x sy sx tp bt : Nat} {al pd sp fu : Int32} {g f fc ff : Nat → Int32} {post : Int32 → SX → Prop} {A B : Int32} (fi h2 t : Nat) (ht : t ≤ 96) (hs : s ≤ 16) (hh : h2 ≤ 8) (hf : fi ≤ t) (hb : ∀ i, i < t → rt_01 (ff i)) (H : post (nI (fi - rt_mn fi s + (t - fi - h2))) ((nI t), fu, (nI w), (nI h), (nI s), (nI (rt_mn fi s)), al, (nI tp), (nI bt), (nI y), (nI x), pd, (nI sy), (nI sx), sp, (rt_gP g fc (fi - rt_mn fi s) t (rt_mn fi s + h2)), (rt_fP f ff (fi - rt_mn fi s) t (rt_mn fi s + h2)), fc, ff)) (eA : A = nI fi := by rfl) (eB : B = nI h2 := by rfl) : wpX_placeFlow post ((nI t), fu, (nI w), (nI h), (nI s), (nI n), al, (nI tp), (nI bt), (nI y), (nI x), pd, (nI sy), (nI sx), sp, g, f, fc, ff) A B := by
  subst eA eB
  have m := rt_mn_sub (a := fi) (b := s)
  unfold wpX_placeFlow
  exact rx_smaller fi s (nm_r (pk_sub m.2.2) (nm_r (nI_add _ _) (rx_placeL fi h2 (rt_mn fi s) (fi - rt_mn fi s) t ht (by omega) hh m.1 hf hb H)))
theorem rx_crop18 {w h s n y x sy sx tp bt : Nat} {al pd sp fn fu : Int32} {g f fc ff : Nat → Int32} {post : SX → Prop} {J : Int32 → Int32 → Int32 → Int32 → Int32 → Int32 → Int32 → Int32 → Int32 → Int32 → Int32 → Int32 → Int32 → Int32 → Int32 → Int32 → (Nat → Int32) → (Nat → Int32) → (Nat → Int32) → (Nat → Int32) → Prop} {x1 x2 : Int32} {r c : Nat} (hr : r < 8) (hc : c ≤ 16) (H : J (nI (r + 1)) fn fu (nI w) (nI h) (nI s) (nI n) al (nI tp) (nI bt) (nI y) (nI x) pd (nI sy) (nI sx) sp (rt_put g ((24 + r) * 16 + c) (16 - c) (fun _ => 32)) (upd f (24 + r) 0) fc ff) : wX_cropAlt_18 post J x1 x2 (nI r) (nI c) fn fu (nI w) (nI h) (nI s) (nI n) al (nI tp) (nI bt) (nI y) (nI x) pd (nI sy) (nI sx) sp g f fc ff := by
  unfold wX_cropAlt_18
  exact rx_clearCells (24 + r) c 16 (by omega) hc (by omega) ⟨pk_in (24 + r) 32 (by omega) (nI_add 24 r), nm_r (rt_us (nI_add 24 r) (by omega) rt_nar0) (nm_r (nI_1 r) H)⟩ (nI_add 24 r)
theorem rx_crop {w h s n y x sy sx tp bt : Nat} {al pd sp fn fu : Int32} {g f fc ff : Nat → Int32} {post : SX → Prop} {A B : Int32} (w2 h2 : Nat) (h20 : 0 < h2) (hh : h2 ≤ 8) (w20 : 0 < w2) (hw2 : w2 ≤ 16) (hy : y < 8) (hx : x < 16) (H : post (fn, fu, (nI w), (nI h), (nI s), (nI n), al, (nI tp), (nI bt), (nI (rt_mn y (h2 - 1))), (nI (rt_mn x (w2 - 1))), 0, (nI sy), (nI sx), sp, (rt_crop g 384 h2 w2), (rt_put f 24 8 (fun _ => 0)), fc, ff)) (eA : A = nI w2 := by rfl) (eB : B = nI h2 := by rfl) : wpX_cropAlt post (fn, fu, (nI w), (nI h), (nI s), (nI n), al, (nI tp), (nI bt), (nI y), (nI x), pd, (nI sy), (nI sx), sp, g, f, fc, ff) A B := by
  subst eA eB
  refine rt_loop2 (fun N i (qa qb : Nat → Int32) => wX_cropAlt_2 post (nI w2) (nI h2) N (nI i) fn fu (nI w) (nI h) (nI s) (nI n) al (nI tp) (nI bt) (nI y) (nI x) pd (nI sy) (nI sx) sp qa qb fc ff) (fun i qa qb => qa = rt_put g 384 (i * 16) (fun i => if h2 ≤ i / 16 ∨ w2 ≤ i % 16 then 32 else g (384 + i)) ∧ qb = rt_put f 24 i (fun _ => 0)) 8 0 g f (Nat.zero_le _) ⟨by rw [Nat.zero_mul, rt_put_0], by rw [rt_put_0]⟩ ?_ ?_
  · rintro N qa qb ⟨rfl, rfl⟩
    exact pk_le 8 8 (fun _ => rx_smaller y (h2 - 1) (rx_smaller x (w2 - 1) (rx_move H) rfl (pk_sub (b := 1) (by omega))) rfl (pk_sub (b := 1) (by omega))) (fun z => absurd z (by omega))
  · rintro N i qa qb hi ⟨rfl, rfl⟩ K
    have e2 : upd (rt_put f 24 i (fun _ => 0)) (24 + i) 0 = rt_put f 24 (i + 1) (fun _ => 0) := rt_put_s rfl
    have e1 : ∀ c, (h2 ≤ i ∧ c = 0) ∨ (i < h2 ∧ c = w2) → rt_put (rt_put g 384 (i * 16) (fun i => if h2 ≤ i / 16 ∨ w2 ≤ i % 16 then 32 else g (384 + i))) ((24 + i) * 16 + c) (16 - c) (fun _ => 32) = rt_put g 384 ((i + 1) * 16) (fun i => if h2 ≤ i / 16 ∨ w2 ≤ i % 16 then 32 else g (384 + i)) := by
      intro c hc
      funext q
      simp only [rt_put]
      repeat' split
      all_goals first | omega | rfl | (congr 1; omega)
    exact pk_le 8 i (fun z => absurd z (by omega)) (fun _ => pk_le h2 i (fun z => rx_crop18 (c := 0) hi (by omega) (K _ _ ⟨e1 0 (Or.inl ⟨z, rfl⟩), e2⟩)) (fun z => rx_crop18 hi hw2 (K _ _ ⟨e1 w2 (Or.inr ⟨z, rfl⟩), e2⟩)))
