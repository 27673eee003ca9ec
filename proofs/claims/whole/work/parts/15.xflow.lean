/-! X's reflow -/
def rt_TX (g f : Nat → Int32) (w T : Nat) : Nat → Nat → Int32 := fun l => rt_tx g w (rt_V f T l)
def rt_RR (g f : Nat → Int32) (w T w2 ci mc : Nat) : Nat → Nat := rt_R (rt_ln g f w T) w2 (rt_L f ci) (rt_ck f w T ci mc)
theorem rt_ck_lt {f : Nat → Int32} {w T ci mc : Nat} (hc : ci < T) (hm : mc < w) : rt_ck f w T ci mc < (rt_V f T (rt_L f ci + 1) - rt_V f T (rt_L f ci)) * w := by
  have r := rt_V_row (f := f) hc
  have a : (ci - rt_V f T (rt_L f ci) + 1) * w ≤ (rt_V f T (rt_L f ci + 1) - rt_V f T (rt_L f ci)) * w := Nat.mul_le_mul_right _ (by omega)
  rw [Nat.add_mul] at a
  unfold rt_ck
  omega
theorem rt_RR_le {g f : Nat → Int32} {w T w2 ci mc l : Nat} (h0 : 0 < T) (hw : w ≤ 16) (h2 : 4 ≤ w2) (hc : ci < T) (hm : mc < w) (hl : l ≤ rt_L f (T - 1)) : rt_RR g f w T w2 ci mc l ≤ 4 * (rt_V f T (l + 1) - rt_V f T l) := by
  have hne := rt_V_ne h0 hl
  refine rt_R_le hw h2 (by omega) (rt_len_le _ _) (fun e => ?_)
  subst e
  exact rt_ck_lt hc hm
theorem rt_Bs_96 {g f : Nat → Int32} {w T w2 ci mc m : Nat} (h0 : 0 < T) (hT : T ≤ 24) (hw : w ≤ 16) (h2 : 4 ≤ w2) (hc : ci < T) (hm : mc < w) (hl : m ≤ rt_L f (T - 1) + 1) : rt_Bs (rt_RR g f w T w2 ci mc) m ≤ 96 := by
  have a := rt_Bs_le (R := rt_RR g f w T w2 ci mc) (V := rt_V f T) (m := m) (fun l _ => rt_V_mono f T (by omega)) (fun l hl' => rt_RR_le h0 hw h2 hc hm (by omega))
  have b := rt_V_le f T m
  omega
theorem rx_fr30a {w h s n y x sy sx tp bt : Nat} {al pd sp fn fu : Int32} {g f fc ff : Nat → Int32} {post : SX → Prop} {J : Int32 → (Nat → Int32) → (Nat → Int32) → (Nat → Int32) → (Nat → Int32) → Prop} {x1 x2 x3 x4 : Int32} {t i : Nat} (ht : t < 96) (hi : i < 16) (H : J (nI (i + 1)) g f (upd fc (t * 16 + i) 32) ff) : wX_flowRow_30 post J x1 x2 x3 x4 (nI i) 0 (nI t) fu (nI w) (nI h) (nI s) (nI n) al (nI tp) (nI bt) (nI y) (nI x) pd (nI sy) (nI sx) sp g f fc ff :=
  br_t rfl ⟨pk_in (t * 16 + i) 1536 (by omega) (rt_ix t i), nm_r (rt_us (rt_ix t i) (by omega) rfl) (nm_r (nI_1 i) H)⟩
theorem rx_flowRow {w h s n y x sy sx tp bt : Nat} {al pd sp fu : Int32} {g f fc ff : Nat → Int32} {post : SX → Prop} {E : Int32} (st len j w2 t : Nat) (ht : t < 96) (hw0 : 0 < w) (hw : w ≤ 16) (hw2 : w2 ≤ 16) (hlen : len < 2 ^ 20) (hj : j * w2 < 2 ^ 20) (hin : ∀ q, q < len → st + q / w < 32) (H : post ((nI t), fu, (nI w), (nI h), (nI s), (nI n), al, (nI tp), (nI bt), (nI y), (nI x), pd, (nI sy), (nI sx), sp, g, f, (rt_put fc (t * 16) 16 (rt_val (rt_tx g w st) len w2 j)), ff)) (eE : E = nI (j * w2) := by rfl) : wpX_flowRow post ((nI t), fu, (nI w), (nI h), (nI s), (nI n), al, (nI tp), (nI bt), (nI y), (nI x), pd, (nI sy), (nI sx), sp, g, f, fc, ff) (nI st) (nI len) E (nI w2) := by
  subst eE
  refine pk_loop (fun N i c => wX_flowRow_3 post (nI st) (nI len) (nI (j * w2)) (nI w2) (nI t) fu (nI w) (nI h) (nI s) (nI n) al (nI tp) (nI bt) (nI y) (nI x) pd (nI sy) (nI sx) sp N (nI i) g f c ff) (fun i c => c = rt_put fc (t * 16) i (rt_val (rt_tx g w st) len w2 j)) 16 0 fc (by omega) (rt_put_0 _ _ _).symm ?_ ?_
  · rintro N c rfl
    exact pk_le 16 16 (fun _ => H) (fun z => absurd z (by omega))
  · rintro N i c hi rfl K
    refine pk_le 16 i (fun z => absurd z (by omega)) (fun _ => pk_le w2 i (fun z => rx_fr30a (fn := 0) ht hi (K _ (rt_put_s (rt_val_w z).symm))) (fun z => pk_le len (j * w2 + i) (fun z2 => rx_fr30a (fn := 0) ht hi (K _ (rt_put_s (rt_val_l z2).symm))) (fun z2 => br_f (by decide) (rx_textChar st (j * w2 + i) hw0 hw (hin _ z2) (by omega) ⟨pk_in (t * 16 + i) 1536 (by omega) (rt_ix t i), nm_r (rt_us (rt_ix t i) (by omega) rfl) (nm_r (nI_1 i) (K _ (rt_put_s (rt_val_t z z2).symm)))⟩ rfl (nI_add _ _))) rfl (nI_add _ _)))
theorem rx_fl130 {w h s n y x sy sx tp bt : Nat} {al pd sp fn fu : Int32} {g f fc ff : Nat → Int32} {post : SX → Prop} {J29 : Int32 → Int32 → Int32 → Int32 → Int32 → Int32 → Int32 → Int32 → Int32 → Int32 → Int32 → Int32 → Int32 → Int32 → Int32 → Int32 → Int32 → (Nat → Int32) → (Nat → Int32) → (Nat → Int32) → (Nat → Int32) → Prop} {J88 : Int32 → Int32 → Int32 → Int32 → Int32 → Int32 → Int32 → Int32 → Int32 → Int32 → Int32 → Int32 → Int32 → Int32 → Int32 → Int32 → (Nat → Int32) → (Nat → Int32) → (Nat → Int32) → (Nat → Int32) → Prop} {x1 x2 x3 x4 x5 x6 x7 x8 z0 : Int32} {t j : Nat} (ht : t < 96) (hz : rt_01 z0) (H : J88 (nI (j + 1)) (nI (t + 1)) fu (nI w) (nI h) (nI s) (nI n) al (nI tp) (nI bt) (nI y) (nI x) pd (nI sy) (nI sx) sp g f fc (upd ff t z0)) : wX_flowLines_130 post J29 J88 x1 x2 x3 x4 x5 x6 x7 x8 (nI j) z0 (nI t) (nI t) fu (nI w) (nI h) (nI s) (nI n) al (nI tp) (nI bt) (nI y) (nI x) pd (nI sy) (nI sx) sp g f fc ff :=
  ⟨pk_in t 96 ht, nm_r (rt_us rfl (by omega) (rt_nar hz)) (nm_r (nI_1 t) (nm_r (nI_1 j) H))⟩
theorem rx_fl88 {w h s n y x sy sx tp bt : Nat} {al pd sp fu : Int32} {g f fc ff : Nat → Int32} {post : SX → Prop} {J29 : Int32 → Int32 → Int32 → Int32 → Int32 → Int32 → Int32 → Int32 → Int32 → Int32 → Int32 → Int32 → Int32 → Int32 → Int32 → Int32 → Int32 → (Nat → Int32) → (Nat → Int32) → (Nat → Int32) → (Nat → Int32) → Prop} {x2 x3 x4 x6 : Int32} (st len w2 B R : Nat) (hR : 1 ≤ R) (hB : B + R ≤ 96) (hw0 : 0 < w) (hw : w ≤ 16) (hw2 : w2 ≤ 16) (hlen : len < 2 ^ 20) (hin : ∀ q, q < len → st + q / w < 32) (H : wpX_lineEnd (fun r => ∀ q : Int32, q = x6 + 1 → J29 r q (nI (B + R)) fu (nI w) (nI h) (nI s) (nI n) al (nI tp) (nI bt) (nI y) (nI x) pd (nI sy) (nI sx) sp g f (rt_put fc (B * 16) (R * 16) (rt_rowv (rt_tx g w st) len w2)) (rt_put ff B R (rt_flg R))) ((nI (B + R)), fu, (nI w), (nI h), (nI s), (nI n), al, (nI tp), (nI bt), (nI y), (nI x), pd, (nI sy), (nI sx), sp, g, f, (rt_put fc (B * 16) (R * 16) (rt_rowv (rt_tx g w st) len w2)), (rt_put ff B R (rt_flg R))) (nI st)) : ∃ N, wX_flowLines_88 post J29 (nI w2) x2 x3 x4 (nI st) x6 (nI len) (nI R) N 0 (nI B) fu (nI w) (nI h) (nI s) (nI n) al (nI tp) (nI bt) (nI y) (nI x) pd (nI sy) (nI sx) sp g f fc ff := by
  refine rt_loop2 (fun N i (qa qb : Nat → Int32) => wX_flowLines_88 post J29 (nI w2) x2 x3 x4 (nI st) x6 (nI len) (nI R) N (nI i) (nI (B + i)) fu (nI w) (nI h) (nI s) (nI n) al (nI tp) (nI bt) (nI y) (nI x) pd (nI sy) (nI sx) sp g f qa qb) (fun i qa qb => qa = rt_put fc (B * 16) (i * 16) (rt_rowv (rt_tx g w st) len w2) ∧ qb = rt_put ff B i (rt_flg R)) R 0 fc ff (Nat.zero_le _) ⟨by rw [Nat.zero_mul, rt_put_0], by rw [rt_put_0]⟩ ?_ ?_
  · rintro N qa qb ⟨rfl, rfl⟩
    exact pk_le R R (fun _ => H) (fun z => absurd z (by omega))
  · rintro N i qa qb hi ⟨rfl, rfl⟩ K
    have e1 : rt_put (rt_put fc (B * 16) (i * 16) (rt_rowv (rt_tx g w st) len w2)) ((B + i) * 16) 16 (rt_val (rt_tx g w st) len w2 i) = rt_put fc (B * 16) ((i + 1) * 16) (rt_rowv (rt_tx g w st) len w2) := by
      rw [rt_put_a (v := rt_rowv (rt_tx g w st) len w2) (by omega) (fun c hc => (rt_rowv_at _ _ _ _ _ hc).symm)]
      congr 1; omega
    have hiw : i * w2 ≤ 96 * 16 := Nat.mul_le_mul (by omega) hw2
    have er : nI R - 1 = nI (R - 1) := pk_sub (b := 1) (by omega)
    refine pk_le R i (fun z => absurd z (by omega)) (fun _ => rx_flowRow st len i w2 (B + i) (by omega) hw0 hw hw2 hlen (by omega) hin (pk_le (R - 1) i (fun z => rx_fl130 (fn := 0) (by omega) rt_01_0 (K _ _ ⟨e1, rt_put_s ?_⟩)) (fun z => rx_fl130 (fn := 0) (by omega) rt_01_1 (K _ _ ⟨e1, rt_put_s ?_⟩)) er) (pk_mul _ _))
    · unfold rt_flg; rw [if_neg (by omega)]
    · unfold rt_flg; rw [if_pos (by omega)]

theorem rx_fl29 {w h s n y x sy sx tp bt : Nat} {al pd sp : Int32} {g f fc ff : Nat → Int32} {post : SX → Prop} {w2 ci mc : Nat} {f0 : Int32} (hT0 : 0 < n + h) (hT : n + h ≤ 24) (hw0 : 0 < w) (hw : w ≤ 16) (h24 : 4 ≤ w2) (hw2 : w2 ≤ 16) (hc : ci < n + h) (hm : mc < w) (M : Nat) (hM : M ≤ rt_L f (n + h - 1) + 1) (hcM : rt_L f ci < M) (H : post ((nI (rt_Bs (rt_RR g f w (n + h) w2 ci mc) M)), (nI (rt_Bs (rt_RR g f w (n + h) w2 ci mc) (rt_L f ci) + rt_ck f w (n + h) ci mc / w2)), (nI w), (nI h), (nI s), (nI n), al, (nI tp), (nI bt), (nI y), (nI x), pd, (nI sy), (nI sx), sp, g, f, (rt_fa (rt_TX g f w (n + h)) (rt_ln g f w (n + h)) (rt_RR g f w (n + h) w2 ci mc) w2 fc M), (rt_ff (rt_RR g f w (n + h) w2 ci mc) ff M))) : ∃ N, wX_flowLines_29 post (nI w2) (nI M) (nI (rt_L f ci)) (nI (rt_ck f w (n + h) ci mc / w2)) N 0 0 0 f0 (nI w) (nI h) (nI s) (nI n) al (nI tp) (nI bt) (nI y) (nI x) pd (nI sy) (nI sx) sp g f fc ff := by
  have hL := rt_L_le f (n + h - 1)
  have hckw : rt_ck f w (n + h) ci mc / w2 ≤ 96 := by
    have a := rt_Bs_96 (g := g) (f := f) (m := rt_L f ci + 1) hT0 hT hw h24 hc hm (by omega)
    rw [rt_Bs_s] at a
    have b := rt_R_cur (rt_ln g f w (n + h)) w2 (rt_L f ci) (rt_ck f w (n + h) ci mc)
    have e : rt_RR g f w (n + h) w2 ci mc (rt_L f ci) = rt_R (rt_ln g f w (n + h)) w2 (rt_L f ci) (rt_ck f w (n + h) ci mc) (rt_L f ci) := rfl
    omega
  refine rt_loop3 (fun N l (q : Int32) (qa qb : Nat → Int32) => wX_flowLines_29 post (nI w2) (nI M) (nI (rt_L f ci)) (nI (rt_ck f w (n + h) ci mc / w2)) N (nI (rt_V f (n + h) l)) (nI l) (nI (rt_Bs (rt_RR g f w (n + h) w2 ci mc) l)) q (nI w) (nI h) (nI s) (nI n) al (nI tp) (nI bt) (nI y) (nI x) pd (nI sy) (nI sx) sp g f qa qb) (fun l q qa qb => (rt_L f ci < l → q = nI (rt_Bs (rt_RR g f w (n + h) w2 ci mc) (rt_L f ci) + rt_ck f w (n + h) ci mc / w2)) ∧ qa = rt_fa (rt_TX g f w (n + h)) (rt_ln g f w (n + h)) (rt_RR g f w (n + h) w2 ci mc) w2 fc l ∧ qb = rt_ff (rt_RR g f w (n + h) w2 ci mc) ff l) M 0 f0 fc ff (Nat.zero_le _) ⟨fun z => by omega, rfl, rfl⟩ ?_ ?_ |> fun H => by
    rw [rt_V_0] at H
    exact H
  · rintro N q qa qb ⟨h1, rfl, rfl⟩
    obtain rfl := h1 hcM
    exact pk_le M M (fun _ => H) (fun z => absurd z (by omega))
  · rintro N l q qa qb hl ⟨h1, rfl, rfl⟩ K
    have h96 := rt_Bs_96 (g := g) (f := f) (m := l + 1) hT0 hT hw h24 hc hm (by omega)
    rw [rt_Bs_s] at h96
    have hne := rt_V_ne (f := f) (l := l) hT0 (by omega)
    have hVl := rt_V_le f (n + h) (l + 1)
    have hlen := rt_ln_le g f w (n + h) l
    have hlen2 : (n + h) * w ≤ 24 * 16 := Nat.mul_le_mul hT hw
    have hin : ∀ q, q < rt_ln g f w (n + h) l → rt_V f (n + h) l + q / w < 32 := fun q hq => by
      have a : q < (rt_V f (n + h) (l + 1) - rt_V f (n + h) l) * w := Nat.lt_of_lt_of_le hq (rt_len_le _ _)
      have b : q / w < rt_V f (n + h) (l + 1) - rt_V f (n + h) l := Nat.div_lt_of_lt_mul (by rw [Nat.mul_comm]; exact a)
      exact Nat.lt_of_lt_of_le (Nat.add_lt_of_lt_sub' b) (by omega)
    have hR := rt_R_pos (rt_ln g f w (n + h)) w2 (rt_L f ci) (rt_ck f w (n + h) ci mc) l
    have ed : (nI (rt_ln g f w (n + h) l) + nI w2 - 1) / nI w2 = nI ((rt_ln g f w (n + h) l + w2 - 1) / w2) := by
      rw [nI_add, show (1 : Int32) = nI 1 from rfl, pk_sub (by omega), pk_div (by omega) (by omega) (by omega)]
    have hd : (rt_ln g f w (n + h) l + w2 - 1) / w2 < 2 ^ 20 := Nat.lt_of_le_of_lt (Nat.div_le_self _ _) (by omega)
    have go : ∀ q : Int32, (rt_L f ci < l + 1 → q = nI (rt_Bs (rt_RR g f w (n + h) w2 ci mc) (rt_L f ci) + rt_ck f w (n + h) ci mc / w2)) → ∃ N88, wX_flowLines_88 post (wX_flowLines_29 post (nI w2) (nI M) (nI (rt_L f ci)) (nI (rt_ck f w (n + h) ci mc / w2)) N) (nI w2) (nI M) (nI (rt_L f ci)) (nI (rt_ck f w (n + h) ci mc / w2)) (nI (rt_V f (n + h) l)) (nI l) (nI (rt_ln g f w (n + h) l)) (nI (rt_RR g f w (n + h) w2 ci mc l)) N88 0 (nI (rt_Bs (rt_RR g f w (n + h) w2 ci mc) l)) q (nI w) (nI h) (nI s) (nI n) al (nI tp) (nI bt) (nI y) (nI x) pd (nI sy) (nI sx) sp g f (rt_fa (rt_TX g f w (n + h)) (rt_ln g f w (n + h)) (rt_RR g f w (n + h) w2 ci mc) w2 fc l) (rt_ff (rt_RR g f w (n + h) w2 ci mc) ff l) := fun q hq =>
      rx_fl88 (rt_V f (n + h) l) (rt_ln g f w (n + h) l) w2 (rt_Bs (rt_RR g f w (n + h) w2 ci mc) l) (rt_RR g f w (n + h) w2 ci mc l) hR (by omega) hw0 hw hw2 (by omega) hin (rx_lineEnd l (by omega) hT0 (by omega) (nm_r (nI_1 l) (K q _ _ ⟨hq, rfl, rfl⟩)))
    refine pk_le M l (fun z => absurd z (by omega)) (fun _ => rx_textLength l (by omega) hT0 hw0 hw (by omega) ⟨nI_ne0 (by omega) (by omega), rx_larger 1 ((rt_ln g f w (n + h) l + w2 - 1) / w2) (pk_eq l (rt_L f ci) (fun z => ?_) (fun z => ?_)) rfl ed⟩)
    · have hR0 : rt_R0 w2 (rt_ln g f w (n + h) l) < 2 ^ 21 := by
        unfold rt_R0
        rcases rt_mx_sp 1 ((rt_ln g f w (n + h) l + w2 - 1) / w2) with p | p <;> omega
      refine rx_larger (rt_R0 w2 (rt_ln g f w (n + h) l)) (rt_ck f w (n + h) ci mc / w2 + 1) (nm_r (nI_add _ _) ?_) rfl (nI_1 _)
      have e : rt_mx (rt_R0 w2 (rt_ln g f w (n + h) l)) (rt_ck f w (n + h) ci mc / w2 + 1) = rt_RR g f w (n + h) w2 ci mc l := by
        unfold rt_RR rt_R
        rw [if_pos z]
      rw [e]
      exact go _ (fun _ => by rw [z])
    · have e : rt_mx 1 ((rt_ln g f w (n + h) l + w2 - 1) / w2) = rt_RR g f w (n + h) w2 ci mc l := by
        unfold rt_RR rt_R
        rw [if_neg z]
        rfl
      rw [e]
      exact go q (fun p => h1 (by omega))
