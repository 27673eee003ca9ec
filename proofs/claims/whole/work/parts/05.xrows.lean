/-! X's stores by rows -/
theorem rx_clearRow {w h s n y x sy sx tp bt : Nat} {al pd sp fn fu : Int32} {g f fc ff : Nat → Int32} {post : SX → Prop} {A : Int32} (k : Nat) (hk : k < 32) (H : post (fn, fu, (nI w), (nI h), (nI s), (nI n), al, (nI tp), (nI bt), (nI y), (nI x), pd, (nI sy), (nI sx), sp, (rt_put g (k * 16) 16 (fun _ => 32)), (upd f k 0), fc, ff)) (eA : A = nI k := by rfl) : wpX_clearRow post (fn, fu, (nI w), (nI h), (nI s), (nI n), al, (nI tp), (nI bt), (nI y), (nI x), pd, (nI sy), (nI sx), sp, g, f, fc, ff) A := by
  subst eA
  refine pk_loop (fun N i a => wX_clearRow_2 post (nI k) fn fu (nI w) (nI h) (nI s) (nI n) al (nI tp) (nI bt) (nI y) (nI x) pd (nI sy) (nI sx) sp N (nI i) a f fc ff) (fun i a => a = rt_put g (k * 16) i (fun _ => 32)) 16 0 g (by omega) (rt_put_0 _ _ _).symm ?_ ?_
  · rintro N a rfl
    exact pk_le 16 16 (fun _ => ⟨pk_in k 32 hk, nm_r (rt_us rfl (by omega) rt_nar0) H⟩) (fun z => absurd z (by omega))
  · rintro N i a hi rfl K
    exact pk_le 16 i (fun z => absurd z (by omega)) (fun _ => ⟨pk_in (k * 16 + i) 512 (by omega) (rt_ix k i), nm_r ((rt_us (rt_ix k i) (by omega) rfl).trans (rt_put_s rfl)) (nm_r (nI_1 i) (K _ rfl))⟩)
theorem rx_copyRow {w h s n y x sy sx tp bt : Nat} {al pd sp fn fu : Int32} {g f fc ff : Nat → Int32} {post : SX → Prop} {A B : Int32} (a b : Nat) (ha : a < 32) (hb : b < 32) (hab : a ≠ b) (hf : rt_01 (f a)) (H : post (fn, fu, (nI w), (nI h), (nI s), (nI n), al, (nI tp), (nI bt), (nI y), (nI x), pd, (nI sy), (nI sx), sp, (rt_put g (b * 16) 16 (fun j => g (a * 16 + j))), (upd f b (f a)), fc, ff)) (eA : A = nI a := by rfl) (eB : B = nI b := by rfl) : wpX_copyRow post (fn, fu, (nI w), (nI h), (nI s), (nI n), al, (nI tp), (nI bt), (nI y), (nI x), pd, (nI sy), (nI sx), sp, g, f, fc, ff) A B := by
  subst eA eB
  refine pk_loop (fun N i c => wX_copyRow_2 post (nI a) (nI b) fn fu (nI w) (nI h) (nI s) (nI n) al (nI tp) (nI bt) (nI y) (nI x) pd (nI sy) (nI sx) sp N (nI i) c f fc ff) (fun i c => c = rt_put g (b * 16) i (fun j => g (a * 16 + j))) 16 0 g (by omega) (rt_put_0 _ _ _).symm ?_ ?_
  · rintro N c rfl
    exact pk_le 16 16 (fun _ => ⟨pk_in a 32 ha, pk_in b 32 hb, nm_r (rt_us rfl (by omega) ((congrArg _ (rt_rd rfl (by omega))).trans (rt_nar hf))) H⟩) (fun z => absurd z (by omega))
  · rintro N i c hi rfl K
    exact pk_le 16 i (fun z => absurd z (by omega)) (fun _ => ⟨pk_in (a * 16 + i) 512 (by omega) (rt_ix a i), pk_in (b * 16 + i) 512 (by omega) (rt_ix b i), nm_r ((rt_us (rt_ix b i) (by omega) ((rt_rd (rt_ix a i) (by omega)).trans (rt_put_out (by omega)))).trans (rt_put_s rfl)) (nm_r (nI_1 i) (K _ rfl))⟩)
theorem rx_takeRow {w h s n y x sy sx tp bt : Nat} {al pd sp fn fu : Int32} {g f fc ff : Nat → Int32} {post : SX → Prop} {A B : Int32} (a b : Nat) (ha : a < 96) (hb : b < 32) (hf : rt_01 (ff a)) (H : post (fn, fu, (nI w), (nI h), (nI s), (nI n), al, (nI tp), (nI bt), (nI y), (nI x), pd, (nI sy), (nI sx), sp, (rt_put g (b * 16) 16 (fun j => fc (a * 16 + j))), (upd f b (ff a)), fc, ff)) (eA : A = nI a := by rfl) (eB : B = nI b := by rfl) : wpX_takeFlowRow post (fn, fu, (nI w), (nI h), (nI s), (nI n), al, (nI tp), (nI bt), (nI y), (nI x), pd, (nI sy), (nI sx), sp, g, f, fc, ff) A B := by
  subst eA eB
  refine pk_loop (fun N i c => wX_takeFlowRow_2 post (nI a) (nI b) fn fu (nI w) (nI h) (nI s) (nI n) al (nI tp) (nI bt) (nI y) (nI x) pd (nI sy) (nI sx) sp N (nI i) c f fc ff) (fun i c => c = rt_put g (b * 16) i (fun j => fc (a * 16 + j))) 16 0 g (by omega) (rt_put_0 _ _ _).symm ?_ ?_
  · rintro N c rfl
    exact pk_le 16 16 (fun _ => ⟨pk_in a 96 ha, pk_in b 32 hb, nm_r (rt_us rfl (by omega) ((congrArg _ (rt_rd rfl (by omega))).trans (rt_nar hf))) H⟩) (fun z => absurd z (by omega))
  · rintro N i c hi rfl K
    exact pk_le 16 i (fun z => absurd z (by omega)) (fun _ => ⟨pk_in (a * 16 + i) 1536 (by omega) (rt_ix a i), pk_in (b * 16 + i) 512 (by omega) (rt_ix b i), nm_r ((rt_us (rt_ix b i) (by omega) (rt_rd (rt_ix a i) (by omega))).trans (rt_put_s rfl)) (nm_r (nI_1 i) (K _ rfl))⟩)
theorem rx_clearCells {w h s n y x sy sx tp bt : Nat} {al pd sp fn fu : Int32} {g f fc ff : Nat → Int32} {post : SX → Prop} {K A B : Int32} (k a b : Nat) (hk : k < 32) (hab : a ≤ b) (hb : b ≤ 16) (H : post (fn, fu, (nI w), (nI h), (nI s), (nI n), al, (nI tp), (nI bt), (nI y), (nI x), pd, (nI sy), (nI sx), sp, (rt_put g (k * 16 + a) (b - a) (fun _ => 32)), f, fc, ff)) (eK : K = nI k := by rfl) (eA : A = nI a := by rfl) (eB : B = nI b := by rfl) : wpX_clearCells post (fn, fu, (nI w), (nI h), (nI s), (nI n), al, (nI tp), (nI bt), (nI y), (nI x), pd, (nI sy), (nI sx), sp, g, f, fc, ff) K A B := by
  subst eK eA eB
  refine pk_loop (fun N i c => wX_clearCells_3 post (nI k) (nI b) fn fu (nI w) (nI h) (nI s) (nI n) al (nI tp) (nI bt) (nI y) (nI x) pd (nI sy) (nI sx) sp N (nI i) c f fc ff) (fun i c => a ≤ i ∧ c = rt_put g (k * 16 + a) (i - a) (fun _ => 32)) b a g hab ⟨Nat.le_refl _, by rw [Nat.sub_self, rt_put_0]⟩ ?_ ?_
  · rintro N c ⟨-, rfl⟩
    exact pk_le b b (fun _ => H) (fun z => absurd z (by omega))
  · rintro N i c hi ⟨ha, rfl⟩ K
    refine pk_le b i (fun z => absurd z (by omega)) (fun _ => ⟨pk_in (k * 16 + i) 512 (by omega) (rt_ix k i), nm_r ((rt_us (rt_ix k i) (by omega) rfl).trans ?_) (nm_r (nI_1 i) (K (rt_put g (k * 16 + a) (i + 1 - a) (fun _ => 32)) ⟨by omega, rfl⟩))⟩)
    rw [show k * 16 + i = k * 16 + a + (i - a) by omega, show i + 1 - a = i - a + 1 by omega]
    exact rt_put_s rfl
theorem rx_clearRows {w h s n y x sy sx tp bt : Nat} {al pd sp fn fu : Int32} {g f fc ff : Nat → Int32} {post : SX → Prop} {A B : Int32} (a b : Nat) (hab : a ≤ b) (hb : b ≤ 32) (H : post (fn, fu, (nI w), (nI h), (nI s), (nI n), al, (nI tp), (nI bt), (nI y), (nI x), pd, (nI sy), (nI sx), sp, (rt_put g (a * 16) ((b - a) * 16) (fun _ => 32)), (rt_put f a (b - a) (fun _ => 0)), fc, ff)) (eA : A = nI a := by rfl) (eB : B = nI b := by rfl) : wpX_clearRows post (fn, fu, (nI w), (nI h), (nI s), (nI n), al, (nI tp), (nI bt), (nI y), (nI x), pd, (nI sy), (nI sx), sp, g, f, fc, ff) A B := by
  subst eA eB
  refine rt_loop2 (fun N i (qa qb : Nat → Int32) => wX_clearRows_2 post (nI b) N (nI i) fn fu (nI w) (nI h) (nI s) (nI n) al (nI tp) (nI bt) (nI y) (nI x) pd (nI sy) (nI sx) sp qa qb fc ff) (fun i qa qb => a ≤ i ∧ qa = rt_put g (a * 16) ((i - a) * 16) (fun _ => 32) ∧ qb = rt_put f a (i - a) (fun _ => 0)) b a g f hab ⟨Nat.le_refl _, by rw [Nat.sub_self, Nat.zero_mul, rt_put_0], by rw [Nat.sub_self, rt_put_0]⟩ ?_ ?_
  · rintro N qa qb ⟨-, rfl, rfl⟩
    exact pk_le b b (fun _ => H) (fun z => absurd z (by omega))
  · rintro N i qa qb hi ⟨ha, rfl, rfl⟩ K
    have e1 : rt_put (rt_put g (a * 16) ((i - a) * 16) (fun _ => 32)) (i * 16) 16 (fun _ => 32) = rt_put g (a * 16) ((i + 1 - a) * 16) (fun _ => 32) := by
      rw [rt_put_a (v := fun _ => 32) (by omega) (fun _ _ => rfl)]; congr 1; omega
    have e2 : upd (rt_put f a (i - a) (fun _ => 0)) i 0 = rt_put f a (i + 1 - a) (fun _ => 0) := by
      have h := rt_put_s (g := f) (v := fun _ => 0) (b := a) (m := i - a) (x := 0) rfl
      rw [show a + (i - a) = i by omega, show i - a + 1 = i + 1 - a by omega] at h
      exact h
    exact pk_le b i (fun z => absurd z (by omega)) (fun _ => rx_clearRow i (by omega) (nm_r (nI_1 i) (K _ _ ⟨by omega, e1, e2⟩)))
theorem rx_shiftUp {w h s n y x sy sx tp bt : Nat} {al pd sp fn fu : Int32} {g f fc ff : Nat → Int32} {post : SX → Prop} {A B : Int32} (a b : Nat) (hab : a ≤ b) (hb : b < 32) (hf : rt_B01 f) (H : post (fn, fu, (nI w), (nI h), (nI s), (nI n), al, (nI tp), (nI bt), (nI y), (nI x), pd, (nI sy), (nI sx), sp, (rt_shC g a b), (rt_shF f a b), fc, ff)) (eA : A = nI a := by rfl) (eB : B = nI b := by rfl) : wpX_shiftRowsUp post (fn, fu, (nI w), (nI h), (nI s), (nI n), al, (nI tp), (nI bt), (nI y), (nI x), pd, (nI sy), (nI sx), sp, g, f, fc, ff) A B := by
  subst eA eB
  refine rt_loop2 (fun N i (qa qb : Nat → Int32) => wX_shiftRowsUp_2 post (nI b) N (nI i) fn fu (nI w) (nI h) (nI s) (nI n) al (nI tp) (nI bt) (nI y) (nI x) pd (nI sy) (nI sx) sp qa qb fc ff) (fun i qa qb => a ≤ i ∧ qa = rt_put g (a * 16) ((i - a) * 16) (fun j => g ((a + 1) * 16 + j)) ∧ qb = rt_put f a (i - a) (fun j => f (a + 1 + j))) b a g f hab ⟨Nat.le_refl _, by rw [Nat.sub_self, Nat.zero_mul, rt_put_0], by rw [Nat.sub_self, rt_put_0]⟩ ?_ ?_
  · rintro N qa qb ⟨-, rfl, rfl⟩
    refine pk_le b b (fun _ => rx_clearRow b hb ?_) (fun z => absurd z (by omega))
    show post _
    rw [rt_shC_eq g hab, rt_shF_eq f hab]
    exact H
  · rintro N i qa qb hi ⟨ha, rfl, rfl⟩ K
    · have e1 : rt_put (rt_put g (a * 16) ((i - a) * 16) (fun j => g ((a + 1) * 16 + j))) (i * 16) 16 (fun j => rt_put g (a * 16) ((i - a) * 16) (fun j => g ((a + 1) * 16 + j)) ((i + 1) * 16 + j)) = rt_put g (a * 16) ((i + 1 - a) * 16) (fun j => g ((a + 1) * 16 + j)) := by
        rw [rt_put_a (v := fun j => g ((a + 1) * 16 + j)) (by omega) (fun j hj => by
          show rt_put _ _ _ _ _ = _
          rw [rt_put_out (by omega)]; congr 1; omega)]
        congr 1; omega
      have e2 : upd (rt_put f a (i - a) (fun j => f (a + 1 + j))) i (rt_put f a (i - a) (fun j => f (a + 1 + j)) (i + 1)) = rt_put f a (i + 1 - a) (fun j => f (a + 1 + j)) := by
        have h := rt_put_s (g := f) (v := fun j => f (a + 1 + j)) (b := a) (m := i - a) (x := rt_put f a (i - a) (fun j => f (a + 1 + j)) (i + 1)) (by
          rw [rt_put_out (by omega)]; congr 1; omega)
        rw [show a + (i - a) = i by omega, show i - a + 1 = i + 1 - a by omega] at h
        exact h
      exact pk_le b i (fun z => absurd z (by omega)) (fun _ => rx_copyRow (i + 1) i (by omega) (by omega) (by omega) (rt_B_put hf (fun j _ => hf _) _) (nm_r (nI_1 i) (K _ _ ⟨by omega, e1, e2⟩)) (nI_1 i))
theorem rx_growL {w h s n y x sy sx tp bt : Nat} {al pd sp fn fu : Int32} {g f fc ff : Nat → Int32} {post : SX → Prop} {o e : Nat} (hf : rt_B01 f) (ho : o + e < 32) (H : post (fn, fu, (nI w), (nI h), (nI s), (nI (n + 1)), al, (nI tp), (nI bt), (nI y), (nI x), pd, (nI sy), (nI sx), sp, (rt_grC g o (o + e)), (rt_grF f o (o + e)), fc, ff)) : wX_growScrollback_22 post (nI o) (e + 1) (nI (o + e)) fn fu (nI w) (nI h) (nI s) (nI n) al (nI tp) (nI bt) (nI y) (nI x) pd (nI sy) (nI sx) sp g f fc ff := by
  refine rt_loopD2 (fun N i (qa qb : Nat → Int32) => wX_growScrollback_22 post (nI o) N (nI (o + i)) fn fu (nI w) (nI h) (nI s) (nI n) al (nI tp) (nI bt) (nI y) (nI x) pd (nI sy) (nI sx) sp qa qb fc ff) (fun i qa qb => i ≤ e ∧ qa = rt_put g ((o + i + 1) * 16) ((e - i) * 16) (fun j => g ((o + i) * 16 + j)) ∧ qb = rt_put f (o + i + 1) (e - i) (fun j => f (o + i + j))) ?_ ?_ e g f ⟨Nat.le_refl _, by rw [Nat.sub_self, Nat.zero_mul, rt_put_0], by rw [Nat.sub_self, rt_put_0]⟩
  · rintro N qa qb ⟨-, rfl, rfl⟩
    refine pk_le (o + 0) o (fun _ => rx_clearRow o (by omega) (nm_r (nI_1 n) ?_)) (fun z => absurd z (by omega))
    have a := rt_grC_eq g (show o ≤ o + e by omega)
    have b := rt_grF_eq f (show o ≤ o + e by omega)
    rw [show o + e - o = e by omega] at a b
    show post _
    simp only [Nat.add_zero, Nat.sub_zero]
    rw [a, b]
    exact H
  · rintro N i qa qb ⟨hi, rfl, rfl⟩ K
    · have e1 : rt_put (rt_put g ((o + (i + 1) + 1) * 16) ((e - (i + 1)) * 16) (fun j => g ((o + (i + 1)) * 16 + j))) ((o + (i + 1)) * 16) 16 (fun j => rt_put g ((o + (i + 1) + 1) * 16) ((e - (i + 1)) * 16) (fun j => g ((o + (i + 1)) * 16 + j)) ((o + i) * 16 + j)) = rt_put g ((o + i + 1) * 16) ((e - i) * 16) (fun j => g ((o + i) * 16 + j)) := by
        rw [rt_put_p (v'' := fun j => g ((o + i) * 16 + j)) (by omega) (fun j hj => rt_put_out (by omega)) (fun j hj => by
          show g _ = g _
          congr 1; omega)]
        rw [show o + (i + 1) = o + i + 1 by omega]
        congr 1; omega
      have e2 : upd (rt_put f (o + (i + 1) + 1) (e - (i + 1)) (fun j => f (o + (i + 1) + j))) (o + (i + 1)) (rt_put f (o + (i + 1) + 1) (e - (i + 1)) (fun j => f (o + (i + 1) + j)) (o + i)) = rt_put f (o + i + 1) (e - i) (fun j => f (o + i + j)) := by
        rw [rt_upd_put, rt_put_p (v'' := fun j => f (o + i + j)) (by omega) (fun j hj => by
          show rt_put _ _ _ _ _ = f _
          rw [rt_put_out (by omega)]; congr 1; omega) (fun j hj => by
          show f _ = f _
          congr 1; omega)]
        rw [show o + (i + 1) = o + i + 1 by omega]
        congr 1; omega
      exact pk_le (o + (i + 1)) o (fun z => absurd z (by omega)) (fun _ => rx_copyRow (o + i) (o + (i + 1)) (by omega) (by omega) (by omega) (rt_B_put hf (fun j _ => hf _) _) (nm_r (pk_m1 (o + i)) (K _ _ ⟨by omega, e1, e2⟩)) (nI_pred (o + i)))
theorem rx_grow {w h s n y x sy sx tp bt : Nat} {al pd sp fn fu : Int32} {g f fc ff : Nat → Int32} {post : SX → Prop} (hb : bt < h) (hn : n + h < 32) (hf : rt_B01 f) (H : post (fn, fu, (nI w), (nI h), (nI s), (nI (n + 1)), al, (nI tp), (nI bt), (nI y), (nI x), pd, (nI sy), (nI sx), sp, (rt_grC g (n + bt + 1) (n + h)), (rt_grF f (n + bt + 1) (n + h)), fc, ff)) : wpX_growScrollback post (fn, fu, (nI w), (nI h), (nI s), (nI n), al, (nI tp), (nI bt), (nI y), (nI x), pd, (nI sy), (nI sx), sp, g, f, fc, ff) := by
  have e : n + bt + 1 + (h - 1 - bt) = n + h := by omega
  refine nm_r (show nI n + nI bt + 1 = nI (n + bt + 1) by rw [nI_add, nI_1]) (nm_r (show nI n + nI h = nI (n + bt + 1 + (h - 1 - bt)) by rw [nI_add, e]) ⟨h - 1 - bt + 1, rx_growL hf (by omega) ?_⟩)
  rw [e]
  exact H
theorem rx_scroll1 {w h s n y x sy sx tp bt : Nat} {al pd sp fn fu : Int32} {g f fc ff : Nat → Int32} {post : SX → Prop} (hal : ¬ al = 0) (h1 : tp ≤ bt) (h2 : bt < 8) (hf : rt_B01 f) (H : post (fn, fu, (nI w), (nI h), (nI s), (nI n), al, (nI tp), (nI bt), (nI y), (nI x), pd, (nI sy), (nI sx), sp, (rt_shC g (24 + tp) (24 + bt)), (rt_shF f (24 + tp) (24 + bt)), fc, ff)) : wpX_scroll post (fn, fu, (nI w), (nI h), (nI s), (nI n), al, (nI tp), (nI bt), (nI y), (nI x), pd, (nI sy), (nI sx), sp, g, f, fc, ff) :=
  br_f hal (br_f hal (rx_shiftUp (24 + tp) (24 + bt) (by omega) (by omega) hf H (nI_add 24 tp) (nI_add 24 bt)))
theorem rx_scroll0 {w h s n y x sy sx tp bt : Nat} {al pd sp fn fu : Int32} {g f fc ff : Nat → Int32} {post : SX → Prop} (hal : al = 0) (ht : 0 < tp) (h1 : tp ≤ bt) (h2 : n + bt < 32) (hf : rt_B01 f) (H : post (fn, fu, (nI w), (nI h), (nI s), (nI n), al, (nI tp), (nI bt), (nI y), (nI x), pd, (nI sy), (nI sx), sp, (rt_shC g (n + tp) (n + bt)), (rt_shF f (n + tp) (n + bt)), fc, ff)) : wpX_scroll post (fn, fu, (nI w), (nI h), (nI s), (nI n), al, (nI tp), (nI bt), (nI y), (nI x), pd, (nI sy), (nI sx), sp, g, f, fc, ff) :=
  br_t hal (br_t hal (pk_le tp 0 (fun z => absurd z (by omega)) (fun _ => rx_shiftUp (n + tp) (n + bt) (by omega) (by omega) hf H (nI_add n tp) (nI_add n bt))))
theorem rx_scrollF {w h s n y x sy sx tp bt : Nat} {al pd sp fn fu : Int32} {g f fc ff : Nat → Int32} {post : SX → Prop} (hal : al = 0) (ht : tp = 0) (hs : s ≤ n) (h2 : n + bt < 32) (hf : rt_B01 f) (H : post (fn, fu, (nI w), (nI h), (nI s), (nI n), al, (nI tp), (nI bt), (nI y), (nI x), pd, (nI sy), (nI sx), sp, (rt_shC g 0 (n + bt)), (rt_shF f 0 (n + bt)), fc, ff)) : wpX_scroll post (fn, fu, (nI w), (nI h), (nI s), (nI n), al, (nI tp), (nI bt), (nI y), (nI x), pd, (nI sy), (nI sx), sp, g, f, fc, ff) :=
  br_t hal (br_t hal (pk_le tp 0 (fun _ => pk_le s n (fun _ => rx_shiftUp 0 (n + bt) (by omega) (by omega) hf H rfl (nI_add n bt)) (fun z => absurd z (by omega))) (fun z => absurd z (by omega))))
theorem rx_scrollG {w h s n y x sy sx tp bt : Nat} {al pd sp fn fu : Int32} {g f fc ff : Nat → Int32} {post : SX → Prop} (hal : al = 0) (ht : tp = 0) (hs : n < s) (hs2 : s ≤ 16) (hb : bt < h) (hh : h ≤ 8) (hf : rt_B01 f) (H : post (fn, fu, (nI w), (nI h), (nI s), (nI (n + 1)), al, (nI tp), (nI bt), (nI y), (nI x), pd, (nI sy), (nI sx), sp, (rt_grC g (n + bt + 1) (n + h)), (rt_grF f (n + bt + 1) (n + h)), fc, ff)) : wpX_scroll post (fn, fu, (nI w), (nI h), (nI s), (nI n), al, (nI tp), (nI bt), (nI y), (nI x), pd, (nI sy), (nI sx), sp, g, f, fc, ff) :=
  br_t hal (br_t hal (pk_le tp 0 (fun _ => pk_le s n (fun z => absurd z (by omega)) (fun _ => rx_grow hb (by omega) hf H)) (fun z => absurd z (by omega))))
