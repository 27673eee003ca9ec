/-! the ends of Y's resize, and both sides' resize -/
theorem ry_608 {w h s n y x sy sx tp bt : Nat} {al pd sp lc cl ck : Int32} {sb sbf sc scf rb rbf ls lr ll : Nat → Int32} {post : Int32 → SY → Prop} {x8 : Int32} (w2 h2 : Nat) (hh : 0 < h2) (H : post x8 ((nI w2), (nI h2), (nI s), (nI n), (nI y), (nI x), (nI sy), (nI sx), 0, (nI (h2 - 1)), al, pd, sp, lc, cl, ck, sb, sbf, (rt_put sc 128 128 (fun _ => 32)), (rt_put scf 8 8 (fun _ => 0)), rb, rbf, ls, lr, ll)) : ∃ N, wY_resize_608 post (nI w2) (nI h2) x8 (nI w) (nI h) (nI s) (nI n) (nI y) (nI x) (nI sy) (nI sx) (nI tp) (nI bt) al pd sp lc cl ck N 128 sb sbf sc scf rb rbf ls lr ll := by
  refine pk_loop (fun N i c => wY_resize_608 post (nI w2) (nI h2) x8 (nI w) (nI h) (nI s) (nI n) (nI y) (nI x) (nI sy) (nI sx) (nI tp) (nI bt) al pd sp lc cl ck N (nI i) sb sbf c scf rb rbf ls lr ll) (fun i c => 128 ≤ i ∧ c = rt_put sc 128 (i - 128) (fun _ => 32)) 256 128 sc (by omega) ⟨Nat.le_refl _, by rw [Nat.sub_self, rt_put_0]⟩ ?_ ?_
  · rintro N c ⟨-, rfl⟩
    refine pk_le 256 256 (fun _ => ?_) (fun z => absurd z (by omega))
    refine pk_loop (fun N i c => wY_resize_635 post (nI w2) (nI h2) x8 (nI w) (nI h) (nI s) (nI n) (nI y) (nI x) (nI sy) (nI sx) (nI tp) (nI bt) al pd sp lc cl ck N (nI i) sb sbf (rt_put sc 128 128 (fun _ => 32)) c rb rbf ls lr ll) (fun i c => 8 ≤ i ∧ c = rt_put scf 8 (i - 8) (fun _ => 0)) 16 8 scf (by omega) ⟨Nat.le_refl _, by rw [Nat.sub_self, rt_put_0]⟩ ?_ ?_
    · rintro N c ⟨-, rfl⟩
      exact pk_le 16 16 (fun _ => nm_r (pk_sub (b := 1) (by omega)) H) (fun z => absurd z (by omega))
    · rintro N i c hi ⟨ha, rfl⟩ K
      have e : upd (rt_put scf 8 (i - 8) (fun _ => 0)) i 0 = rt_put scf 8 (i + 1 - 8) (fun _ => 0) := by
        have h := rt_put_s (g := scf) (v := fun _ => 0) (b := 8) (m := i - 8) (x := 0) rfl
        rw [show 8 + (i - 8) = i by omega, show i - 8 + 1 = i + 1 - 8 by omega] at h
        exact h
      exact pk_le 16 i (fun z => absurd z (by omega)) (fun _ => ⟨pk_in i 16 (by omega), nm_r ((rt_us rfl (by omega) rt_nar0).trans e) (nm_r (nI_1 i) (K _ ⟨by omega, rfl⟩))⟩)
  · rintro N i c hi ⟨ha, rfl⟩ K
    have e : upd (rt_put sc 128 (i - 128) (fun _ => 32)) i 32 = rt_put sc 128 (i + 1 - 128) (fun _ => 32) := by
      have h := rt_put_s (g := sc) (v := fun _ => 32) (b := 128) (m := i - 128) (x := 32) rfl
      rw [show 128 + (i - 128) = i by omega, show i - 128 + 1 = i + 1 - 128 by omega] at h
      exact h
    exact pk_le 256 i (fun z => absurd z (by omega)) (fun _ => ⟨pk_in i 256 (by omega), nm_r ((rt_us rfl (by omega) rfl).trans e) (nm_r (nI_1 i) (K _ ⟨by omega, rfl⟩))⟩)
theorem ry_479 {w h s n y x sy sx tp bt : Nat} {al pd sp lc cl ck : Int32} {sb sbf sc scf rb rbf ls lr ll : Nat → Int32} {post : Int32 → SY → Prop} {J : Int32 → (Nat → Int32) → (Nat → Int32) → (Nat → Int32) → (Nat → Int32) → (Nat → Int32) → (Nat → Int32) → (Nat → Int32) → (Nat → Int32) → (Nat → Int32) → Prop} {x3 x4 x8 : Int32} (mh mw r : Nat) (hr : r < 8) (hmh : mh ≤ 8) (hmw : mw ≤ 16) (H : J (nI (r + 1)) sb sbf (rt_put sc (128 + r * 16) 16 (fun j => if mh ≤ r ∨ mw ≤ j then 32 else sc (128 + r * 16 + j))) (upd scf (8 + r) 0) rb rbf ls lr ll) : ∃ N, wY_resize_479 post J x3 x4 x8 (nI mh) (nI mw) (nI r) (nI w) (nI h) (nI s) (nI n) (nI y) (nI x) (nI sy) (nI sx) (nI tp) (nI bt) al pd sp lc cl ck N 0 sb sbf sc scf rb rbf ls lr ll := by
  refine pk_loop (fun N i c => wY_resize_479 post J x3 x4 x8 (nI mh) (nI mw) (nI r) (nI w) (nI h) (nI s) (nI n) (nI y) (nI x) (nI sy) (nI sx) (nI tp) (nI bt) al pd sp lc cl ck N (nI i) sb sbf c scf rb rbf ls lr ll) (fun i c => c = rt_put sc (128 + r * 16) i (fun j => if mh ≤ r ∨ mw ≤ j then 32 else sc (128 + r * 16 + j))) 16 0 sc (by omega) (rt_put_0 _ _ _).symm ?_ ?_
  · rintro N c rfl
    exact pk_le 16 16 (fun _ => ⟨pk_in (8 + r) 16 (by omega) (nI_add 8 r), nm_r (rt_us (nI_add 8 r) (by omega) rt_nar0) (nm_r (nI_1 r) H)⟩) (fun z => absurd z (by omega))
  · rintro N i c hi rfl K
    have er : (mh ≤ r ∨ mw ≤ i) → wY_resize_500 post J (wY_resize_479 post J x3 x4 x8 (nI mh) (nI mw) (nI r) (nI w) (nI h) (nI s) (nI n) (nI y) (nI x) (nI sy) (nI sx) (nI tp) (nI bt) al pd sp lc cl ck N) x3 x4 x8 (nI mh) (nI mw) (nI r) (nI i) (nI w) (nI h) (nI s) (nI n) (nI y) (nI x) (nI sy) (nI sx) (nI tp) (nI bt) al pd sp lc cl ck sb sbf (rt_put sc (128 + r * 16) i (fun j => if mh ≤ r ∨ mw ≤ j then 32 else sc (128 + r * 16 + j))) scf rb rbf ls lr ll := fun z =>
      ⟨pk_in (128 + r * 16 + i) 256 (by omega) (rt_iy 128 r i), nm_r ((rt_us (rt_iy 128 r i) (by omega) rfl).trans (rt_put_s (by show 32 = _; rw [if_pos z]))) (nm_r (nI_1 i) (K _ rfl))⟩
    refine pk_le 16 i (fun z => absurd z (by omega)) (fun _ => pk_le mh r (fun z => er (Or.inl z)) (fun z => pk_lt i mw (fun z2 => nm_r (nI_1 i) (K _ (rt_put_k ?_))) (fun z2 => er (Or.inr z2))))
    show (if mh ≤ r ∨ mw ≤ i then 32 else sc (128 + r * 16 + i)) = _
    rw [if_neg (by omega)]
theorem ry_561 {w h s n y x sy sx tp bt : Nat} {al pd sp lc cl ck : Int32} {sb sbf sc scf rb rbf ls lr ll : Nat → Int32} {post : Int32 → SY → Prop} {x8 : Int32} (w2 h2 : Nat) (hh : 0 < h2) (hh2 : h2 ≤ 8) (hw : 0 < w2) (hw2 : w2 ≤ 16) (hx : x < 16) (H : post x8 ((nI w2), (nI h2), (nI s), (nI n), (nI y), (nI (rt_mn x (w2 - 1))), (nI sy), (nI sx), 0, (nI (h2 - 1)), al, 0, sp, lc, cl, ck, sb, sbf, sc, scf, rb, rbf, ls, lr, ll)) : wY_resize_561 post (nI w2) (nI h2) x8 (nI w) (nI h) (nI s) (nI n) (nI y) (nI x) (nI sy) (nI sx) (nI tp) (nI bt) al pd sp lc cl ck sb sbf sc scf rb rbf ls lr ll := by
  have ew : nI w2 - 1 = nI (w2 - 1) := pk_sub (b := 1) (by omega)
  have eh : nI h2 - 1 = nI (h2 - 1) := pk_sub (b := 1) (by omega)
  refine pk_le x (w2 - 1) (fun z => nm_r eh ?_) (fun z => nm_r ew (nm_r eh ?_)) rfl ew
  · rw [show rt_mn x (w2 - 1) = x by rcases rt_mn_sp x (w2 - 1) with ⟨a, e⟩ | ⟨a, e⟩ <;> omega] at H
    exact H
  · rw [show rt_mn x (w2 - 1) = w2 - 1 by rcases rt_mn_sp x (w2 - 1) with ⟨a, e⟩ | ⟨a, e⟩ <;> omega] at H
    exact H
theorem ry_469 {w h s n y x sy sx tp bt : Nat} {al pd sp lc cl ck : Int32} {sb sbf sc scf rb rbf ls lr ll : Nat → Int32} {post : Int32 → SY → Prop} {x8 : Int32} (w2 h2 mh mw : Nat) (hh : 0 < h2) (hh2 : h2 ≤ 8) (hw : 0 < w2) (hw2 : w2 ≤ 16) (hmh : mh ≤ 8) (hmw : mw ≤ 16) (hy : y < 8) (hx : x < 16) (H : post x8 ((nI w2), (nI h2), (nI s), (nI n), (nI (rt_mn y (h2 - 1))), (nI (rt_mn x (w2 - 1))), (nI sy), (nI sx), 0, (nI (h2 - 1)), al, 0, sp, lc, cl, ck, sb, sbf, (rt_crop sc 128 mh mw), (rt_put scf 8 8 (fun _ => 0)), rb, rbf, ls, lr, ll)) : ∃ N, wY_resize_469 post (nI w2) (nI h2) x8 (nI mh) (nI mw) (nI w) (nI h) (nI s) (nI n) (nI y) (nI x) (nI sy) (nI sx) (nI tp) (nI bt) al pd sp lc cl ck N 0 sb sbf sc scf rb rbf ls lr ll := by
  have eh : nI h2 - 1 = nI (h2 - 1) := pk_sub (b := 1) (by omega)
  refine rt_loop2 (fun N i (qa qb : Nat → Int32) => wY_resize_469 post (nI w2) (nI h2) x8 (nI mh) (nI mw) (nI w) (nI h) (nI s) (nI n) (nI y) (nI x) (nI sy) (nI sx) (nI tp) (nI bt) al pd sp lc cl ck N (nI i) sb sbf qa qb rb rbf ls lr ll) (fun i qa qb => qa = rt_put sc 128 (i * 16) (fun i => if mh ≤ i / 16 ∨ mw ≤ i % 16 then 32 else sc (128 + i)) ∧ qb = rt_put scf 8 i (fun _ => 0)) 8 0 sc scf (Nat.zero_le _) ⟨by rw [Nat.zero_mul, rt_put_0], by rw [rt_put_0]⟩ ?_ ?_
  · rintro N qa qb ⟨rfl, rfl⟩
    refine pk_le 8 8 (fun _ => pk_le y (h2 - 1) (fun z => ry_561 w2 h2 hh hh2 hw hw2 hx ?_) (fun z => nm_r eh (ry_561 w2 h2 hh hh2 hw hw2 hx ?_)) rfl eh) (fun z => absurd z (by omega))
    · rw [show rt_mn y (h2 - 1) = y by rcases rt_mn_sp y (h2 - 1) with ⟨a, e⟩ | ⟨a, e⟩ <;> omega] at H
      exact H
    · rw [show rt_mn y (h2 - 1) = h2 - 1 by rcases rt_mn_sp y (h2 - 1) with ⟨a, e⟩ | ⟨a, e⟩ <;> omega] at H
      exact H
  · rintro N i qa qb hi ⟨rfl, rfl⟩ K
    have e1 : rt_put (rt_put sc 128 (i * 16) (fun i => if mh ≤ i / 16 ∨ mw ≤ i % 16 then 32 else sc (128 + i))) (128 + i * 16) 16 (fun j => if mh ≤ i ∨ mw ≤ j then 32 else rt_put sc 128 (i * 16) (fun i => if mh ≤ i / 16 ∨ mw ≤ i % 16 then 32 else sc (128 + i)) (128 + i * 16 + j)) = rt_put sc 128 ((i + 1) * 16) (fun i => if mh ≤ i / 16 ∨ mw ≤ i % 16 then 32 else sc (128 + i)) := by
      rw [rt_put_a (v := fun i => if mh ≤ i / 16 ∨ mw ≤ i % 16 then 32 else sc (128 + i)) rfl (fun j hj => by
        show (if mh ≤ i ∨ mw ≤ j then 32 else rt_put _ _ _ _ _) = (if mh ≤ (i * 16 + j) / 16 ∨ mw ≤ (i * 16 + j) % 16 then 32 else sc (128 + (i * 16 + j)))
        rw [show (i * 16 + j) / 16 = i by omega, show (i * 16 + j) % 16 = j by omega, rt_put_out (by omega), show 128 + (i * 16 + j) = 128 + i * 16 + j by omega])]
      congr 1; omega
    exact pk_le 8 i (fun z => absurd z (by omega)) (fun _ => ry_479 mh mw i hi hmh hmw (K _ _ ⟨e1, rt_put_s rfl⟩))
theorem ry_389 {w h s n y x sy sx tp bt : Nat} {al pd sp lc cl : Int32} {sb sbf sc scf rb rbf ls lr ll : Nat → Int32} {post : Int32 → SY → Prop} {x8 : Int32} (w2 h2 p fi k : Nat) (hh : 0 < h2) (hh2 : h2 ≤ 8) (h24 : 4 ≤ w2) (hw2 : w2 ≤ 16) (hw : w ≤ 16) (h8 : h ≤ 8) (hy : y < 8) (hx : x < 16) (hp : fi ≤ p) (hk : k < 2 ^ 20) (Hm : al = 0 → post x8 ((nI w2), (nI h2), (nI s), (nI n), (nI (p - fi)), (nI (k % w2)), (nI sy), (nI sx), 0, (nI (h2 - 1)), al, 0, sp, lc, cl, (nI k), sb, sbf, (rt_put sc 128 128 (fun _ => 32)), (rt_put scf 8 8 (fun _ => 0)), rb, rbf, ls, lr, ll)) (Ha : ¬ al = 0 → ∀ mh mw : Nat, ((h < h2 ∧ mh = h) ∨ (h2 ≤ h ∧ mh = h2)) → ((w < w2 ∧ mw = w) ∨ (w2 ≤ w ∧ mw = w2)) → post x8 ((nI w2), (nI h2), (nI s), (nI n), (nI (rt_mn y (h2 - 1))), (nI (rt_mn x (w2 - 1))), (nI (p - fi)), (nI (k % w2)), 0, (nI (h2 - 1)), al, 0, 0, lc, cl, (nI k), sb, sbf, (rt_crop sc 128 mh mw), (rt_put scf 8 8 (fun _ => 0)), rb, rbf, ls, lr, ll)) : wY_resize_389 post (nI w2) (nI h2) (nI p) (nI fi) x8 (nI w) (nI h) (nI s) (nI n) (nI y) (nI x) (nI sy) (nI sx) (nI tp) (nI bt) al pd sp lc cl (nI k) sb sbf sc scf rb rbf ls lr ll := by
  refine nm_r (pk_sub hp) ⟨nI_ne0 (by omega) (by omega), nm_r (pk_rem (by omega) (by omega) (by omega)) (br_c (fun z => ry_608 w2 h2 hh (Hm z)) (fun z => ?_))⟩
  refine pk_le h2 h (fun z1 => pk_le w2 w (fun z2 => ?_) (fun z2 => ?_)) (fun z1 => pk_le w2 w (fun z2 => ?_) (fun z2 => ?_))
  · exact ry_469 w2 h2 h2 w2 hh hh2 (by omega) hw2 (by omega) (by omega) hy hx (Ha z _ _ (Or.inr ⟨z1, rfl⟩) (Or.inr ⟨z2, rfl⟩))
  · exact ry_469 w2 h2 h2 w hh hh2 (by omega) hw2 (by omega) (by omega) hy hx (Ha z _ _ (Or.inr ⟨z1, rfl⟩) (Or.inl ⟨z2, rfl⟩))
  · exact ry_469 w2 h2 h w2 hh hh2 (by omega) hw2 (by omega) (by omega) hy hx (Ha z _ _ (Or.inl ⟨z1, rfl⟩) (Or.inr ⟨z2, rfl⟩))
  · exact ry_469 w2 h2 h w hh hh2 (by omega) hw2 (by omega) (by omega) hy hx (Ha z _ _ (Or.inl ⟨z1, rfl⟩) (Or.inl ⟨z2, rfl⟩))
