/-! Y's scroll -/
theorem rt_iy (a r c : Nat) : nI a + nI r * 16 + nI c = nI (a + r * 16 + c) := by
  rw [show (16 : Int32) = nI 16 from rfl, pk_mul, nI_add, nI_add]
theorem ry_298 {w h s n y x sy sx tp bt : Nat} {al pd sp lc cl ck : Int32} {sb sbf sc scf rb rbf ls lr ll : Nat → Int32} {post : SY → Prop} {bb : Nat} (hbb : bb ≤ 8) (hb : bt < 8) (H : post ((nI w), (nI h), (nI s), (nI n), (nI y), (nI x), (nI sy), (nI sx), (nI tp), (nI bt), al, pd, sp, lc, cl, ck, sb, sbf, (rt_put sc ((bb + bt) * 16) 16 (fun _ => 32)), (upd scf (bb + bt) 0), rb, rbf, ls, lr, ll)) : ∃ N, wY_scroll_298 post (nI (bb * 16)) (nI bb) (nI w) (nI h) (nI s) (nI n) (nI y) (nI x) (nI sy) (nI sx) (nI tp) (nI bt) al pd sp lc cl ck N 0 sb sbf sc scf rb rbf ls lr ll := by
  have e : ∀ i, nI (bb * 16) + nI bt * 16 + nI i = nI ((bb + bt) * 16 + i) := fun i => by rw [rt_iy]; congr 1; omega
  refine pk_loop (fun N i c => wY_scroll_298 post (nI (bb * 16)) (nI bb) (nI w) (nI h) (nI s) (nI n) (nI y) (nI x) (nI sy) (nI sx) (nI tp) (nI bt) al pd sp lc cl ck N (nI i) sb sbf c scf rb rbf ls lr ll) (fun i c => c = rt_put sc ((bb + bt) * 16) i (fun _ => 32)) 16 0 sc (by omega) (rt_put_0 _ _ _).symm ?_ ?_
  · rintro N c rfl
    exact pk_le 16 16 (fun _ => ⟨pk_in (bb + bt) 16 (by omega) (nI_add bb bt), nm_r (rt_us (nI_add bb bt) (by omega) rt_nar0) H⟩) (fun z => absurd z (by omega))
  · rintro N i c hi rfl K
    exact pk_le 16 i (fun z => absurd z (by omega)) (fun _ => ⟨pk_in ((bb + bt) * 16 + i) 256 (by omega) (e i), nm_r ((rt_us (e i) (by omega) rfl).trans (rt_put_s rfl)) (nm_r (nI_1 i) (K _ rfl))⟩)
theorem ry_229 {w h s n y x sy sx tp bt : Nat} {al pd sp lc cl ck : Int32} {sb sbf sc scf rb rbf ls lr ll : Nat → Int32} {post : SY → Prop} {J : Int32 → (Nat → Int32) → (Nat → Int32) → (Nat → Int32) → (Nat → Int32) → (Nat → Int32) → (Nat → Int32) → (Nat → Int32) → (Nat → Int32) → (Nat → Int32) → Prop} {bb r : Nat} (hbb : bb ≤ 8) (hr : r < 7) (hf : rt_01 (scf (bb + r + 1))) (H : J (nI (r + 1)) sb sbf (rt_put sc ((bb + r) * 16) 16 (fun j => sc ((bb + r + 1) * 16 + j))) (upd scf (bb + r) (scf (bb + r + 1))) rb rbf ls lr ll) : ∃ N, wY_scroll_229 post J (nI (bb * 16)) (nI bb) (nI r) (nI w) (nI h) (nI s) (nI n) (nI y) (nI x) (nI sy) (nI sx) (nI tp) (nI bt) al pd sp lc cl ck N 0 sb sbf sc scf rb rbf ls lr ll := by
  have e : ∀ i, nI (bb * 16) + nI r * 16 + nI i = nI ((bb + r) * 16 + i) := fun i => by rw [rt_iy]; congr 1; omega
  have e1 : ∀ i, nI (bb * 16) + (nI r + 1) * 16 + nI i = nI ((bb + r + 1) * 16 + i) := fun i => by rw [nI_1, rt_iy]; congr 1; omega
  have e2 : nI bb + nI r + 1 = nI (bb + r + 1) := by rw [nI_add, nI_1]
  refine pk_loop (fun N i c => wY_scroll_229 post J (nI (bb * 16)) (nI bb) (nI r) (nI w) (nI h) (nI s) (nI n) (nI y) (nI x) (nI sy) (nI sx) (nI tp) (nI bt) al pd sp lc cl ck N (nI i) sb sbf c scf rb rbf ls lr ll) (fun i c => c = rt_put sc ((bb + r) * 16) i (fun j => sc ((bb + r + 1) * 16 + j))) 16 0 sc (by omega) (rt_put_0 _ _ _).symm ?_ ?_
  · rintro N c rfl
    exact pk_le 16 16 (fun _ => ⟨pk_in (bb + r + 1) 16 (by omega) e2, pk_in (bb + r) 16 (by omega) (nI_add bb r), nm_r (rt_us (nI_add bb r) (by omega) ((congrArg _ (rt_rd e2 (by omega))).trans (rt_nar hf))) (nm_r (nI_1 r) H)⟩) (fun z => absurd z (by omega))
  · rintro N i c hi rfl K
    exact pk_le 16 i (fun z => absurd z (by omega)) (fun _ => ⟨pk_in ((bb + r + 1) * 16 + i) 256 (by omega) (e1 i), pk_in ((bb + r) * 16 + i) 256 (by omega) (e i), nm_r ((rt_us (e i) (by omega) ((rt_rd (e1 i) (by omega)).trans (rt_put_out (by omega)))).trans (rt_put_s rfl)) (nm_r (nI_1 i) (K _ rfl))⟩)
theorem ry_212 {w h s n y x sy sx tp bt : Nat} {al pd sp lc cl ck : Int32} {sb sbf sc scf rb rbf ls lr ll : Nat → Int32} {post : SY → Prop} {bb : Nat} (hbb : bb ≤ 8) (h1 : tp ≤ bt) (h2 : bt < 8) (hf : rt_B01 scf) (H : post ((nI w), (nI h), (nI s), (nI n), (nI y), (nI x), (nI sy), (nI sx), (nI tp), (nI bt), al, pd, sp, lc, cl, ck, sb, sbf, (rt_shC sc (bb + tp) (bb + bt)), (rt_shF scf (bb + tp) (bb + bt)), rb, rbf, ls, lr, ll)) : ∃ N, wY_scroll_212 post (nI (bb * 16)) (nI bb) (nI w) (nI h) (nI s) (nI n) (nI y) (nI x) (nI sy) (nI sx) (nI tp) (nI bt) al pd sp lc cl ck N (nI tp) sb sbf sc scf rb rbf ls lr ll := by
  refine rt_loop2 (fun N i (qa qb : Nat → Int32) => wY_scroll_212 post (nI (bb * 16)) (nI bb) (nI w) (nI h) (nI s) (nI n) (nI y) (nI x) (nI sy) (nI sx) (nI tp) (nI bt) al pd sp lc cl ck N (nI i) sb sbf qa qb rb rbf ls lr ll) (fun i qa qb => tp ≤ i ∧ qa = rt_put sc ((bb + tp) * 16) ((i - tp) * 16) (fun j => sc ((bb + tp + 1) * 16 + j)) ∧ qb = rt_put scf (bb + tp) (i - tp) (fun j => scf (bb + tp + 1 + j))) bt tp sc scf h1 ⟨Nat.le_refl _, by rw [Nat.sub_self, Nat.zero_mul, rt_put_0], by rw [Nat.sub_self, rt_put_0]⟩ ?_ ?_
  · rintro N qa qb ⟨-, rfl, rfl⟩
    refine pk_le bt bt (fun _ => ry_298 hbb h2 ?_) (fun z => absurd z (by omega))
    have a := rt_shC_eq sc (show bb + tp ≤ bb + bt by omega)
    have b := rt_shF_eq scf (show bb + tp ≤ bb + bt by omega)
    rw [show bb + bt - (bb + tp) = bt - tp by omega] at a b
    show post _
    rw [a, b]
    exact H
  · rintro N i qa qb hi ⟨ha, rfl, rfl⟩ K
    · have e1 : rt_put (rt_put sc ((bb + tp) * 16) ((i - tp) * 16) (fun j => sc ((bb + tp + 1) * 16 + j))) ((bb + i) * 16) 16 (fun j => rt_put sc ((bb + tp) * 16) ((i - tp) * 16) (fun j => sc ((bb + tp + 1) * 16 + j)) ((bb + i + 1) * 16 + j)) = rt_put sc ((bb + tp) * 16) ((i + 1 - tp) * 16) (fun j => sc ((bb + tp + 1) * 16 + j)) := by
        rw [rt_put_a (v := fun j => sc ((bb + tp + 1) * 16 + j)) (by omega) (fun j hj => by
          show rt_put _ _ _ _ _ = _
          rw [rt_put_out (by omega)]; congr 1; omega)]
        congr 1; omega
      have e2 : upd (rt_put scf (bb + tp) (i - tp) (fun j => scf (bb + tp + 1 + j))) (bb + i) (rt_put scf (bb + tp) (i - tp) (fun j => scf (bb + tp + 1 + j)) (bb + i + 1)) = rt_put scf (bb + tp) (i + 1 - tp) (fun j => scf (bb + tp + 1 + j)) := by
        have h := rt_put_s (g := scf) (v := fun j => scf (bb + tp + 1 + j)) (b := bb + tp) (m := i - tp) (x := rt_put scf (bb + tp) (i - tp) (fun j => scf (bb + tp + 1 + j)) (bb + i + 1)) (by
          rw [rt_put_out (by omega)]; congr 1; omega)
        rw [show bb + tp + (i - tp) = bb + i by omega, show i - tp + 1 = i + 1 - tp by omega] at h
        exact h
      exact pk_le bt i (fun z => absurd z (by omega)) (fun _ => pk_le 7 i (fun z => absurd z (by omega)) (fun _ => ry_229 hbb (by omega) (rt_B_put hf (fun j _ => hf _) _) (K _ _ ⟨by omega, e1, e2⟩)))
theorem ry_63 {w h s n y x sy sx tp bt : Nat} {al pd sp lc cl ck : Int32} {sb sbf sc scf rb rbf ls lr ll : Nat → Int32} {post : SY → Prop} {J : Int32 → (Nat → Int32) → (Nat → Int32) → (Nat → Int32) → (Nat → Int32) → (Nat → Int32) → (Nat → Int32) → (Nat → Int32) → (Nat → Int32) → (Nat → Int32) → Prop} {x1 x2 : Int32} {r : Nat} (hr : r < 15) (hf : rt_01 (sbf (r + 1))) (H : J (nI (r + 1)) (rt_put sb (r * 16) 16 (fun j => sb ((r + 1) * 16 + j))) (upd sbf r (sbf (r + 1))) sc scf rb rbf ls lr ll) : ∃ N, wY_scroll_63 post J x1 x2 (nI r) (nI w) (nI h) (nI s) (nI n) (nI y) (nI x) (nI sy) (nI sx) (nI tp) (nI bt) al pd sp lc cl ck N 0 sb sbf sc scf rb rbf ls lr ll := by
  have e1 : ∀ i, (nI r + 1) * 16 + nI i = nI ((r + 1) * 16 + i) := fun i => by rw [nI_1, rt_ix]
  refine pk_loop (fun N i c => wY_scroll_63 post J x1 x2 (nI r) (nI w) (nI h) (nI s) (nI n) (nI y) (nI x) (nI sy) (nI sx) (nI tp) (nI bt) al pd sp lc cl ck N (nI i) c sbf sc scf rb rbf ls lr ll) (fun i c => c = rt_put sb (r * 16) i (fun j => sb ((r + 1) * 16 + j))) 16 0 sb (by omega) (rt_put_0 _ _ _).symm ?_ ?_
  · rintro N c rfl
    exact pk_le 16 16 (fun _ => ⟨pk_in (r + 1) 16 (by omega) (nI_1 r), pk_in r 16 (by omega), nm_r (rt_us rfl (by omega) ((congrArg _ (rt_rd (nI_1 r) (by omega))).trans (rt_nar hf))) (nm_r (nI_1 r) H)⟩) (fun z => absurd z (by omega))
  · rintro N i c hi rfl K
    exact pk_le 16 i (fun z => absurd z (by omega)) (fun _ => ⟨pk_in ((r + 1) * 16 + i) 256 (by omega) (e1 i), pk_in (r * 16 + i) 256 (by omega) (rt_ix r i), nm_r ((rt_us (rt_ix r i) (by omega) ((rt_rd (e1 i) (by omega)).trans (rt_put_out (by omega)))).trans (rt_put_s rfl)) (nm_r (nI_1 i) (K _ rfl))⟩)
theorem ry_44 {w h s n y x sy sx tp bt : Nat} {al pd sp lc cl ck : Int32} {sb sbf sc scf rb rbf ls lr ll : Nat → Int32} {post : SY → Prop} {x1 x2 : Int32} (h0 : 0 < n) (hn : n ≤ 16) (hf : rt_B01 sbf) (H : wY_scroll_122 post x1 x2 (nI w) (nI h) (nI s) (nI n) (nI y) (nI x) (nI sy) (nI sx) (nI tp) (nI bt) al pd sp lc cl ck (rt_put sb 0 ((n - 1) * 16) (fun j => sb (16 + j))) (rt_put sbf 0 (n - 1) (fun j => sbf (1 + j))) sc scf rb rbf ls lr ll) : ∃ N, wY_scroll_44 post x1 x2 (nI w) (nI h) (nI s) (nI n) (nI y) (nI x) (nI sy) (nI sx) (nI tp) (nI bt) al pd sp lc cl ck N 0 sb sbf sc scf rb rbf ls lr ll := by
  refine rt_loop2 (fun N i (qa qb : Nat → Int32) => wY_scroll_44 post x1 x2 (nI w) (nI h) (nI s) (nI n) (nI y) (nI x) (nI sy) (nI sx) (nI tp) (nI bt) al pd sp lc cl ck N (nI i) qa qb sc scf rb rbf ls lr ll) (fun i qa qb => qa = rt_put sb 0 (i * 16) (fun j => sb (16 + j)) ∧ qb = rt_put sbf 0 i (fun j => sbf (1 + j))) (n - 1) 0 sb sbf (Nat.zero_le _) ⟨by rw [Nat.zero_mul, rt_put_0], by rw [rt_put_0]⟩ ?_ ?_
  · rintro N qa qb ⟨rfl, rfl⟩
    exact pk_le n (n - 1 + 1) (fun _ => H) (fun z => absurd z (by omega)) rfl (nI_1 _)
  · rintro N i qa qb hi ⟨rfl, rfl⟩ K
    · have e1 : rt_put (rt_put sb 0 (i * 16) (fun j => sb (16 + j))) (i * 16) 16 (fun j => rt_put sb 0 (i * 16) (fun j => sb (16 + j)) ((i + 1) * 16 + j)) = rt_put sb 0 ((i + 1) * 16) (fun j => sb (16 + j)) := by
        rw [rt_put_a (v := fun j => sb (16 + j)) (by omega) (fun j hj => by
          show rt_put _ _ _ _ _ = _
          rw [rt_put_out (by omega)]; congr 1; omega)]
        congr 1; omega
      have e2 : upd (rt_put sbf 0 i (fun j => sbf (1 + j))) i (rt_put sbf 0 i (fun j => sbf (1 + j)) (i + 1)) = rt_put sbf 0 (i + 1) (fun j => sbf (1 + j)) := by
        have h := rt_put_s (g := sbf) (v := fun j => sbf (1 + j)) (b := 0) (m := i) (x := rt_put sbf 0 i (fun j => sbf (1 + j)) (i + 1)) (by
          rw [rt_put_out (by omega)]; congr 1; omega)
        rw [Nat.zero_add] at h
        exact h
      exact pk_le n (i + 1) (fun z => absurd z (by omega)) (fun _ => pk_le 15 i (fun z => absurd z (by omega)) (fun _ => ry_63 (by omega) (rt_B_put hf (fun j _ => hf _) _) (K _ _ ⟨e1, e2⟩))) rfl (nI_1 _)
theorem ry_150 {w h s n y x sy sx tp bt : Nat} {al pd sp lc cl ck : Int32} {sb sbf sc scf rb rbf ls lr ll : Nat → Int32} {post : SY → Prop} {x1 x2 : Int32} (hn : n < 16) (hf : rt_01 (scf 0)) (H : ∃ N, wY_scroll_212 post x1 x2 (nI w) (nI h) (nI s) (nI (n + 1)) (nI y) (nI x) (nI sy) (nI sx) (nI tp) (nI bt) al pd sp lc cl ck N (nI tp) (rt_put sb (n * 16) 16 sc) (upd sbf n (scf 0)) sc scf rb rbf ls lr ll) : ∃ N, wY_scroll_150 post x1 x2 (nI w) (nI h) (nI s) (nI n) (nI y) (nI x) (nI sy) (nI sx) (nI tp) (nI bt) al pd sp lc cl ck N 0 sb sbf sc scf rb rbf ls lr ll := by
  refine pk_loop (fun N i c => wY_scroll_150 post x1 x2 (nI w) (nI h) (nI s) (nI n) (nI y) (nI x) (nI sy) (nI sx) (nI tp) (nI bt) al pd sp lc cl ck N (nI i) c sbf sc scf rb rbf ls lr ll) (fun i c => c = rt_put sb (n * 16) i sc) 16 0 sb (by omega) (rt_put_0 _ _ _).symm ?_ ?_
  · rintro N c rfl
    exact pk_le 16 16 (fun _ => ⟨pk_in n 16 hn, nm_r (rt_us rfl (by omega) (rt_nar hf)) (nm_r (nI_1 n) H)⟩) (fun z => absurd z (by omega))
  · rintro N i c hi rfl K
    exact pk_le 16 i (fun z => absurd z (by omega)) (fun _ => ⟨pk_in i 256 (by omega), pk_in (n * 16 + i) 256 (by omega) (rt_ix n i), nm_r ((rt_us (rt_ix n i) (by omega) (rt_rd rfl (by omega))).trans (rt_put_s rfl)) (nm_r (nI_1 i) (K _ rfl))⟩)
theorem ry_scroll1 {w h s n y x sy sx tp bt : Nat} {al pd sp lc cl ck : Int32} {sb sbf sc scf rb rbf ls lr ll : Nat → Int32} {post : SY → Prop} (hal : ¬ al = 0) (h1 : tp ≤ bt) (h2 : bt < 8) (hf : rt_B01 scf) (H : post ((nI w), (nI h), (nI s), (nI n), (nI y), (nI x), (nI sy), (nI sx), (nI tp), (nI bt), al, pd, sp, lc, cl, ck, sb, sbf, (rt_shC sc (8 + tp) (8 + bt)), (rt_shF scf (8 + tp) (8 + bt)), rb, rbf, ls, lr, ll)) : wpY_scroll post ((nI w), (nI h), (nI s), (nI n), (nI y), (nI x), (nI sy), (nI sx), (nI tp), (nI bt), al, pd, sp, lc, cl, ck, sb, sbf, sc, scf, rb, rbf, ls, lr, ll) :=
  br_f hal (br_f hal (br_f hal (ry_212 (bb := 8) (by omega) h1 h2 hf H)))
theorem ry_212z {w h s n y x sy sx tp bt : Nat} {al pd sp lc cl ck : Int32} {sb sbf sc scf rb rbf ls lr ll : Nat → Int32} {post : SY → Prop} (h1 : tp ≤ bt) (h2 : bt < 8) (hf : rt_B01 scf) (H : post ((nI w), (nI h), (nI s), (nI n), (nI y), (nI x), (nI sy), (nI sx), (nI tp), (nI bt), al, pd, sp, lc, cl, ck, sb, sbf, (rt_shC sc tp bt), (rt_shF scf tp bt), rb, rbf, ls, lr, ll)) : ∃ N, wY_scroll_212 post 0 0 (nI w) (nI h) (nI s) (nI n) (nI y) (nI x) (nI sy) (nI sx) (nI tp) (nI bt) al pd sp lc cl ck N (nI tp) sb sbf sc scf rb rbf ls lr ll :=
  ry_212 (bb := 0) (by omega) h1 h2 hf (by rw [Nat.zero_add, Nat.zero_add]; exact H)
theorem ry_scroll0 {w h s n y x sy sx tp bt : Nat} {al pd sp lc cl ck : Int32} {sb sbf sc scf rb rbf ls lr ll : Nat → Int32} {post : SY → Prop} (hal : al = 0) (ht : 0 < tp ∨ s = 0) (h1 : tp ≤ bt) (h2 : bt < 8) (hs : s ≤ 16) (hf : rt_B01 scf) (H : post ((nI w), (nI h), (nI s), (nI n), (nI y), (nI x), (nI sy), (nI sx), (nI tp), (nI bt), al, pd, sp, lc, cl, ck, sb, sbf, (rt_shC sc tp bt), (rt_shF scf tp bt), rb, rbf, ls, lr, ll)) : wpY_scroll post ((nI w), (nI h), (nI s), (nI n), (nI y), (nI x), (nI sy), (nI sx), (nI tp), (nI bt), al, pd, sp, lc, cl, ck, sb, sbf, sc, scf, rb, rbf, ls, lr, ll) :=
  br_t hal (br_t hal (br_t hal (pk_eq tp 0 (fun z => pk_le s 0 (fun _ => ry_212z h1 h2 hf H) (fun z => absurd ht (by omega))) (fun _ => ry_212z h1 h2 hf H))))
theorem ry_scrollF {w h s n y x sy sx tp bt : Nat} {al pd sp lc cl ck : Int32} {sb sbf sc scf rb rbf ls lr ll : Nat → Int32} {post : SY → Prop} (hal : al = 0) (ht : tp = 0) (h0 : 0 < n) (hs : n = s) (hs2 : s ≤ 16) (h2 : bt < 8) (hf : rt_B01 scf) (hf2 : rt_B01 sbf) (H : post ((nI w), (nI h), (nI s), (nI n), (nI y), (nI x), (nI sy), (nI sx), (nI tp), (nI bt), al, pd, sp, lc, cl, ck, (rt_put (rt_put sb 0 ((n - 1) * 16) (fun j => sb (16 + j))) ((n - 1) * 16) 16 sc), (upd (rt_put sbf 0 (n - 1) (fun j => sbf (1 + j))) (n - 1) (scf 0)), (rt_shC sc tp bt), (rt_shF scf tp bt), rb, rbf, ls, lr, ll)) : wpY_scroll post ((nI w), (nI h), (nI s), (nI n), (nI y), (nI x), (nI sy), (nI sx), (nI tp), (nI bt), al, pd, sp, lc, cl, ck, sb, sbf, sc, scf, rb, rbf, ls, lr, ll) := by
  refine br_t hal (br_t hal (br_t hal (pk_eq tp 0 (fun _ => pk_le s 0 (fun z => absurd z (by omega)) (fun _ => pk_eq n s (fun _ => ry_44 h0 (by omega) hf2 ?_) (fun z => absurd hs z))) (fun z => absurd ht z))))
  refine nm_r (pk_sub (b := 1) (by omega)) (pk_lt (n - 1) 0 (fun z => absurd z (by omega)) (fun _ => pk_le 16 (n - 1) (fun z => absurd z (by omega)) (fun _ => ry_150 (by omega) (hf 0) ?_)))
  rw [show n - 1 + 1 = n by omega]
  exact ry_212z (by omega) h2 hf H
theorem ry_scrollG {w h s n y x sy sx tp bt : Nat} {al pd sp lc cl ck : Int32} {sb sbf sc scf rb rbf ls lr ll : Nat → Int32} {post : SY → Prop} (hal : al = 0) (ht : tp = 0) (hs : n < s) (hs2 : s ≤ 16) (h2 : bt < 8) (hf : rt_B01 scf) (H : post ((nI w), (nI h), (nI s), (nI (n + 1)), (nI y), (nI x), (nI sy), (nI sx), (nI tp), (nI bt), al, pd, sp, lc, cl, ck, (rt_put sb (n * 16) 16 sc), (upd sbf n (scf 0)), (rt_shC sc tp bt), (rt_shF scf tp bt), rb, rbf, ls, lr, ll)) : wpY_scroll post ((nI w), (nI h), (nI s), (nI n), (nI y), (nI x), (nI sy), (nI sx), (nI tp), (nI bt), al, pd, sp, lc, cl, ck, sb, sbf, sc, scf, rb, rbf, ls, lr, ll) :=
  br_t hal (br_t hal (br_t hal (pk_eq tp 0 (fun _ => pk_le s 0 (fun z => absurd z (by omega)) (fun _ => pk_eq n s (fun z => absurd z (by omega)) (fun _ => pk_lt n 0 (fun z => absurd z (by omega)) (fun _ => pk_le 16 n (fun z => absurd z (by omega)) (fun _ => ry_150 (by omega) (hf 0) (ry_212z (by omega) h2 hf H)))))) (fun z => absurd ht z))))
