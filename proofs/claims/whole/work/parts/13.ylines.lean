/-! Y's table of lines -/
theorem ry_qCell {w h s n y x sy sx tp bt : Nat} {al pd sp lc cl ck : Int32} {sb sbf sc scf rb rbf ls lr ll : Nat → Int32} {g : Nat → Int32} {P : Int32 → Prop} {A B : Int32} (i c : Nat) (C : rt_Mc w h n g sb sc) (hn : n ≤ 16) (hh : h ≤ 8) (hi : i < n + h) (hc : c < 16) (H : P (g (i * 16 + c))) (eA : A = nI i := by rfl) (eB : B = nI c := by rfl) : wpY_qCell P ((nI w), (nI h), (nI s), (nI n), (nI y), (nI x), (nI sy), (nI sx), (nI tp), (nI bt), al, pd, sp, lc, cl, ck, sb, sbf, sc, scf, rb, rbf, ls, lr, ll) A B := by
  subst eA eB
  refine pk_lt i 0 (fun z => absurd z (by omega)) (fun _ => pk_lt c 0 (fun z => absurd z (by omega)) (fun _ => pk_le c 15 (fun _ => pk_le n i (fun z => pk_le 8 (i - n) (fun y => absurd y (by omega)) (fun _ => ?_) rfl (pk_sub z)) (fun z => ⟨pk_in (i * 16 + c) 256 (by omega) (rt_ix i c), ?_⟩)) (fun z => absurd z (by omega))))
  · have e : (nI i - nI n) * 16 + nI c = nI ((i - n) * 16 + c) := by rw [pk_sub z, rt_ix]
    refine ⟨pk_in ((i - n) * 16 + c) 256 (by omega) e, ?_⟩
    rw [rt_rd (a := sc) e (by omega), ← rt_cg (p := i * 16 + c) C.2.1 (by omega) (by omega) (by omega)]
    exact H
  · rw [rt_rd (a := sb) (rt_ix i c) (by omega), ← rt_cg (p := i * 16 + c) C.1 (by omega) (by omega) (by omega)]
    exact H
theorem ry_qFlag {w h s n y x sy sx tp bt : Nat} {al pd sp lc cl ck : Int32} {sb sbf sc scf rb rbf ls lr ll : Nat → Int32} {f : Nat → Int32} {P : Int32 → Prop} {A : Int32} (i : Nat) (F : rt_Mf h n f sbf scf) (hn : n ≤ 16) (hh : h ≤ 8) (hi : i < n + h) (H : P (f i)) (eA : A = nI i := by rfl) : wpY_qFlag P ((nI w), (nI h), (nI s), (nI n), (nI y), (nI x), (nI sy), (nI sx), (nI tp), (nI bt), al, pd, sp, lc, cl, ck, sb, sbf, sc, scf, rb, rbf, ls, lr, ll) A := by
  subst eA
  obtain ⟨f1, f2, f3, f4, f5, f6⟩ := F
  refine pk_le 0 i (fun _ => pk_le n i (fun z => pk_le 8 (i - n) (fun y => absurd y (by omega)) (fun _ => ⟨pk_in (i - n) 16 (by omega) (pk_sub z), rt_nb (f6 _), ?_⟩) rfl (pk_sub z)) (fun z => ⟨pk_in i 16 (by omega), rt_nb (f5 _), ?_⟩)) (fun z => absurd z (by omega))
  · rw [rt_rd (a := scf) (pk_sub z) (by omega), ← rt_cg (p := i) f2 (by omega) (by omega) (by omega)]
    exact H
  · rw [rt_rd (a := sbf) rfl (by omega), ← rt_cg (p := i) f1 (by omega) (by omega) (by omega)]
    exact H
theorem ry_textAt {w h s n y x sy sx tp bt : Nat} {al pd sp lc cl ck : Int32} {sb sbf sc scf rb rbf ls lr ll : Nat → Int32} {g : Nat → Int32} {P : Int32 → Prop} {A B : Int32} (l t st : Nat) (C : rt_Mc w h n g sb sc) (hn : n ≤ 16) (hh : h ≤ 8) (hw0 : 0 < w) (hw : w ≤ 16) (hl : l < 24) (ht : t < 2 ^ 20) (hs : ls l = nI st) (hr : st + t / w < n + h) (H : P (rt_tx g w st t)) (eA : A = nI l := by rfl) (eB : B = nI t := by rfl) : wpY_textAt P ((nI w), (nI h), (nI s), (nI n), (nI y), (nI x), (nI sy), (nI sx), (nI tp), (nI bt), al, pd, sp, lc, cl, ck, sb, sbf, sc, scf, rb, rbf, ls, lr, ll) A B := by
  subst eA eB
  have hm := Nat.mod_lt t hw0
  refine ⟨pk_in l 24 hl, nI_ne0 hw0 (by omega), nI_ne0 hw0 (by omega), ry_qCell (st + t / w) (t % w) C hn hh hr (by omega) H ?_ ?_⟩
  · rw [rt_rd (a := ls) rfl (by omega), hs, pk_div (by omega) hw0 (by omega), nI_add]
  · exact pk_rem (by omega) hw0 (by omega)
theorem ry_c85 {w h s n y x sy sx tp bt : Nat} {al pd sp cl ck : Int32} {sb sbf sc scf rb rbf ls lr ll : Nat → Int32} {post : SY → Prop} {J : Int32 → Int32 → (Nat → Int32) → (Nat → Int32) → (Nat → Int32) → (Nat → Int32) → (Nat → Int32) → (Nat → Int32) → (Nat → Int32) → (Nat → Int32) → (Nat → Int32) → Prop} {x1 x2 x3 : Int32} {k i : Nat} (hk : k < 24) (hi : i < 24) (H : J (nI (i + 1)) (nI (k + 1)) sb sbf sc scf rb rbf (upd ls k (nI i)) (upd lr k (nI 1)) ll) : wY_computeLines_85 post J x1 x2 x3 (nI i) (nI w) (nI h) (nI s) (nI n) (nI y) (nI x) (nI sy) (nI sx) (nI tp) (nI bt) al pd sp (nI k) cl ck sb sbf sc scf rb rbf ls lr ll :=
  pk_le 24 k (fun z => absurd z (by omega)) (fun _ => ⟨pk_in k 24 hk, nm_r (rt_us rfl (by omega) rfl) ⟨pk_in k 24 hk, nm_r (rt_us rfl (by omega) rfl) (nm_r (nI_1 k) (nm_r (nI_1 i) H))⟩⟩)
theorem ry_c56 {w h s n y x sy sx tp bt : Nat} {al pd sp cl ck : Int32} {sb sbf sc scf rb rbf ls lr ll : Nat → Int32} {post : SY → Prop} {f : Nat → Int32} {x1 x2 : Int32} (hn : n ≤ 16) (hh : h ≤ 8) (F : rt_Mf h n f sbf scf) (H : ∀ (k : Nat) (ls' lr' : Nat → Int32), rt_yl f (n + h) k ls' lr' → wY_computeLines_156 post x1 x2 (nI w) (nI h) (nI s) (nI n) (nI y) (nI x) (nI sy) (nI sx) (nI tp) (nI bt) al pd sp (nI k) cl ck sb sbf sc scf rb rbf ls' lr' ll) : ∃ N, wY_computeLines_56 post x1 x2 (nI (n + h)) (nI w) (nI h) (nI s) (nI n) (nI y) (nI x) (nI sy) (nI sx) (nI tp) (nI bt) al pd sp cl ck N 0 0 sb sbf sc scf rb rbf ls lr ll := by
  refine rt_loop3 (fun N i (k : Nat) (qa qb : Nat → Int32) => wY_computeLines_56 post x1 x2 (nI (n + h)) (nI w) (nI h) (nI s) (nI n) (nI y) (nI x) (nI sy) (nI sx) (nI tp) (nI bt) al pd sp cl ck N (nI i) (nI k) sb sbf sc scf rb rbf qa qb ll) (fun i k qa qb => rt_yl f i k qa qb) (n + h) 0 0 ls lr (Nat.zero_le _) (rt_yl_0 _ _ _) ?_ ?_
  · intro N k qa qb I
    exact pk_le (n + h) (n + h) (fun _ => H k qa qb I) (fun z => absurd z (by omega))
  · intro N i k qa qb hi I K
    have hk := rt_yl_k I
    have new : (i = 0 ∨ f (i - 1) = 0) → wY_computeLines_85 post (wY_computeLines_56 post x1 x2 (nI (n + h)) (nI w) (nI h) (nI s) (nI n) (nI y) (nI x) (nI sy) (nI sx) (nI tp) (nI bt) al pd sp cl ck N) x1 x2 (nI (n + h)) (nI i) (nI w) (nI h) (nI s) (nI n) (nI y) (nI x) (nI sy) (nI sx) (nI tp) (nI bt) al pd sp (nI k) cl ck sb sbf sc scf rb rbf qa qb ll := fun z => ry_c85 (by omega) (by omega) (K _ _ _ (rt_yl_new I z))
    refine pk_le (n + h) i (fun z => absurd z (by omega)) (fun _ => pk_le 24 i (fun z => absurd z (by omega)) (fun _ => pk_eq i 0 (fun z => new (Or.inl z)) (fun z => ry_qFlag (i - 1) F hn hh (by omega) (br_c (fun y => new (Or.inr y)) (fun y => ?_)) (pk_sub (b := 1) (by omega)))))
    have hk1 := I.2.1 (by omega)
    have e : nI k - 1 = nI (k - 1) := pk_sub (b := 1) (by omega)
    exact pk_le k 0 (fun z => absurd z (by omega)) (fun _ => ⟨pk_in (k - 1) 24 (by omega) e, pk_in (k - 1) 24 (by omega) e, nm_r (rt_us e (by omega) (congrArg (fun q => q + 1) (rt_rd e (by omega)))) (nm_r (nI_1 i) (K _ _ _ (rt_yl_old I (by omega) y)))⟩)
theorem rt_ln_le (g f : Nat → Int32) (w T l : Nat) : rt_ln g f w T l ≤ T * w :=
  Nat.le_trans (rt_len_le _ _) (Nat.mul_le_mul_right _ (by have := rt_V_le f T (l + 1); omega))
theorem ry_c319 {w h s n y x sy sx tp bt : Nat} {al pd sp ck : Int32} {sb sbf sc scf rb rbf ls lr ll : Nat → Int32} {post : SY → Prop} {g f : Nat → Int32} {T ci k : Nat} (hT : T ≤ 24) (hc : ci < T) (hw0 : 0 < w) (hw : w ≤ 16) (hk : k = rt_L f (T - 1) + 1) (hll : ∀ l, l < k → ll l = nI (rt_ln g f w T l)) (H : post ((nI w), (nI h), (nI s), (nI n), (nI y), (nI x), (nI sy), (nI sx), (nI tp), (nI bt), al, pd, sp, (nI (rt_N g f w T ci)), (nI (rt_L f ci)), ck, sb, sbf, sc, scf, rb, rbf, ls, lr, ll)) : ∃ N, wY_computeLines_319 post (nI w) (nI h) (nI s) (nI n) (nI y) (nI x) (nI sy) (nI sx) (nI tp) (nI bt) al pd sp (nI (rt_L f ci)) ck sb sbf sc scf rb rbf ls lr ll N 0 (nI k) := by
  have hle := rt_L_le f (T - 1)
  have hcl := rt_L_m f (show ci ≤ T - 1 by omega)
  have fin : ∀ m, rt_M g f w T ci m → post ((nI w), (nI h), (nI s), (nI n), (nI y), (nI x), (nI sy), (nI sx), (nI tp), (nI bt), al, pd, sp, (nI m), (nI (rt_L f ci)), ck, sb, sbf, sc, scf, rb, rbf, ls, lr, ll) := fun m M => by
    rw [rt_M_u M (rt_N_M hw0 hc)]; exact H
  refine pk_loop (fun N i (m : Nat) => wY_computeLines_319 post (nI w) (nI h) (nI s) (nI n) (nI y) (nI x) (nI sy) (nI sx) (nI tp) (nI bt) al pd sp (nI (rt_L f ci)) ck sb sbf sc scf rb rbf ls lr ll N (nI i) (nI m)) (fun i m => m + i = k ∧ rt_L f ci < m ∧ ∀ l, m ≤ l → l < k → rt_ln g f w T l = 0) 24 0 k (by omega) ⟨by omega, by omega, fun l h1 h2 => by omega⟩ ?_ ?_
  · rintro N m ⟨h1, h2, h3⟩
    omega
  · rintro N i m hi ⟨h1, h2, h3⟩ K
    have e : nI m - 1 = nI (m - 1) := pk_sub (b := 1) (by omega)
    have h4 := rt_ln_le g f w T (m - 1)
    have h5 : T * w ≤ 24 * 16 := Nat.mul_le_mul hT hw
    refine pk_le 24 i (fun z => absurd z (by omega)) (fun _ => pk_le (m - 1) (rt_L f ci) (fun z => fin m ⟨h2, by omega, fun l p q => h3 l p (by omega), Or.inl (by omega)⟩) (fun z => ⟨pk_in (m - 1) 24 (by omega) e, br_c (fun y => ?_) (fun y => ?_)⟩) e)
    · have y' := rt_flE (m - 1) e (by omega) y
      rw [hll _ (by omega)] at y'
      refine nm_r e (nm_r (nI_1 i) (K (m - 1) ⟨by omega, by omega, fun l p q => ?_⟩))
      by_cases el : l = m - 1
      · rw [el]; exact (nI_eq (by omega) (by omega)).mp y'
      · exact h3 l (by omega) q
    · have y' := rt_nflE (m - 1) e (by omega) y
      rw [hll _ (by omega)] at y'
      refine fin m ⟨h2, by omega, fun l p q => h3 l p (by omega), Or.inr (fun z => y' ?_)⟩
      rw [z]; rfl

theorem ry_c242 {w h s n y x sy sx tp bt : Nat} {al pd sp lc cl ck : Int32} {sb sbf sc scf rb rbf ls lr ll : Nat → Int32} {post : SY → Prop} {J : Int32 → Int32 → Int32 → (Nat → Int32) → (Nat → Int32) → (Nat → Int32) → (Nat → Int32) → (Nat → Int32) → (Nat → Int32) → (Nat → Int32) → (Nat → Int32) → (Nat → Int32) → Prop} {f : Nat → Int32} {T ci mc l : Nat} {x6 : Int32} (hT : T ≤ 24) (hc : ci < T) (hl : l < 24) (hls : ls l = nI (rt_V f T l)) (hlr : lr l = nI (rt_V f T (l + 1) - rt_V f T l)) (H : ∀ cl' ck' : Int32, ((rt_L f ci < l ∨ l < rt_L f ci) → cl' = cl ∧ ck' = ck) → (rt_L f ci = l → cl' = nI (rt_L f ci) ∧ ck' = nI (rt_ck f w T ci mc)) → J (nI (l + 1)) cl' ck' sb sbf sc scf rb rbf ls lr (upd ll l x6)) : wY_computeLines_242 post J (nI mc) (nI ci) (nI l) x6 (nI w) (nI h) (nI s) (nI n) (nI y) (nI x) (nI sy) (nI sx) (nI tp) (nI bt) al pd sp lc cl ck sb sbf sc scf rb rbf ls lr ll := by
  have m := rt_V_mono f T (show l ≤ l + 1 by omega)
  have b1 := rt_V_le f T l
  have b2 := rt_V_le f T (l + 1)
  have i1 := rt_V_iff f T l ci hc
  have i2 := rt_V_iff f T (l + 1) ci hc
  have es : ls (nI l).toNatClampNeg = nI (rt_V f T l) := (rt_rd rfl (by omega)).trans hls
  have er : ls (nI l).toNatClampNeg + lr (nI l).toNatClampNeg = nI (rt_V f T (l + 1)) := by
    rw [es, rt_rd (a := lr) rfl (by omega), hlr, nI_add]
    congr 1; omega
  refine ⟨pk_in l 24 hl, nm_r (rt_us rfl (by omega) rfl) ⟨pk_in l 24 hl, pk_lt ci (rt_V f T l) (fun z => nm_r (nI_1 l) (H cl ck (fun _ => ⟨rfl, rfl⟩) (fun e => by omega))) (fun z => ⟨pk_in l 24 hl, pk_in l 24 hl, pk_le (rt_V f T (l + 1)) ci (fun y => nm_r (nI_1 l) (H cl ck (fun _ => ⟨rfl, rfl⟩) (fun e => by omega))) (fun y => ⟨pk_in l 24 hl, nm_r (e' := nI (rt_ck f w T ci mc)) ?_ (nm_r (nI_1 l) (H (nI l) _ (fun e => by omega) (fun e => ⟨by rw [e], rfl⟩)))⟩) er⟩) rfl es⟩⟩
  have e : rt_L f ci = l := by omega
  unfold rt_ck
  rw [es, pk_sub z, pk_mul, nI_add, e]
theorem ry_c192 {w h s n y x sy sx tp bt : Nat} {al pd sp lc cl ck : Int32} {sb sbf sc scf rb rbf ls lr ll : Nat → Int32} {post : SY → Prop} {J : Int32 → Int32 → Int32 → (Nat → Int32) → (Nat → Int32) → (Nat → Int32) → (Nat → Int32) → (Nat → Int32) → (Nat → Int32) → (Nat → Int32) → (Nat → Int32) → (Nat → Int32) → Prop} {g : Nat → Int32} {x2 x4 : Int32} {l st rows : Nat} (C : rt_Mc w h n g sb sc) (hn : n ≤ 16) (hh : h ≤ 8) (hw0 : 0 < w) (hw : w ≤ 16) (hl : l < 24) (hls : ls l = nI st) (hlr : lr l = nI rows) (hst : st + rows ≤ n + h) (H : wY_computeLines_242 post J x2 x4 (nI l) (nI (rt_len (rt_tx g w st) (rows * w))) (nI w) (nI h) (nI s) (nI n) (nI y) (nI x) (nI sy) (nI sx) (nI tp) (nI bt) al pd sp lc cl ck sb sbf sc scf rb rbf ls lr ll) : ∃ N, wY_computeLines_192 post J x2 x4 (nI l) (nI w) (nI h) (nI s) (nI n) (nI y) (nI x) (nI sy) (nI sx) (nI tp) (nI bt) al pd sp lc cl ck sb sbf sc scf rb rbf ls lr ll N 0 0 := by
  have hb : rows * w ≤ 24 * 16 := Nat.mul_le_mul (by omega) hw
  have er : lr (nI l).toNatClampNeg * nI w = nI (rows * w) := by rw [rt_rd (a := lr) rfl (by omega), hlr, pk_mul]
  refine pk_loop (fun N i (q : Int32) => wY_computeLines_192 post J x2 x4 (nI l) (nI w) (nI h) (nI s) (nI n) (nI y) (nI x) (nI sy) (nI sx) (nI tp) (nI bt) al pd sp lc cl ck sb sbf sc scf rb rbf ls lr ll N q (nI i)) (fun i q => q = nI (rt_len (rt_tx g w st) i)) (rows * w) 0 0 (Nat.zero_le _) rfl ?_ ?_
  · rintro N q rfl
    exact ⟨pk_in l 24 hl, pk_le (rows * w) (rows * w) (fun _ => H) (fun z => absurd z (by omega)) er⟩
  · rintro N i q hi rfl K
    have hq : i / w < rows := Nat.div_lt_of_lt_mul (by rw [Nat.mul_comm]; exact hi)
    have hq2 : st + i / w < n + h := Nat.lt_of_lt_of_le (Nat.add_lt_add_left hq st) hst
    refine ⟨pk_in l 24 hl, pk_le (rows * w) i (fun z => absurd z (by omega)) (fun _ => pk_le 384 i (fun z => absurd z (by omega)) (fun _ => ry_textAt l i st C hn hh hw0 hw hl (by omega) hls hq2 (br_c (fun z => nm_r (nI_1 i) (K _ ?_)) (fun z => nm_r (nI_1 i) (nm_r (nI_1 i) (K _ ?_)))))) er⟩
    · rw [rt_len_b z]
    · rw [rt_len_t z]
theorem ry_c177 {w h s n y x sy sx tp bt : Nat} {al pd sp : Int32} {sb sbf sc scf rb rbf ls lr ll : Nat → Int32} {post : SY → Prop} {g f : Nat → Int32} {ci mc k : Nat} (C : rt_Mc w h n g sb sc) (hn : n ≤ 16) (hh : h ≤ 8) (h0 : 0 < h) (hw0 : 0 < w) (hw : w ≤ 16) (hc : ci < n + h) (Y : rt_yl f (n + h) k ls lr) (H : ∀ ll' : Nat → Int32, (∀ l, l < k → ll' l = nI (rt_ln g f w (n + h) l)) → post ((nI w), (nI h), (nI s), (nI n), (nI y), (nI x), (nI sy), (nI sx), (nI tp), (nI bt), al, pd, sp, (nI (rt_N g f w (n + h) ci)), (nI (rt_L f ci)), (nI (rt_ck f w (n + h) ci mc)), sb, sbf, sc, scf, rb, rbf, ls, lr, ll')) : ∃ N, wY_computeLines_177 post (nI mc) (nI ci) (nI w) (nI h) (nI s) (nI n) (nI y) (nI x) (nI sy) (nI sx) (nI tp) (nI bt) al pd sp (nI k) N 0 0 0 sb sbf sc scf rb rbf ls lr ll := by
  have hk := Y.2.1 (by omega)
  have hk2 := rt_yl_k Y
  have hcl := rt_L_m f (show ci ≤ n + h - 1 by omega)
  refine rt_loop3 (fun N i (qa qb : Int32) (qc : Nat → Int32) => wY_computeLines_177 post (nI mc) (nI ci) (nI w) (nI h) (nI s) (nI n) (nI y) (nI x) (nI sy) (nI sx) (nI tp) (nI bt) al pd sp (nI k) N (nI i) qa qb sb sbf sc scf rb rbf ls lr qc) (fun i qa qb qc => (∀ l, l < i → qc l = nI (rt_ln g f w (n + h) l)) ∧ (rt_L f ci < i → qa = nI (rt_L f ci) ∧ qb = nI (rt_ck f w (n + h) ci mc))) k 0 0 0 ll (Nat.zero_le _) ⟨fun l hl => by omega, fun hl => by omega⟩ ?_ ?_
  · rintro N qa qb qc ⟨h1, h2⟩
    obtain ⟨rfl, rfl⟩ := h2 (by omega)
    exact pk_le k k (fun _ => ry_c319 (by omega) hc hw0 hw hk h1 (H qc h1)) (fun z => absurd z (by omega))
  · rintro N i qa qb qc hi ⟨h1, h2⟩ K
    have yl := Y.2.2 i hi
    have b2 := rt_V_le f (n + h) (i + 1)
    have m := rt_V_mono f (n + h) (show i ≤ i + 1 by omega)
    refine pk_le k i (fun z => absurd z (by omega)) (fun _ => ry_c192 C hn hh hw0 hw (by omega) yl.1 yl.2 (by omega) (ry_c242 (by omega) hc (by omega) yl.1 yl.2 (fun cl' ck' p q => K cl' ck' _ ⟨fun l hl => ?_, fun hl => ?_⟩)))
    · by_cases e : l = i
      · subst e; rw [pk_us]; rfl
      · rw [pk_un e]; exact h1 l (by omega)
    · by_cases e : rt_L f ci = i
      · exact q e
      · obtain ⟨rfl, rfl⟩ := p (by omega)
        exact h2 (by omega)
theorem ry_computeLines {w h s n y x sy sx tp bt : Nat} {al pd sp lc cl ck : Int32} {sb sbf sc scf rb rbf ls lr ll : Nat → Int32} {post : SY → Prop} {g f : Nat → Int32} (C : rt_Mc w h n g sb sc) (F : rt_Mf h n f sbf scf) (hn : n ≤ 16) (hh : h ≤ 8) (hw0 : 0 < w) (hw : w ≤ 16) (hm : rt_mr al y sy < h) (H : ∀ ls' lr' ll' : Nat → Int32, (∀ l, l ≤ rt_L f (n + h - 1) → ls' l = nI (rt_V f (n + h) l) ∧ ll' l = nI (rt_ln g f w (n + h) l)) → post ((nI w), (nI h), (nI s), (nI n), (nI y), (nI x), (nI sy), (nI sx), (nI tp), (nI bt), al, pd, sp, (nI (rt_N g f w (n + h) (n + rt_mr al y sy))), (nI (rt_L f (n + rt_mr al y sy))), (nI (rt_ck f w (n + h) (n + rt_mr al y sy) (rt_mr al x sx))), sb, sbf, sc, scf, rb, rbf, ls', lr', ll')) : wpY_computeLines post ((nI w), (nI h), (nI s), (nI n), (nI y), (nI x), (nI sy), (nI sx), (nI tp), (nI bt), al, pd, sp, lc, cl, ck, sb, sbf, sc, scf, rb, rbf, ls, lr, ll) := by
  have key : ∀ a b : Nat, a < h → (∀ ls' lr' ll' : Nat → Int32, (∀ l, l ≤ rt_L f (n + h - 1) → ls' l = nI (rt_V f (n + h) l) ∧ ll' l = nI (rt_ln g f w (n + h) l)) → post ((nI w), (nI h), (nI s), (nI n), (nI y), (nI x), (nI sy), (nI sx), (nI tp), (nI bt), al, pd, sp, (nI (rt_N g f w (n + h) (n + a))), (nI (rt_L f (n + a))), (nI (rt_ck f w (n + h) (n + a) b)), sb, sbf, sc, scf, rb, rbf, ls', lr', ll')) → wY_computeLines_37 post (nI a) (nI b) (nI w) (nI h) (nI s) (nI n) (nI y) (nI x) (nI sy) (nI sx) (nI tp) (nI bt) al pd sp lc cl ck sb sbf sc scf rb rbf ls lr ll := by
    intro a b ha H
    refine nm_r (nI_add n h) (ry_c56 hn hh F (fun k ls' lr' Y => nm_r (nI_add n a) (ry_c177 C hn hh (by omega) hw0 hw (by omega) Y (fun ll' hl => H ls' lr' ll' (fun l hl2 => ?_)))))
    have hk := Y.2.1 (by omega)
    exact ⟨(Y.2.2 l (by omega)).1, hl l (by omega)⟩
  unfold rt_mr at H hm
  by_cases hal : al = 0
  · rw [if_pos hal] at H hm
    rw [if_pos hal] at H
    exact br_t hal (br_t hal (key y x hm H))
  · rw [if_neg hal] at H hm
    rw [if_neg hal] at H
    exact br_f hal (br_f hal (key sy sx hm H))
