/-! Y's resize -/
theorem ry_rz32 {w h s n y x sy sx tp bt : Nat} {al pd sp : Int32} {sb sbf sc scf rb rbf ls lr ll : Nat → Int32} {g f : Nat → Int32} {post : Int32 → SY → Prop} {w2 ci mc : Nat} {x4 : Int32} (C : rt_Mc w h n g sb sc) (hn : n ≤ 16) (hh : h ≤ 8) (h0 : 0 < h) (hw0 : 0 < w) (hw : w ≤ 16) (h24 : 4 ≤ w2) (hw2 : w2 ≤ 16) (hc : ci < n + h) (hm : mc < w) (M : Nat) (hM : M ≤ rt_L f (n + h - 1) + 1) (hcM : rt_L f ci < M) (hl : ∀ l, l ≤ rt_L f (n + h - 1) → ls l = nI (rt_V f (n + h) l) ∧ ll l = nI (rt_ln g f w (n + h) l)) (H : wY_resize_92 post (nI w2) x4 (nI (rt_Bs (rt_RR g f w (n + h) w2 ci mc) M)) (nI (rt_Bs (rt_RR g f w (n + h) w2 ci mc) (rt_L f ci) + rt_ck f w (n + h) ci mc / w2)) (nI w) (nI h) (nI s) (nI n) (nI y) (nI x) (nI sy) (nI sx) (nI tp) (nI bt) al pd sp (nI M) (nI (rt_L f ci)) (nI (rt_ck f w (n + h) ci mc)) sb sbf sc scf (rt_fa (rt_TX g f w (n + h)) (rt_ln g f w (n + h)) (rt_RR g f w (n + h) w2 ci mc) w2 rb M) (rt_ff (rt_RR g f w (n + h) w2 ci mc) rbf M) ls lr ll) : ∃ N, wY_resize_32 post (nI w2) x4 N 0 0 0 (nI w) (nI h) (nI s) (nI n) (nI y) (nI x) (nI sy) (nI sx) (nI tp) (nI bt) al pd sp (nI M) (nI (rt_L f ci)) (nI (rt_ck f w (n + h) ci mc)) sb sbf sc scf rb rbf ls lr ll := by
  have hL := rt_L_le f (n + h - 1)
  have hck : rt_ck f w (n + h) ci mc < 2 ^ 20 := by
    have a := rt_ck_lt (f := f) (w := w) hc hm
    have b := rt_V_le f (n + h) (rt_L f ci + 1)
    have c : (rt_V f (n + h) (rt_L f ci + 1) - rt_V f (n + h) (rt_L f ci)) * w ≤ 24 * 16 := Nat.mul_le_mul (by omega) hw
    omega
  have ek : nI (rt_ck f w (n + h) ci mc) / nI w2 = nI (rt_ck f w (n + h) ci mc / w2) := pk_div (by omega) (by omega) (by omega)
  have h96M := rt_Bs_96 (g := g) (f := f) (m := M) (show 0 < n + h by omega) (by omega) hw h24 hc hm hM
  refine rt_loop3 (fun N l (q : Int32) (qa qb : Nat → Int32) => wY_resize_32 post (nI w2) x4 N (nI (rt_Bs (rt_RR g f w (n + h) w2 ci mc) l)) q (nI l) (nI w) (nI h) (nI s) (nI n) (nI y) (nI x) (nI sy) (nI sx) (nI tp) (nI bt) al pd sp (nI M) (nI (rt_L f ci)) (nI (rt_ck f w (n + h) ci mc)) sb sbf sc scf qa qb ls lr ll) (fun l q qa qb => (rt_L f ci < l → q = nI (rt_Bs (rt_RR g f w (n + h) w2 ci mc) (rt_L f ci) + rt_ck f w (n + h) ci mc / w2)) ∧ qa = rt_fa (rt_TX g f w (n + h)) (rt_ln g f w (n + h)) (rt_RR g f w (n + h) w2 ci mc) w2 rb l ∧ qb = rt_ff (rt_RR g f w (n + h) w2 ci mc) rbf l) M 0 0 rb rbf (Nat.zero_le _) ⟨fun z => by omega, rfl, rfl⟩ ?_ ?_
  · rintro N q qa qb ⟨h1, rfl, rfl⟩
    obtain rfl := h1 hcM
    exact pk_le M M (fun _ => pk_le (rt_Bs (rt_RR g f w (n + h) w2 ci mc) M) 96 (fun _ => H) (fun z => absurd z (by omega))) (fun z => absurd z (by omega))
  · rintro N l q qa qb hlM ⟨h1, rfl, rfl⟩ K
    have h96 := rt_Bs_96 (g := g) (f := f) (m := l + 1) (show 0 < n + h by omega) (by omega) hw h24 hc hm (by omega)
    rw [rt_Bs_s] at h96
    have hVl := rt_V_le f (n + h) (l + 1)
    have hlen := rt_ln_le g f w (n + h) l
    have hlen2 : (n + h) * w ≤ 24 * 16 := Nat.mul_le_mul (by omega) hw
    have hin : ∀ q, q < rt_ln g f w (n + h) l → rt_V f (n + h) l + q / w < n + h := fun q hq => by
      have a : q < (rt_V f (n + h) (l + 1) - rt_V f (n + h) l) * w := Nat.lt_of_lt_of_le hq (rt_len_le _ _)
      have b : q / w < rt_V f (n + h) (l + 1) - rt_V f (n + h) l := Nat.div_lt_of_lt_mul (by rw [Nat.mul_comm]; exact a)
      exact Nat.lt_of_lt_of_le (Nat.add_lt_of_lt_sub' b) (by omega)
    have hll := hl l (by omega)
    have go : ∀ q : Int32, (rt_L f ci < l + 1 → q = nI (rt_Bs (rt_RR g f w (n + h) w2 ci mc) (rt_L f ci) + rt_ck f w (n + h) ci mc / w2)) → wY_resize_61 post (wY_resize_32 post (nI w2) x4 N) (nI w2) x4 (nI (rt_Bs (rt_RR g f w (n + h) w2 ci mc) l)) q (nI l) (nI w) (nI h) (nI s) (nI n) (nI y) (nI x) (nI sy) (nI sx) (nI tp) (nI bt) al pd sp (nI M) (nI (rt_L f ci)) (nI (rt_ck f w (n + h) ci mc)) sb sbf sc scf (rt_fa (rt_TX g f w (n + h)) (rt_ln g f w (n + h)) (rt_RR g f w (n + h) w2 ci mc) w2 rb l) (rt_ff (rt_RR g f w (n + h) w2 ci mc) rbf l) ls lr ll := fun q hq =>
      ry_rz61 l (rt_V f (n + h) l) w2 (rt_Bs (rt_RR g f w (n + h) w2 ci mc) l) (rt_L f ci) (rt_ck f w (n + h) ci mc) (rt_ln g f w (n + h)) C hn hh hw0 hw h24 hw2 (by omega) (by omega) hck hll.1 hll.2 h96 (by omega) hin (K q _ _ ⟨hq, rfl, rfl⟩)
    exact pk_le M l (fun z => absurd z (by omega)) (fun _ => pk_eq l (rt_L f ci) (fun z => ⟨nI_ne0 (by omega) (by omega), nm_r (e' := nI (rt_Bs (rt_RR g f w (n + h) w2 ci mc) l + rt_ck f w (n + h) ci mc / w2)) (by rw [ek, nI_add]) (go _ (fun _ => by rw [z]))⟩) (fun z => go q (fun p => h1 (by omega))))
theorem ry_rz92 {w h s n y x sy sx tp bt : Nat} {al pd sp lc cl ck : Int32} {sb sbf sc scf rb rbf ls lr ll : Nat → Int32} {post : Int32 → SY → Prop} {x3 : Int32} (t p h2 : Nat) (ht : t ≤ 96) (hp : p ≤ 96) (hh2 : h2 ≤ 8) (H : ∃ N, wY_resize_126 post x3 (nI h2) (nI t) (nI p) (nI (rt_mn (t - h2) p)) 0 (nI w) (nI h) (nI s) (nI n) (nI y) (nI x) (nI sy) (nI sx) (nI tp) (nI bt) al pd sp lc cl ck N 0 sb sbf sc scf rb rbf ls lr ll) : wY_resize_92 post x3 (nI h2) (nI t) (nI p) (nI w) (nI h) (nI s) (nI n) (nI y) (nI x) (nI sy) (nI sx) (nI tp) (nI bt) al pd sp lc cl ck sb sbf sc scf rb rbf ls lr ll := by
  refine pk_le t h2 (fun z => ?_) (fun z => nm_r (pk_sub (by omega)) (pk_le (t - h2) p (fun z2 => ?_) (fun z2 => ?_)))
  · rw [show rt_mn (t - h2) p = 0 by rcases rt_mn_sp (t - h2) p with ⟨a, e⟩ | ⟨a, e⟩ <;> omega] at H
    exact H
  · rw [show rt_mn (t - h2) p = t - h2 by rcases rt_mn_sp (t - h2) p with ⟨a, e⟩ | ⟨a, e⟩ <;> omega] at H
    exact H
  · rw [show rt_mn (t - h2) p = p by rcases rt_mn_sp (t - h2) p with ⟨a, e⟩ | ⟨a, e⟩ <;> omega] at H
    exact H
theorem ry_160a {w h s n y x sy sx tp bt : Nat} {al pd sp lc cl ck : Int32} {sb sbf sc scf rb rbf ls lr ll : Nat → Int32} {post : Int32 → SY → Prop} {J : Int32 → (Nat → Int32) → (Nat → Int32) → (Nat → Int32) → (Nat → Int32) → (Nat → Int32) → (Nat → Int32) → (Nat → Int32) → (Nat → Int32) → (Nat → Int32) → Prop} {x3 x4 x5 x6 x8 : Int32} (fi r : Nat) (hr : r < 8) (hf : fi + r < 96) (hb : rt_01 (rbf (fi + r))) (H : J (nI (r + 1)) sb sbf (rt_put sc (r * 16) 16 (fun j => rb ((fi + r) * 16 + j))) (upd scf r (rbf (fi + r))) rb rbf ls lr ll) : ∃ N, wY_resize_160 post J x3 x4 x5 x6 (nI fi) x8 (nI r) 1 (nI w) (nI h) (nI s) (nI n) (nI y) (nI x) (nI sy) (nI sx) (nI tp) (nI bt) al pd sp lc cl ck N 0 sb sbf sc scf rb rbf ls lr ll := by
  have e : ∀ i, (nI fi + nI r) * 16 + nI i = nI ((fi + r) * 16 + i) := fun i => by rw [nI_add, rt_ix]
  refine pk_loop (fun N i c => wY_resize_160 post J x3 x4 x5 x6 (nI fi) x8 (nI r) 1 (nI w) (nI h) (nI s) (nI n) (nI y) (nI x) (nI sy) (nI sx) (nI tp) (nI bt) al pd sp lc cl ck N (nI i) sb sbf c scf rb rbf ls lr ll) (fun i c => c = rt_put sc (r * 16) i (fun j => rb ((fi + r) * 16 + j))) 16 0 sc (by omega) (rt_put_0 _ _ _).symm ?_ ?_
  · rintro N c rfl
    refine pk_le 16 16 (fun _ => br_f (by decide) ⟨pk_in (fi + r) 96 hf (nI_add fi r), br_c (fun z => ⟨pk_in r 16 (by omega), nm_r (rt_us rfl (by omega) rt_nar0) (nm_r (nI_1 r) ?_)⟩) (fun z => ⟨pk_in r 16 (by omega), nm_r (rt_us rfl (by omega) rt_nar1) (nm_r (nI_1 r) ?_)⟩)⟩) (fun z => absurd z (by omega))
    · rw [rt_flE (fi + r) (nI_add fi r) (by omega) z] at H
      exact H
    · rw [rt_al1 hb (rt_nflE (fi + r) (nI_add fi r) (by omega) z)] at H
      exact H
  · rintro N i c hi rfl K
    exact pk_le 16 i (fun z => absurd z (by omega)) (fun _ => br_f (by decide) ⟨pk_in ((fi + r) * 16 + i) 1536 (by omega) (e i), pk_in (r * 16 + i) 256 (by omega) (rt_ix r i), nm_r ((rt_us (rt_ix r i) (by omega) (rt_rd (e i) (by omega))).trans (rt_put_s rfl)) (nm_r (nI_1 i) (K _ rfl))⟩)
theorem ry_160b {w h s n y x sy sx tp bt : Nat} {al pd sp lc cl ck : Int32} {sb sbf sc scf rb rbf ls lr ll : Nat → Int32} {post : Int32 → SY → Prop} {J : Int32 → (Nat → Int32) → (Nat → Int32) → (Nat → Int32) → (Nat → Int32) → (Nat → Int32) → (Nat → Int32) → (Nat → Int32) → (Nat → Int32) → (Nat → Int32) → Prop} {x3 x4 x5 x6 x7 x8 : Int32} (r : Nat) (hr : r < 8) (H : J (nI (r + 1)) sb sbf (rt_put sc (r * 16) 16 (fun _ => 32)) (upd scf r 0) rb rbf ls lr ll) : ∃ N, wY_resize_160 post J x3 x4 x5 x6 x7 x8 (nI r) 0 (nI w) (nI h) (nI s) (nI n) (nI y) (nI x) (nI sy) (nI sx) (nI tp) (nI bt) al pd sp lc cl ck N 0 sb sbf sc scf rb rbf ls lr ll := by
  refine pk_loop (fun N i c => wY_resize_160 post J x3 x4 x5 x6 x7 x8 (nI r) 0 (nI w) (nI h) (nI s) (nI n) (nI y) (nI x) (nI sy) (nI sx) (nI tp) (nI bt) al pd sp lc cl ck N (nI i) sb sbf c scf rb rbf ls lr ll) (fun i c => c = rt_put sc (r * 16) i (fun _ => 32)) 16 0 sc (by omega) (rt_put_0 _ _ _).symm ?_ ?_
  · rintro N c rfl
    exact pk_le 16 16 (fun _ => br_t rfl ⟨pk_in r 16 (by omega), nm_r (rt_us rfl (by omega) rt_nar0) (nm_r (nI_1 r) H)⟩) (fun z => absurd z (by omega))
  · rintro N i c hi rfl K
    exact pk_le 16 i (fun z => absurd z (by omega)) (fun _ => br_t rfl ⟨pk_in (r * 16 + i) 256 (by omega) (rt_ix r i), nm_r ((rt_us (rt_ix r i) (by omega) rfl).trans (rt_put_s rfl)) (nm_r (nI_1 i) (K _ rfl))⟩)
theorem ry_126 {w h s n y x sy sx tp bt : Nat} {al pd sp lc cl ck : Int32} {sb sbf sc scf rb rbf ls lr ll : Nat → Int32} {post : Int32 → SY → Prop} {x3 x6 x8 : Int32} (fi t h2 : Nat) (ht : t ≤ 96) (hh2 : h2 ≤ 8) (hft : fi ≤ t) (hs : s ≤ 16) (hb : ∀ i, i < t → rt_01 (rbf i)) (HA : h2 < t → ∃ N, wY_resize_292 post x3 (nI h2) (nI t) x6 (nI fi) (nI (fi - rt_mn fi s)) (nI w) (nI h) (nI s) (nI (rt_mn fi s)) (nI y) (nI x) (nI sy) (nI sx) (nI tp) (nI bt) al pd sp lc cl ck N 0 sb sbf (rt_scP sc rb fi t h2) (rt_sfP scf rbf fi t h2) rb rbf ls lr ll) (HB : t ≤ h2 → wY_resize_389 post x3 (nI h2) x6 (nI fi) x8 (nI w) (nI h) (nI s) 0 (nI y) (nI x) (nI sy) (nI sx) (nI tp) (nI bt) al pd sp lc cl ck sb sbf (rt_scP sc rb fi t h2) (rt_sfP scf rbf fi t h2) rb rbf ls lr ll) : ∃ N, wY_resize_126 post x3 (nI h2) (nI t) x6 (nI fi) x8 (nI w) (nI h) (nI s) (nI n) (nI y) (nI x) (nI sy) (nI sx) (nI tp) (nI bt) al pd sp lc cl ck N 0 sb sbf sc scf rb rbf ls lr ll := by
  refine rt_loop2 (fun N i (qa qb : Nat → Int32) => wY_resize_126 post x3 (nI h2) (nI t) x6 (nI fi) x8 (nI w) (nI h) (nI s) (nI n) (nI y) (nI x) (nI sy) (nI sx) (nI tp) (nI bt) al pd sp lc cl ck N (nI i) sb sbf qa qb rb rbf ls lr ll) (fun i qa qb => qa = rt_put sc 0 (i * 16) (fun i => if i / 16 < h2 ∧ fi + i / 16 < t then rb (fi * 16 + i) else 32) ∧ qb = rt_put scf 0 i (fun r => if r < h2 ∧ fi + r < t then rbf (fi + r) else 0)) 8 0 sc scf (Nat.zero_le _) ⟨by rw [Nat.zero_mul, rt_put_0], by rw [rt_put_0]⟩ ?_ ?_
  · rintro N qa qb ⟨rfl, rfl⟩
    refine pk_le 8 8 (fun _ => pk_lt h2 t (fun z => ?_) (fun z => HB z)) (fun z => absurd z (by omega))
    have HA' := HA z
    rcases Nat.lt_or_ge fi s with y | y
    · have e : rt_mn fi s = fi := by rcases rt_mn_sp fi s with ⟨a, e⟩ | ⟨a, e⟩ <;> omega
      rw [e, Nat.sub_self] at HA'
      have hneg : ¬ (0 : Int32) ≤ nI fi - nI s := by
        rw [Int32.le_iff_toInt_le, Int32.toInt_sub, nI_toInt (by omega), nI_toInt (by omega), show (0 : Int32).toInt = 0 from by decide, Int.bmod_eq_of_le (by omega) (by omega)]
        omega
      exact nm_e (br_f hneg (nm_r (Int32.sub_zero _) HA'))
    · have e : rt_mn fi s = s := by rcases rt_mn_sp fi s with ⟨a, e⟩ | ⟨a, e⟩ <;> omega
      rw [e] at HA'
      refine nm_r (pk_sub y) (pk_le 0 (fi - s) (fun _ => nm_r (e' := nI s) ?_ HA') (fun z => absurd z (by omega)))
      rw [pk_sub (by omega)]; congr 1; omega
  · rintro N i qa qb hi ⟨rfl, rfl⟩ K
    have blank : ¬ (i < h2 ∧ fi + i < t) → ∃ N', wY_resize_160 post (wY_resize_126 post x3 (nI h2) (nI t) x6 (nI fi) x8 (nI w) (nI h) (nI s) (nI n) (nI y) (nI x) (nI sy) (nI sx) (nI tp) (nI bt) al pd sp lc cl ck N) x3 (nI h2) (nI t) x6 (nI fi) x8 (nI i) 0 (nI w) (nI h) (nI s) (nI n) (nI y) (nI x) (nI sy) (nI sx) (nI tp) (nI bt) al pd sp lc cl ck N' 0 sb sbf (rt_put sc 0 (i * 16) (fun i => if i / 16 < h2 ∧ fi + i / 16 < t then rb (fi * 16 + i) else 32)) (rt_put scf 0 i (fun r => if r < h2 ∧ fi + r < t then rbf (fi + r) else 0)) rb rbf ls lr ll := fun z => by
      have e1 : rt_put (rt_put sc 0 (i * 16) (fun i => if i / 16 < h2 ∧ fi + i / 16 < t then rb (fi * 16 + i) else 32)) (i * 16) 16 (fun _ => 32) = rt_put sc 0 ((i + 1) * 16) (fun i => if i / 16 < h2 ∧ fi + i / 16 < t then rb (fi * 16 + i) else 32) := by
        rw [rt_put_a (v := fun i => if i / 16 < h2 ∧ fi + i / 16 < t then rb (fi * 16 + i) else 32) (by omega) (fun j hj => by
          show 32 = _
          rw [if_neg (by omega)])]
        congr 1; omega
      have e2 : upd (rt_put scf 0 i (fun r => if r < h2 ∧ fi + r < t then rbf (fi + r) else 0)) i 0 = rt_put scf 0 (i + 1) (fun r => if r < h2 ∧ fi + r < t then rbf (fi + r) else 0) := by
        have q := rt_put_s (g := scf) (v := fun r => if r < h2 ∧ fi + r < t then rbf (fi + r) else 0) (b := 0) (m := i) (x := 0) (by
          show 0 = _
          rw [if_neg z])
        rw [Nat.zero_add] at q
        exact q
      exact ry_160b i hi (K _ _ ⟨e1, e2⟩)
    refine pk_le 8 i (fun z => absurd z (by omega)) (fun _ => pk_le h2 i (fun z => blank (by omega)) (fun z => pk_le t (fi + i) (fun z2 => blank (by omega)) (fun z2 => ?_) rfl (nI_add fi i)))
    have e1 : rt_put (rt_put sc 0 (i * 16) (fun i => if i / 16 < h2 ∧ fi + i / 16 < t then rb (fi * 16 + i) else 32)) (i * 16) 16 (fun j => rb ((fi + i) * 16 + j)) = rt_put sc 0 ((i + 1) * 16) (fun i => if i / 16 < h2 ∧ fi + i / 16 < t then rb (fi * 16 + i) else 32) := by
      rw [rt_put_a (v := fun i => if i / 16 < h2 ∧ fi + i / 16 < t then rb (fi * 16 + i) else 32) (by omega) (fun j hj => by
        show rb _ = _
        rw [if_pos (by omega)]
        congr 1; omega)]
      congr 1; omega
    have e2 : upd (rt_put scf 0 i (fun r => if r < h2 ∧ fi + r < t then rbf (fi + r) else 0)) i (rbf (fi + i)) = rt_put scf 0 (i + 1) (fun r => if r < h2 ∧ fi + r < t then rbf (fi + r) else 0) := by
      have q := rt_put_s (g := scf) (v := fun r => if r < h2 ∧ fi + r < t then rbf (fi + r) else 0) (b := 0) (m := i) (x := rbf (fi + i)) (by
        show rbf _ = _
        rw [if_pos ⟨z, z2⟩])
      rw [Nat.zero_add] at q
      exact q
    exact ry_160a fi i hi (by omega) (hb _ z2) (K _ _ ⟨e1, e2⟩)
theorem ry_311 {w h s n y x sy sx tp bt : Nat} {al pd sp lc cl ck : Int32} {sb sbf sc scf rb rbf ls lr ll : Nat → Int32} {post : Int32 → SY → Prop} {J : Int32 → (Nat → Int32) → (Nat → Int32) → (Nat → Int32) → (Nat → Int32) → (Nat → Int32) → (Nat → Int32) → (Nat → Int32) → (Nat → Int32) → (Nat → Int32) → Prop} {x3 x4 x5 x6 x7 : Int32} (d r : Nat) (hr : r < 16) (hf : d + r < 96) (hb : rt_01 (rbf (d + r))) (H : J (nI (r + 1)) (rt_put sb (r * 16) 16 (fun j => rb ((d + r) * 16 + j))) (upd sbf r (rbf (d + r))) sc scf rb rbf ls lr ll) : ∃ N, wY_resize_311 post J x3 x4 x5 x6 x7 (nI d) (nI r) (nI w) (nI h) (nI s) (nI n) (nI y) (nI x) (nI sy) (nI sx) (nI tp) (nI bt) al pd sp lc cl ck N 0 sb sbf sc scf rb rbf ls lr ll := by
  have e : ∀ i, (nI d + nI r) * 16 + nI i = nI ((d + r) * 16 + i) := fun i => by rw [nI_add, rt_ix]
  refine pk_loop (fun N i c => wY_resize_311 post J x3 x4 x5 x6 x7 (nI d) (nI r) (nI w) (nI h) (nI s) (nI n) (nI y) (nI x) (nI sy) (nI sx) (nI tp) (nI bt) al pd sp lc cl ck N (nI i) c sbf sc scf rb rbf ls lr ll) (fun i c => c = rt_put sb (r * 16) i (fun j => rb ((d + r) * 16 + j))) 16 0 sb (by omega) (rt_put_0 _ _ _).symm ?_ ?_
  · rintro N c rfl
    exact pk_le 16 16 (fun _ => ⟨pk_in (d + r) 96 hf (nI_add d r), pk_in r 16 hr, nm_r (rt_us rfl (by omega) ((congrArg _ (rt_rd (nI_add d r) (by omega))).trans (rt_nar hb))) (nm_r (nI_1 r) H)⟩) (fun z => absurd z (by omega))
  · rintro N i c hi rfl K
    exact pk_le 16 i (fun z => absurd z (by omega)) (fun _ => ⟨pk_in ((d + r) * 16 + i) 1536 (by omega) (e i), pk_in (r * 16 + i) 256 (by omega) (rt_ix r i), nm_r ((rt_us (rt_ix r i) (by omega) (rt_rd (e i) (by omega))).trans (rt_put_s rfl)) (nm_r (nI_1 i) (K _ rfl))⟩)
theorem ry_292 {w h s n y x sy sx tp bt : Nat} {al pd sp lc cl ck : Int32} {sb sbf sc scf rb rbf ls lr ll : Nat → Int32} {post : Int32 → SY → Prop} {x3 x6 : Int32} (fi t h2 d : Nat) (ht : t ≤ 96) (hn : n ≤ 16) (hd : d + n = fi) (hft : fi ≤ t) (hh2 : h2 ≤ 8) (hth : fi + h2 ≤ t) (hb : ∀ i, i < t → rt_01 (rbf i)) (H : wY_resize_389 post x3 (nI h2) x6 (nI fi) (nI (d + (t - fi - h2))) (nI w) (nI h) (nI s) (nI n) (nI y) (nI x) (nI sy) (nI sx) (nI tp) (nI bt) al pd sp lc cl ck (rt_put sb 0 (n * 16) (fun j => rb (d * 16 + j))) (rt_put sbf 0 n (fun j => rbf (d + j))) sc scf rb rbf ls lr ll) : ∃ N, wY_resize_292 post x3 (nI h2) (nI t) x6 (nI fi) (nI d) (nI w) (nI h) (nI s) (nI n) (nI y) (nI x) (nI sy) (nI sx) (nI tp) (nI bt) al pd sp lc cl ck N 0 sb sbf sc scf rb rbf ls lr ll := by
  refine rt_loop2 (fun N i (qa qb : Nat → Int32) => wY_resize_292 post x3 (nI h2) (nI t) x6 (nI fi) (nI d) (nI w) (nI h) (nI s) (nI n) (nI y) (nI x) (nI sy) (nI sx) (nI tp) (nI bt) al pd sp lc cl ck N (nI i) qa qb sc scf rb rbf ls lr ll) (fun i qa qb => qa = rt_put sb 0 (i * 16) (fun j => rb (d * 16 + j)) ∧ qb = rt_put sbf 0 i (fun j => rbf (d + j))) n 0 sb sbf (Nat.zero_le _) ⟨by rw [Nat.zero_mul, rt_put_0], by rw [rt_put_0]⟩ ?_ ?_
  · rintro N qa qb ⟨rfl, rfl⟩
    refine pk_le n n (fun _ => nm_r (e' := nI (d + (t - fi - h2))) ?_ H) (fun z => absurd z (by omega))
    rw [pk_sub hft, pk_sub (by omega), nI_add]
  · rintro N i qa qb hi ⟨rfl, rfl⟩ K
    have e1 : rt_put (rt_put sb 0 (i * 16) (fun j => rb (d * 16 + j))) (i * 16) 16 (fun j => rb ((d + i) * 16 + j)) = rt_put sb 0 ((i + 1) * 16) (fun j => rb (d * 16 + j)) := by
      rw [rt_put_a (v := fun j => rb (d * 16 + j)) (by omega) (fun j hj => by
        show rb _ = rb _
        congr 1; omega)]
      congr 1; omega
    have e2 : upd (rt_put sbf 0 i (fun j => rbf (d + j))) i (rbf (d + i)) = rt_put sbf 0 (i + 1) (fun j => rbf (d + j)) := by
      have q := rt_put_s (g := sbf) (v := fun j => rbf (d + j)) (b := 0) (m := i) (x := rbf (d + i)) rfl
      rw [Nat.zero_add] at q
      exact q
    exact pk_le n i (fun z => absurd z (by omega)) (fun _ => pk_le 16 i (fun z => absurd z (by omega)) (fun _ => ry_311 d i (by omega) (by omega) (hb _ (by omega)) (K _ _ ⟨e1, e2⟩)))
