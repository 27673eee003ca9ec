/-! Y's reflow: the lines emitted -/
theorem ry_e131 {w h s n y x sy sx tp bt : Nat} {al pd sp lc cl ck : Int32} {sb sbf sc scf rb rbf ls lr ll : Nat → Int32} {post : Int32 → SY → Prop} {J61 J89 : Int32 → (Nat → Int32) → (Nat → Int32) → (Nat → Int32) → (Nat → Int32) → (Nat → Int32) → (Nat → Int32) → (Nat → Int32) → (Nat → Int32) → (Nat → Int32) → Prop} {x1 x2 x3 x4 x5 x6 v : Int32} {t i : Nat} (ht : t < 96) (hi : i < 16) (H : J89 (nI (i + 1)) sb sbf sc scf (upd rb (t * 16 + i) v) rbf ls lr ll) : wY_emitLine_131 post J61 J89 x1 x2 x3 x4 x5 x6 (nI t) (nI i) v (nI w) (nI h) (nI s) (nI n) (nI y) (nI x) (nI sy) (nI sx) (nI tp) (nI bt) al pd sp lc cl ck sb sbf sc scf rb rbf ls lr ll :=
  ⟨pk_in (t * 16 + i) 1536 (by omega) (rt_ix t i), nm_r (rt_us (rt_ix t i) (by omega) rfl) (nm_r (nI_1 i) H)⟩
theorem ry_e89 {w h s n y x sy sx tp bt : Nat} {al pd sp lc cl ck : Int32} {sb sbf sc scf rb rbf ls lr ll : Nat → Int32} {g : Nat → Int32} {post : Int32 → SY → Prop} {J : Int32 → (Nat → Int32) → (Nat → Int32) → (Nat → Int32) → (Nat → Int32) → (Nat → Int32) → (Nat → Int32) → (Nat → Int32) → (Nat → Int32) → (Nat → Int32) → Prop} {x3 : Int32} (l st len w2 R j t : Nat) (C : rt_Mc w h n g sb sc) (hn : n ≤ 16) (hh : h ≤ 8) (hw0 : 0 < w) (hw : w ≤ 16) (hw2 : w2 ≤ 16) (hl : l < 24) (hls : ls l = nI st) (hR : 1 ≤ R) (hRb : R ≤ 96) (hj : j < R) (ht : t < 96) (hlen : len < 2 ^ 20) (hin : ∀ q, q < len → st + q / w < n + h) (H : J (nI (j + 1)) sb sbf sc scf (rt_put rb (t * 16) 16 (rt_val (rt_tx g w st) len w2 j)) (upd rbf t (rt_flg R j)) ls lr ll) : ∃ N, wY_emitLine_89 post J (nI l) (nI w2) x3 (nI len) (nI R) (nI j) (nI t) (nI w) (nI h) (nI s) (nI n) (nI y) (nI x) (nI sy) (nI sx) (nI tp) (nI bt) al pd sp lc cl ck N 0 sb sbf sc scf rb rbf ls lr ll := by
  have hjw : j * w2 ≤ 96 * 16 := Nat.mul_le_mul (by omega) hw2
  have ett : ∀ i, nI j * nI w2 + nI i = nI (j * w2 + i) := fun i => by rw [pk_mul, nI_add]
  have er : nI R - 1 = nI (R - 1) := pk_sub (b := 1) (by omega)
  refine pk_loop (fun N i c => wY_emitLine_89 post J (nI l) (nI w2) x3 (nI len) (nI R) (nI j) (nI t) (nI w) (nI h) (nI s) (nI n) (nI y) (nI x) (nI sy) (nI sx) (nI tp) (nI bt) al pd sp lc cl ck N (nI i) sb sbf sc scf c rbf ls lr ll) (fun i c => c = rt_put rb (t * 16) i (rt_val (rt_tx g w st) len w2 j)) 16 0 rb (by omega) (rt_put_0 _ _ _).symm ?_ ?_
  · rintro N c rfl
    refine pk_le 16 16 (fun _ => pk_le (R - 1) j (fun z => ⟨pk_in t 96 ht, nm_r (rt_us rfl (by omega) rt_nar0) (nm_r (nI_1 j) ?_)⟩) (fun z => ⟨pk_in t 96 ht, nm_r (rt_us rfl (by omega) rt_nar1) (nm_r (nI_1 j) ?_)⟩) er) (fun z => absurd z (by omega))
    · rw [show rt_flg R j = 0 from if_neg (by omega)] at H
      exact H
    · rw [show rt_flg R j = 1 from if_pos (by omega)] at H
      exact H
  · rintro N i c hi rfl K
    exact pk_le 16 i (fun z => absurd z (by omega)) (fun _ => nm_r (ett i) (pk_le w2 i (fun z => ry_e131 ht hi (K _ (rt_put_s (rt_val_w z).symm))) (fun z => pk_le len (j * w2 + i) (fun z2 => ry_e131 ht hi (K _ (rt_put_s (rt_val_l z2).symm))) (fun z2 => ry_textAt l (j * w2 + i) st C hn hh hw0 hw hl (by omega) hls (hin _ z2) (ry_e131 ht hi (K _ (rt_put_s (rt_val_t z z2).symm)))))))
theorem ry_e61 {w h s n y x sy sx tp bt : Nat} {al pd sp lc cl ck : Int32} {sb sbf sc scf rb rbf ls lr ll : Nat → Int32} {g : Nat → Int32} {post : Int32 → SY → Prop} (l st len w2 R t0 : Nat) (C : rt_Mc w h n g sb sc) (hn : n ≤ 16) (hh : h ≤ 8) (hw0 : 0 < w) (hw : w ≤ 16) (hw2 : w2 ≤ 16) (hl : l < 24) (hls : ls l = nI st) (hR : 1 ≤ R) (hB : t0 + R ≤ 96) (hlen : len < 2 ^ 20) (hin : ∀ q, q < len → st + q / w < n + h) (H : post (nI R) ((nI w), (nI h), (nI s), (nI n), (nI y), (nI x), (nI sy), (nI sx), (nI tp), (nI bt), al, pd, sp, lc, cl, ck, sb, sbf, sc, scf, (rt_put rb (t0 * 16) (R * 16) (rt_rowv (rt_tx g w st) len w2)), (rt_put rbf t0 R (rt_flg R)), ls, lr, ll)) : ∃ N, wY_emitLine_61 post (nI l) (nI w2) (nI t0) (nI len) (nI R) (nI w) (nI h) (nI s) (nI n) (nI y) (nI x) (nI sy) (nI sx) (nI tp) (nI bt) al pd sp lc cl ck N 0 sb sbf sc scf rb rbf ls lr ll := by
  refine rt_loop2 (fun N i (qa qb : Nat → Int32) => wY_emitLine_61 post (nI l) (nI w2) (nI t0) (nI len) (nI R) (nI w) (nI h) (nI s) (nI n) (nI y) (nI x) (nI sy) (nI sx) (nI tp) (nI bt) al pd sp lc cl ck N (nI i) sb sbf sc scf qa qb ls lr ll) (fun i qa qb => qa = rt_put rb (t0 * 16) (i * 16) (rt_rowv (rt_tx g w st) len w2) ∧ qb = rt_put rbf t0 i (rt_flg R)) R 0 rb rbf (Nat.zero_le _) ⟨by rw [Nat.zero_mul, rt_put_0], by rw [rt_put_0]⟩ ?_ ?_
  · rintro N qa qb ⟨rfl, rfl⟩
    exact pk_le R R (fun _ => H) (fun z => absurd z (by omega))
  · rintro N i qa qb hi ⟨rfl, rfl⟩ K
    have e1 : rt_put (rt_put rb (t0 * 16) (i * 16) (rt_rowv (rt_tx g w st) len w2)) ((t0 + i) * 16) 16 (rt_val (rt_tx g w st) len w2 i) = rt_put rb (t0 * 16) ((i + 1) * 16) (rt_rowv (rt_tx g w st) len w2) := by
      rw [rt_put_a (v := rt_rowv (rt_tx g w st) len w2) (by omega) (fun c hc => (rt_rowv_at _ _ _ _ _ hc).symm)]
      congr 1; omega
    exact pk_le R i (fun z => absurd z (by omega)) (fun _ => nm_r (nI_add t0 i) (pk_lt (t0 + i) 0 (fun z => absurd z (by omega)) (fun _ => pk_le 96 (t0 + i) (fun z => absurd z (by omega)) (fun _ => ry_e89 l st len w2 R i (t0 + i) C hn hh hw0 hw hw2 hl hls hR (by omega) hi (by omega) hlen hin (K _ _ ⟨e1, rt_put_s rfl⟩)))))
theorem ry_emitLine {w h s n y x sy sx tp bt : Nat} {al pd sp lc : Int32} {sb sbf sc scf rb rbf ls lr ll : Nat → Int32} {g : Nat → Int32} {post : Int32 → SY → Prop} (l st w2 t0 c k : Nat) (LN : Nat → Nat) (C : rt_Mc w h n g sb sc) (hn : n ≤ 16) (hh : h ≤ 8) (hw0 : 0 < w) (hw : w ≤ 16) (h24 : 4 ≤ w2) (hw2 : w2 ≤ 16) (hl : l < 24) (hc : c < 24) (hk : k < 2 ^ 20) (hls : ls l = nI st) (hll : ll l = nI (LN l)) (hB : t0 + rt_R LN w2 c k l ≤ 96) (hlen : LN l < 2 ^ 20) (hin : ∀ q, q < LN l → st + q / w < n + h) (H : post (nI (rt_R LN w2 c k l)) ((nI w), (nI h), (nI s), (nI n), (nI y), (nI x), (nI sy), (nI sx), (nI tp), (nI bt), al, pd, sp, lc, (nI c), (nI k), sb, sbf, sc, scf, (rt_put rb (t0 * 16) (rt_R LN w2 c k l * 16) (rt_rowv (rt_tx g w st) (LN l) w2)), (rt_put rbf t0 (rt_R LN w2 c k l) (rt_flg (rt_R LN w2 c k l))), ls, lr, ll)) : wpY_emitLine post ((nI w), (nI h), (nI s), (nI n), (nI y), (nI x), (nI sy), (nI sx), (nI tp), (nI bt), al, pd, sp, lc, (nI c), (nI k), sb, sbf, sc, scf, rb, rbf, ls, lr, ll) (nI l) (nI w2) (nI t0) := by
  have ex : ll (nI l).toNatClampNeg = nI (LN l) := (rt_rd rfl (by omega)).trans hll
  have ed : nI (LN l) + nI w2 - 1 = nI (LN l + w2 - 1) := by
    rw [nI_add, show (1 : Int32) = nI 1 from rfl, pk_sub (by omega)]
  have edd : (nI (LN l) + nI w2 - 1) / nI w2 = nI ((LN l + w2 - 1) / w2) := by
    rw [ed, pk_div (by omega) (by omega) (by omega)]
  have hd : (LN l + w2 - 1) / w2 < 2 ^ 21 := Nat.lt_of_le_of_lt (Nat.div_le_self _ _) (by omega)
  have hkd : k / w2 < 2 ^ 20 := Nat.lt_of_le_of_lt (Nat.div_le_self _ _) (by omega)
  have ek : nI k / nI w2 = nI (k / w2) := pk_div (by omega) (by omega) (by omega)
  have ek1 : nI k / nI w2 + 1 = nI (k / w2 + 1) := by rw [ek, nI_1]
  have hw20 : ¬ nI w2 = 0 := nI_ne0 (by omega) (by omega)
  have hpos := rt_R_pos LN w2 c k l
  have go : ∃ N, wY_emitLine_61 post (nI l) (nI w2) (nI t0) (nI (LN l)) (nI (rt_R LN w2 c k l)) (nI w) (nI h) (nI s) (nI n) (nI y) (nI x) (nI sy) (nI sx) (nI tp) (nI bt) al pd sp lc (nI c) (nI k) N 0 sb sbf sc scf rb rbf ls lr ll := ry_e61 l st (LN l) w2 (rt_R LN w2 c k l) t0 C hn hh hw0 hw hw2 hl hls hpos hB hlen hin H
  have j27 : ∀ q, q = rt_R0 w2 (LN l) → wY_emitLine_27 post (nI l) (nI w2) (nI t0) (nI (LN l)) (nI q) (nI w) (nI h) (nI s) (nI n) (nI y) (nI x) (nI sy) (nI sx) (nI tp) (nI bt) al pd sp lc (nI c) (nI k) sb sbf sc scf rb rbf ls lr ll := by
    rintro q rfl
    have hR0 : rt_R0 w2 (LN l) < 2 ^ 22 := by
      unfold rt_R0
      rcases rt_mx_sp 1 ((LN l + w2 - 1) / w2) with p | p <;> omega
    refine pk_eq l c (fun z => ⟨hw20, pk_le (k / w2 + 1) (rt_R0 w2 (LN l)) (fun z2 => ?_) (fun z2 => ⟨hw20, nm_r ek1 ?_⟩) ek1⟩) (fun z => ?_)
    · have e : rt_R LN w2 c k l = rt_R0 w2 (LN l) := by unfold rt_R; rw [if_pos z, rt_mx_ge z2]
      rw [e] at go; exact go
    · have e : rt_R LN w2 c k l = k / w2 + 1 := by unfold rt_R; rw [if_pos z, rt_mx_lt z2]
      rw [e] at go; exact go
    · have e : rt_R LN w2 c k l = rt_R0 w2 (LN l) := by unfold rt_R; rw [if_neg z]
      rw [e] at go; exact go
  refine ⟨pk_in l 24 hl, nm_r ex ⟨hw20, nm_r edd (pk_le 1 ((LN l + w2 - 1) / w2) (fun z => j27 _ ?_) (fun z => j27 1 ?_))⟩⟩
  · unfold rt_R0
    rcases rt_mx_sp 1 ((LN l + w2 - 1) / w2) with p | p <;> omega
  · unfold rt_R0
    rcases rt_mx_sp 1 ((LN l + w2 - 1) / w2) with p | p <;> omega
theorem ry_rz61 {w h s n y x sy sx tp bt : Nat} {al pd sp lc : Int32} {sb sbf sc scf rb rbf ls lr ll : Nat → Int32} {g : Nat → Int32} {post : Int32 → SY → Prop} {J : Int32 → Int32 → Int32 → Int32 → Int32 → Int32 → Int32 → Int32 → Int32 → Int32 → Int32 → Int32 → Int32 → Int32 → Int32 → Int32 → Int32 → Int32 → Int32 → (Nat → Int32) → (Nat → Int32) → (Nat → Int32) → (Nat → Int32) → (Nat → Int32) → (Nat → Int32) → (Nat → Int32) → (Nat → Int32) → (Nat → Int32) → Prop} {x4 x6 : Int32} (l st w2 t0 c k : Nat) (LN : Nat → Nat) (C : rt_Mc w h n g sb sc) (hn : n ≤ 16) (hh : h ≤ 8) (hw0 : 0 < w) (hw : w ≤ 16) (h24 : 4 ≤ w2) (hw2 : w2 ≤ 16) (hl : l < 24) (hc : c < 24) (hk : k < 2 ^ 20) (hls : ls l = nI st) (hll : ll l = nI (LN l)) (hB : t0 + rt_R LN w2 c k l ≤ 96) (hlen : LN l < 2 ^ 20) (hin : ∀ q, q < LN l → st + q / w < n + h) (H : J (nI (t0 + rt_R LN w2 c k l)) x6 (nI (l + 1)) (nI w) (nI h) (nI s) (nI n) (nI y) (nI x) (nI sy) (nI sx) (nI tp) (nI bt) al pd sp lc (nI c) (nI k) sb sbf sc scf (rt_put rb (t0 * 16) (rt_R LN w2 c k l * 16) (rt_rowv (rt_tx g w st) (LN l) w2)) (rt_put rbf t0 (rt_R LN w2 c k l) (rt_flg (rt_R LN w2 c k l))) ls lr ll) : wY_resize_61 post J (nI w2) x4 (nI t0) x6 (nI l) (nI w) (nI h) (nI s) (nI n) (nI y) (nI x) (nI sy) (nI sx) (nI tp) (nI bt) al pd sp lc (nI c) (nI k) sb sbf sc scf rb rbf ls lr ll := by
  unfold wY_resize_61
  exact ry_emitLine l st w2 t0 c k LN C hn hh hw0 hw h24 hw2 hl hc hk hls hll hB hlen hin (nm_r (nI_add _ _) (nm_r (nI_1 l) H))
