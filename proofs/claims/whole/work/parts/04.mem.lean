/-! segments: g from b on is sc from c on, m cells -/
def rt_sg (g sc : Nat → Int32) (b c m : Nat) : Prop := ∀ i, i < m → g (b + i) = sc (c + i)
theorem rt_cg {g sc : Nat → Int32} {b c m p q : Nat} (H : rt_sg g sc b c m) (h1 : b ≤ p) (h2 : p < b + m) (h3 : q + b = p + c) : g p = sc q := by
  obtain ⟨i, rfl⟩ : ∃ i, p = b + i := ⟨p - b, by omega⟩
  have e : q = c + i := by omega
  subst e
  exact H i (by omega)
def rt_shC (g : Nat → Int32) (a b : Nat) : Nat → Int32 := fun i => if a * 16 ≤ i ∧ i < b * 16 then g (i + 16) else if b * 16 ≤ i ∧ i < b * 16 + 16 then 32 else g i
def rt_shF (f : Nat → Int32) (a b : Nat) : Nat → Int32 := fun i => if a ≤ i ∧ i < b then f (i + 1) else if i = b then 0 else f i
def rt_grC (g : Nat → Int32) (o e : Nat) : Nat → Int32 := fun i => if (o + 1) * 16 ≤ i ∧ i < (e + 1) * 16 then g (i - 16) else if o * 16 ≤ i ∧ i < o * 16 + 16 then 32 else g i
def rt_grF (f : Nat → Int32) (o e : Nat) : Nat → Int32 := fun i => if o + 1 ≤ i ∧ i < e + 1 then f (i - 1) else if i = o then 0 else f i
/-- the cells of the two sides; the flags of the two sides -/
def rt_Mc (w h n : Nat) (g sb sc : Nat → Int32) : Prop := rt_sg g sb 0 0 (n * 16) ∧ rt_sg g sc (n * 16) 0 (h * 16) ∧ rt_sg g sc 384 128 128 ∧ (∀ i, i < 128 → (h ≤ i / 16 ∨ w ≤ i % 16) → g (384 + i) = 32)
def rt_Mf (h n : Nat) (f sbf scf : Nat → Int32) : Prop := rt_sg f sbf 0 0 n ∧ rt_sg f scf n 0 h ∧ rt_sg f scf 24 8 8 ∧ rt_B01 f ∧ rt_B01 sbf ∧ rt_B01 scf
theorem rt_B_shF {f : Nat → Int32} (h : rt_B01 f) (a b : Nat) : rt_B01 (rt_shF f a b) := by
  intro i
  unfold rt_shF
  split
  · exact h _
  · split
    · exact rt_01_0
    · exact h _
theorem rt_B_grF {f : Nat → Int32} (h : rt_B01 f) (a b : Nat) : rt_B01 (rt_grF f a b) := by
  intro i
  unfold rt_grF
  split
  · exact h _
  · split
    · exact rt_01_0
    · exact h _
theorem rt_Mc_w0 {w h n : Nat} {g sb sc : Nat → Int32} (H : rt_Mc w h n g sb sc) (hw : w ≤ 16) (hh : h ≤ 8) (hn : n ≤ 16) {y x : Nat} {c : Int32} (hy : y < h) (hx : x < 16) : rt_Mc w h n (upd g ((n + y) * 16 + x) c) (sb) (upd sc (y * 16 + x) c) := by
  obtain ⟨h1, h2, h3, h4⟩ := H
  refine ⟨fun i hi => ?_, fun i hi => ?_, fun i hi => ?_, fun i hi hb => ?_⟩ <;> simp only [rt_put, upd, rt_shC, rt_shF, rt_grC, rt_grF] <;> repeat' split
  all_goals (first | omega | rfl | exact rt_cg h1 (by omega) (by omega) (by omega) | exact rt_cg h2 (by omega) (by omega) (by omega) | exact rt_cg h3 (by omega) (by omega) (by omega) | exact h4 _ (by omega) (by omega))
theorem rt_Mc_w1 {w h n : Nat} {g sb sc : Nat → Int32} (H : rt_Mc w h n g sb sc) (hw : w ≤ 16) (hh : h ≤ 8) (hn : n ≤ 16) {y x : Nat} {c : Int32} (hy : y < h) (hx : x < w) : rt_Mc w h n (upd g ((24 + y) * 16 + x) c) (sb) (upd sc (128 + y * 16 + x) c) := by
  obtain ⟨h1, h2, h3, h4⟩ := H
  refine ⟨fun i hi => ?_, fun i hi => ?_, fun i hi => ?_, fun i hi hb => ?_⟩ <;> simp only [rt_put, upd, rt_shC, rt_shF, rt_grC, rt_grF] <;> repeat' split
  all_goals (first | omega | rfl | exact rt_cg h1 (by omega) (by omega) (by omega) | exact rt_cg h2 (by omega) (by omega) (by omega) | exact rt_cg h3 (by omega) (by omega) (by omega) | exact h4 _ (by omega) (by omega))
theorem rt_Mc_e0 {w h n : Nat} {g sb sc : Nat → Int32} (H : rt_Mc w h n g sb sc) (hw : w ≤ 16) (hh : h ≤ 8) (hn : n ≤ 16) {y a m : Nat} (hy : y < h) (hx : a + m ≤ 16) : rt_Mc w h n (rt_put g ((n + y) * 16 + a) m (fun _ => 32)) (sb) (rt_put sc (y * 16 + a) m (fun _ => 32)) := by
  obtain ⟨h1, h2, h3, h4⟩ := H
  refine ⟨fun i hi => ?_, fun i hi => ?_, fun i hi => ?_, fun i hi hb => ?_⟩ <;> simp only [rt_put, upd, rt_shC, rt_shF, rt_grC, rt_grF] <;> repeat' split
  all_goals (first | omega | rfl | exact rt_cg h1 (by omega) (by omega) (by omega) | exact rt_cg h2 (by omega) (by omega) (by omega) | exact rt_cg h3 (by omega) (by omega) (by omega) | exact h4 _ (by omega) (by omega))
theorem rt_Mc_e1 {w h n : Nat} {g sb sc : Nat → Int32} (H : rt_Mc w h n g sb sc) (hw : w ≤ 16) (hh : h ≤ 8) (hn : n ≤ 16) {y a m : Nat} (hy : y < h) (hx : a + m ≤ 16) : rt_Mc w h n (rt_put g ((24 + y) * 16 + a) m (fun _ => 32)) (sb) (rt_put sc (128 + y * 16 + a) m (fun _ => 32)) := by
  obtain ⟨h1, h2, h3, h4⟩ := H
  refine ⟨fun i hi => ?_, fun i hi => ?_, fun i hi => ?_, fun i hi hb => ?_⟩ <;> simp only [rt_put, upd, rt_shC, rt_shF, rt_grC, rt_grF] <;> repeat' split
  all_goals (first | omega | rfl | exact rt_cg h1 (by omega) (by omega) (by omega) | exact rt_cg h2 (by omega) (by omega) (by omega) | exact rt_cg h3 (by omega) (by omega) (by omega) | exact h4 _ (by omega) (by omega))
theorem rt_Mc_s0 {w h n : Nat} {g sb sc : Nat → Int32} (H : rt_Mc w h n g sb sc) (hw : w ≤ 16) (hh : h ≤ 8) (hn : n ≤ 16) {tp bt : Nat} (h5 : tp ≤ bt) (h6 : bt < h) : rt_Mc w h n (rt_shC g (n + tp) (n + bt)) (sb) (rt_shC sc tp bt) := by
  obtain ⟨h1, h2, h3, h4⟩ := H
  refine ⟨fun i hi => ?_, fun i hi => ?_, fun i hi => ?_, fun i hi hb => ?_⟩ <;> simp only [rt_put, upd, rt_shC, rt_shF, rt_grC, rt_grF] <;> repeat' split
  all_goals (first | omega | rfl | exact rt_cg h1 (by omega) (by omega) (by omega) | exact rt_cg h2 (by omega) (by omega) (by omega) | exact rt_cg h3 (by omega) (by omega) (by omega) | exact h4 _ (by omega) (by omega))
theorem rt_Mc_s1 {w h n : Nat} {g sb sc : Nat → Int32} (H : rt_Mc w h n g sb sc) (hw : w ≤ 16) (hh : h ≤ 8) (hn : n ≤ 16) {tp bt : Nat} (h5 : tp ≤ bt) (h6 : bt < h) : rt_Mc w h n (rt_shC g (24 + tp) (24 + bt)) (sb) (rt_shC sc (8 + tp) (8 + bt)) := by
  obtain ⟨h1, h2, h3, h4⟩ := H
  refine ⟨fun i hi => ?_, fun i hi => ?_, fun i hi => ?_, fun i hi hb => ?_⟩ <;> simp only [rt_put, upd, rt_shC, rt_shF, rt_grC, rt_grF] <;> repeat' split
  all_goals (first | omega | rfl | exact rt_cg h1 (by omega) (by omega) (by omega) | exact rt_cg h2 (by omega) (by omega) (by omega) | exact rt_cg h3 (by omega) (by omega) (by omega) | exact h4 _ (by omega) (by omega) | exact (show 384 + (i + 16) = 384 + i + 16 by omega) ▸ h4 (i + 16) (by omega) (by omega))
theorem rt_Mc_sf {w h n : Nat} {g sb sc : Nat → Int32} (H : rt_Mc w h n g sb sc) (hw : w ≤ 16) (hh : h ≤ 8) (hn : n ≤ 16) {bt : Nat} (h6 : bt < h) (h0 : 0 < n) : rt_Mc w h n (rt_shC g 0 (n + bt)) (rt_put (rt_put sb 0 ((n - 1) * 16) (fun j => sb (16 + j))) ((n - 1) * 16) 16 sc) (rt_shC sc 0 bt) := by
  obtain ⟨h1, h2, h3, h4⟩ := H
  refine ⟨fun i hi => ?_, fun i hi => ?_, fun i hi => ?_, fun i hi hb => ?_⟩ <;> simp only [rt_put, upd, rt_shC, rt_shF, rt_grC, rt_grF] <;> repeat' split
  all_goals (first | omega | rfl | exact rt_cg h1 (by omega) (by omega) (by omega) | exact rt_cg h2 (by omega) (by omega) (by omega) | exact rt_cg h3 (by omega) (by omega) (by omega) | exact h4 _ (by omega) (by omega))
theorem rt_Mc_sg {w h n : Nat} {g sb sc : Nat → Int32} (H : rt_Mc w h n g sb sc) (hw : w ≤ 16) (hh : h ≤ 8) (hn : n ≤ 16) {bt : Nat} (h6 : bt < h) (h0 : n < 16) : rt_Mc w h (n + 1) (rt_grC g (n + bt + 1) (n + h)) (rt_put sb (n * 16) 16 sc) (rt_shC sc 0 bt) := by
  obtain ⟨h1, h2, h3, h4⟩ := H
  refine ⟨fun i hi => ?_, fun i hi => ?_, fun i hi => ?_, fun i hi hb => ?_⟩ <;> simp only [rt_put, upd, rt_shC, rt_shF, rt_grC, rt_grF] <;> repeat' split
  all_goals (first | omega | rfl | exact rt_cg h1 (by omega) (by omega) (by omega) | exact rt_cg h2 (by omega) (by omega) (by omega) | exact rt_cg h3 (by omega) (by omega) (by omega) | exact h4 _ (by omega) (by omega))
theorem rt_Mc_ea {w h n : Nat} {g sb sc : Nat → Int32} (H : rt_Mc w h n g sb sc) (hw : w ≤ 16) (hh : h ≤ 8) (hn : n ≤ 16)  : rt_Mc w h n (rt_put g 384 128 (fun _ => 32)) (sb) (rt_put sc 128 128 (fun _ => 32)) := by
  obtain ⟨h1, h2, h3, h4⟩ := H
  refine ⟨fun i hi => ?_, fun i hi => ?_, fun i hi => ?_, fun i hi hb => ?_⟩ <;> simp only [rt_put, upd, rt_shC, rt_shF, rt_grC, rt_grF] <;> repeat' split
  all_goals (first | omega | rfl | exact rt_cg h1 (by omega) (by omega) (by omega) | exact rt_cg h2 (by omega) (by omega) (by omega) | exact rt_cg h3 (by omega) (by omega) (by omega) | exact h4 _ (by omega) (by omega))
theorem rt_Mf_w0 {h n : Nat} {f sbf scf : Nat → Int32} (H : rt_Mf h n f sbf scf) (hh : h ≤ 8) (hn : n ≤ 16) {y : Nat} {v : Int32} (hy : y < h) (hv : rt_01 v) : rt_Mf h n (upd f (n + y) v) (sbf) (upd scf y v) := by
  obtain ⟨h1, h2, h3, h4, h5, h6⟩ := H
  refine ⟨fun i hi => ?_, fun i hi => ?_, fun i hi => ?_, rt_B_upd h4 hv, h5, rt_B_upd h6 hv⟩ <;> simp only [rt_put, upd, rt_shC, rt_shF, rt_grC, rt_grF] <;> repeat' split
  all_goals (first | omega | rfl | exact rt_cg h1 (by omega) (by omega) (by omega) | exact rt_cg h2 (by omega) (by omega) (by omega) | exact rt_cg h3 (by omega) (by omega) (by omega))
theorem rt_Mf_w1 {h n : Nat} {f sbf scf : Nat → Int32} (H : rt_Mf h n f sbf scf) (hh : h ≤ 8) (hn : n ≤ 16) {y : Nat} {v : Int32} (hy : y < h) (hv : rt_01 v) : rt_Mf h n (upd f (24 + y) v) (sbf) (upd scf (8 + y) v) := by
  obtain ⟨h1, h2, h3, h4, h5, h6⟩ := H
  refine ⟨fun i hi => ?_, fun i hi => ?_, fun i hi => ?_, rt_B_upd h4 hv, h5, rt_B_upd h6 hv⟩ <;> simp only [rt_put, upd, rt_shC, rt_shF, rt_grC, rt_grF] <;> repeat' split
  all_goals (first | omega | rfl | exact rt_cg h1 (by omega) (by omega) (by omega) | exact rt_cg h2 (by omega) (by omega) (by omega) | exact rt_cg h3 (by omega) (by omega) (by omega))
theorem rt_Mf_s0 {h n : Nat} {f sbf scf : Nat → Int32} (H : rt_Mf h n f sbf scf) (hh : h ≤ 8) (hn : n ≤ 16) {tp bt : Nat} (h7 : tp ≤ bt) (h8 : bt < h) : rt_Mf h n (rt_shF f (n + tp) (n + bt)) (sbf) (rt_shF scf tp bt) := by
  obtain ⟨h1, h2, h3, h4, h5, h6⟩ := H
  refine ⟨fun i hi => ?_, fun i hi => ?_, fun i hi => ?_, rt_B_shF h4 _ _, h5, rt_B_shF h6 _ _⟩ <;> simp only [rt_put, upd, rt_shC, rt_shF, rt_grC, rt_grF] <;> repeat' split
  all_goals (first | omega | rfl | exact rt_cg h1 (by omega) (by omega) (by omega) | exact rt_cg h2 (by omega) (by omega) (by omega) | exact rt_cg h3 (by omega) (by omega) (by omega))
theorem rt_Mf_s1 {h n : Nat} {f sbf scf : Nat → Int32} (H : rt_Mf h n f sbf scf) (hh : h ≤ 8) (hn : n ≤ 16) {tp bt : Nat} (h7 : tp ≤ bt) (h8 : bt < h) : rt_Mf h n (rt_shF f (24 + tp) (24 + bt)) (sbf) (rt_shF scf (8 + tp) (8 + bt)) := by
  obtain ⟨h1, h2, h3, h4, h5, h6⟩ := H
  refine ⟨fun i hi => ?_, fun i hi => ?_, fun i hi => ?_, rt_B_shF h4 _ _, h5, rt_B_shF h6 _ _⟩ <;> simp only [rt_put, upd, rt_shC, rt_shF, rt_grC, rt_grF] <;> repeat' split
  all_goals (first | omega | rfl | exact rt_cg h1 (by omega) (by omega) (by omega) | exact rt_cg h2 (by omega) (by omega) (by omega) | exact rt_cg h3 (by omega) (by omega) (by omega))
theorem rt_Mf_sf {h n : Nat} {f sbf scf : Nat → Int32} (H : rt_Mf h n f sbf scf) (hh : h ≤ 8) (hn : n ≤ 16) {bt : Nat} (h8 : bt < h) (h0 : 0 < n) : rt_Mf h n (rt_shF f 0 (n + bt)) (upd (rt_put sbf 0 (n - 1) (fun j => sbf (1 + j))) (n - 1) (scf 0)) (rt_shF scf 0 bt) := by
  obtain ⟨h1, h2, h3, h4, h5, h6⟩ := H
  refine ⟨fun i hi => ?_, fun i hi => ?_, fun i hi => ?_, rt_B_shF h4 _ _, rt_B_upd (rt_B_put h5 (fun j _ => h5 _)) (h6 _), rt_B_shF h6 _ _⟩ <;> simp only [rt_put, upd, rt_shC, rt_shF, rt_grC, rt_grF] <;> repeat' split
  all_goals (first | omega | rfl | exact rt_cg h1 (by omega) (by omega) (by omega) | exact rt_cg h2 (by omega) (by omega) (by omega) | exact rt_cg h3 (by omega) (by omega) (by omega))
theorem rt_Mf_sg {h n : Nat} {f sbf scf : Nat → Int32} (H : rt_Mf h n f sbf scf) (hh : h ≤ 8) (hn : n ≤ 16) {bt : Nat} (h8 : bt < h) (h0 : n < 16) : rt_Mf h (n + 1) (rt_grF f (n + bt + 1) (n + h)) (upd sbf n (scf 0)) (rt_shF scf 0 bt) := by
  obtain ⟨h1, h2, h3, h4, h5, h6⟩ := H
  refine ⟨fun i hi => ?_, fun i hi => ?_, fun i hi => ?_, rt_B_grF h4 _ _, rt_B_upd h5 (h6 _), rt_B_shF h6 _ _⟩ <;> simp only [rt_put, upd, rt_shC, rt_shF, rt_grC, rt_grF] <;> repeat' split
  all_goals (first | omega | rfl | exact rt_cg h1 (by omega) (by omega) (by omega) | exact rt_cg h2 (by omega) (by omega) (by omega) | exact rt_cg h3 (by omega) (by omega) (by omega))
theorem rt_Mf_ea {h n : Nat} {f sbf scf : Nat → Int32} (H : rt_Mf h n f sbf scf) (hh : h ≤ 8) (hn : n ≤ 16)  : rt_Mf h n (rt_put f 24 8 (fun _ => 0)) (sbf) (rt_put scf 8 8 (fun _ => 0)) := by
  obtain ⟨h1, h2, h3, h4, h5, h6⟩ := H
  refine ⟨fun i hi => ?_, fun i hi => ?_, fun i hi => ?_, rt_B_put h4 (fun _ _ => rt_01_0), h5, rt_B_put h6 (fun _ _ => rt_01_0)⟩ <;> simp only [rt_put, upd, rt_shC, rt_shF, rt_grC, rt_grF] <;> repeat' split
  all_goals (first | omega | rfl | exact rt_cg h1 (by omega) (by omega) (by omega) | exact rt_cg h2 (by omega) (by omega) (by omega) | exact rt_cg h3 (by omega) (by omega) (by omega))
/-! the blits of the walks are the closed forms -/
theorem rt_shC_eq (g : Nat → Int32) {a b : Nat} (h : a ≤ b) : rt_put (rt_put g (a * 16) ((b - a) * 16) (fun j => g ((a + 1) * 16 + j))) (b * 16) 16 (fun _ => 32) = rt_shC g a b := by
  funext i
  simp only [rt_put, rt_shC]
  repeat' split
  all_goals first | omega | rfl | (congr 1; omega)
theorem rt_shF_eq (f : Nat → Int32) {a b : Nat} (h : a ≤ b) : upd (rt_put f a (b - a) (fun j => f (a + 1 + j))) b 0 = rt_shF f a b := by
  funext i
  simp only [rt_put, upd, rt_shF]
  repeat' split
  all_goals first | omega | rfl | (congr 1; omega)
theorem rt_grC_eq (g : Nat → Int32) {o e : Nat} (h : o ≤ e) : rt_put (rt_put g ((o + 1) * 16) ((e - o) * 16) (fun j => g (o * 16 + j))) (o * 16) 16 (fun _ => 32) = rt_grC g o e := by
  funext i
  simp only [rt_put, rt_grC]
  repeat' split
  all_goals first | omega | rfl | (congr 1; omega)
theorem rt_grF_eq (f : Nat → Int32) {o e : Nat} (h : o ≤ e) : upd (rt_put f (o + 1) (e - o) (fun j => f (o + j))) o 0 = rt_grF f o e := by
  funext i
  simp only [rt_put, upd, rt_grF]
  repeat' split
  all_goals first | omega | rfl | (congr 1; omega)
/-! a resize -/
def rt_gP (g fl : Nat → Int32) (d t m : Nat) : Nat → Int32 := rt_put g 0 (m * 16) (fun i => if d + i / 16 < t then fl (d * 16 + i) else 32)
def rt_fP (f ff : Nat → Int32) (d t m : Nat) : Nat → Int32 := rt_put f 0 m (fun r => if d + r < t then ff (d + r) else 0)
def rt_scP (sc rb : Nat → Int32) (fi t h2 : Nat) : Nat → Int32 := rt_put sc 0 128 (fun i => if i / 16 < h2 ∧ fi + i / 16 < t then rb (fi * 16 + i) else 32)
def rt_sfP (scf rbf : Nat → Int32) (fi t h2 : Nat) : Nat → Int32 := rt_put scf 0 8 (fun r => if r < h2 ∧ fi + r < t then rbf (fi + r) else 0)
def rt_crop (g : Nat → Int32) (b mh mw : Nat) : Nat → Int32 := rt_put g b 128 (fun i => if mh ≤ i / 16 ∨ mw ≤ i % 16 then 32 else g (b + i))
theorem rt_Mc_rm {w h n : Nat} {g sb sc fl rb : Nat → Int32} (H : rt_Mc w h n g sb sc) {w2 h2 n2 d t fi : Nat} (hn : n2 ≤ 16) (hh : h2 ≤ 8) (hd : fi = d + n2) (ht : fi ≤ t) (hfl : rt_sg fl rb 0 0 (t * 16)) : rt_Mc w2 h2 n2 (rt_put (rt_gP g fl d t (n2 + h2)) 384 128 (fun _ => 32)) (rt_put sb 0 (n2 * 16) (fun i => rb (d * 16 + i))) (rt_put (rt_scP sc rb fi t h2) 128 128 (fun _ => 32)) := by
  obtain ⟨h1, h3, h4, h5⟩ := H
  refine ⟨fun i hi => ?_, fun i hi => ?_, fun i hi => ?_, fun i hi hb => ?_⟩ <;> simp only [rt_put, rt_gP, rt_scP] <;> repeat' split
  all_goals first | omega | rfl | exact rt_cg hfl (by omega) (by omega) (by omega)
theorem rt_Mc_ra {w h n : Nat} {g sb sc fl rb : Nat → Int32} (H : rt_Mc w h n g sb sc) {w2 h2 n2 d t fi mh mw : Nat} (hn : n2 ≤ 16) (hh : h2 ≤ 8) (hd : fi = d + n2) (ht : fi ≤ t) (hfl : rt_sg fl rb 0 0 (t * 16)) (hmh : (h < h2 ∧ mh = h) ∨ (h2 ≤ h ∧ mh = h2)) (hmw : (w < w2 ∧ mw = w) ∨ (w2 ≤ w ∧ mw = w2)) : rt_Mc w2 h2 n2 (rt_crop (rt_gP g fl d t (n2 + h2)) 384 h2 w2) (rt_put sb 0 (n2 * 16) (fun i => rb (d * 16 + i))) (rt_crop (rt_scP sc rb fi t h2) 128 mh mw) := by
  obtain ⟨h1, h3, h4, h5⟩ := H
  refine ⟨fun i hi => ?_, fun i hi => ?_, fun i hi => ?_, fun i hi hb => ?_⟩ <;> simp only [rt_put, rt_gP, rt_scP, rt_crop] <;> repeat' split
  all_goals first | omega | rfl | exact rt_cg hfl (by omega) (by omega) (by omega) | exact rt_cg h4 (by omega) (by omega) (by omega) | exact h5 _ (by omega) (by omega) | exact (h5 _ (by omega) (by omega)).symm | (rw [show 384 + (384 + i - 384) = 384 + i by omega]; exact h5 i (by omega) (by omega))
theorem rt_Mf_rz {h n : Nat} {f sbf scf ff rbf : Nat → Int32} (H : rt_Mf h n f sbf scf) {h2 n2 d t fi : Nat} (hn : n2 ≤ 16) (hh : h2 ≤ 8) (hd : fi = d + n2) (ht : fi ≤ t) (hfl : rt_sg ff rbf 0 0 t) (hb : ∀ i, i < t → rt_01 (ff i)) : rt_Mf h2 n2 (rt_put (rt_fP f ff d t (n2 + h2)) 24 8 (fun _ => 0)) (rt_put sbf 0 n2 (fun i => rbf (d + i))) (rt_put (rt_sfP scf rbf fi t h2) 8 8 (fun _ => 0)) := by
  obtain ⟨h1, h3, h4, h5, h6, h7⟩ := H
  have hb' : ∀ i, i < t → rt_01 (rbf i) := fun i hi => by
    have e : ff i = rbf i := rt_cg hfl (by omega) (by omega) (by omega)
    rw [← e]; exact hb i hi
  refine ⟨fun i hi => ?_, fun i hi => ?_, fun i hi => ?_, rt_B_put (rt_B_put h5 (fun j _ => ?_)) (fun _ _ => rt_01_0), rt_B_put h6 (fun j _ => hb' _ (by omega)), rt_B_put (rt_B_put h7 (fun j _ => ?_)) (fun _ _ => rt_01_0)⟩
  · simp only [rt_put, rt_fP]
    repeat' split
    all_goals first | omega | rfl | exact rt_cg hfl (by omega) (by omega) (by omega)
  · simp only [rt_put, rt_fP, rt_sfP]
    repeat' split
    all_goals first | omega | rfl | exact rt_cg hfl (by omega) (by omega) (by omega)
  · simp only [rt_put]
    repeat' split
    all_goals first | omega | rfl
  · split
    · exact hb _ (by omega)
    · exact rt_01_0
  · split
    · exact hb' _ (by omega)
    · exact rt_01_0
