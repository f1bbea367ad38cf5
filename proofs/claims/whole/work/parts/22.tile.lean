/-! A TILE: the same row of numbers in class and reference; its bounds and its sum. -/
theorem adj_b {c z B : Int} {f : Int → Int} (c1 : 2 ≤ c) (c2 : c ≤ 9) (hB : 0 ≤ B) (hf : ∀ t, 0 ≤ f t ∧ f t ≤ B) (t : Int) : 0 ≤ (if (z - t) % c = 0 then f t else 0) + (if (z - (t + 1)) % c = 0 then f (t + 1) else 0) ∧ (if (z - t) % c = 0 then f t else 0) + (if (z - (t + 1)) % c = 0 then f (t + 1) else 0) ≤ B := by
  have h1 := hf t
  have h2 := hf (t + 1)
  by_cases k1 : (z - t) % c = 0
  · by_cases k2 : (z - (t + 1)) % c = 0
    · exfalso
      rcases (show c = 2 ∨ c = 3 ∨ c = 4 ∨ c = 5 ∨ c = 6 ∨ c = 7 ∨ c = 8 ∨ c = 9 by omega) with rfl | rfl | rfl | rfl | rfl | rfl | rfl | rfl <;> omega
    · rw [if_pos k1, if_neg k2]; omega
  · rw [if_neg k1]
    split <;> omega
theorem S7_b {c z B : Int} {f : Int → Int} (c1 : 2 ≤ c) (c2 : c ≤ 9) (hB : 0 ≤ B) (hf : ∀ t, 0 ≤ f t ∧ f t ≤ B) : 0 ≤ S7 (fun t => if (z - t) % c = 0 then f t else 0) ∧ S7 (fun t => if (z - t) % c = 0 then f t else 0) ≤ 4 * B := by
  have a := adj_b (z := z) c1 c2 hB hf (-3)
  have b := adj_b (z := z) c1 c2 hB hf (-1)
  have e := adj_b (z := z) c1 c2 hB hf 1
  have h3 := hf 3
  have g : 0 ≤ (if (z - 3) % c = 0 then f 3 else 0) ∧ (if (z - 3) % c = 0 then f 3 else 0) ≤ B := by split <;> omega
  have e1 : (-3 : Int) + 1 = -2 := by decide
  have e2 : (-1 : Int) + 1 = 0 := by decide
  have e3 : (1 : Int) + 1 = 2 := by decide
  rw [e1] at a
  rw [e2] at b
  rw [e3] at e
  simp only [S7]
  omega
theorem RG_b {e1 e2 : Int → Int → Int} {a fr x v : Int} (a1 : 2 ≤ a) (a2 : a ≤ 9) (h1 : ∀ x y, 0 ≤ e1 x y ∧ e1 x y ≤ 35) (h2 : ∀ x y, 0 ≤ e2 x y ∧ e2 x y ≤ 35) : 0 ≤ RG e1 e2 a fr x v ∧ RG e1 e2 a fr x v ≤ 140 := by
  unfold RG
  rw [S7_c (g := fun u => if (x - fr - u) % a = 0 then (if ((x - u - fr) / a) % 2 = 0 then e1 u v else e2 u v) else 0) (fun u _ _ => by unfold rg; rw [show x - u - fr = x - fr - u by omega])]
  have := S7_b (z := x - fr) (B := 35) (f := fun u => if ((x - u - fr) / a) % 2 = 0 then e1 u v else e2 u v) a1 a2 (by omega) (fun t => by
    show 0 ≤ (if ((x - t - fr) / a) % 2 = 0 then e1 t v else e2 t v) ∧ (if ((x - t - fr) / a) % 2 = 0 then e1 t v else e2 t v) ≤ 35
    split
    · exact h1 t v
    · exact h2 t v)
  omega
theorem GR_b {d1 d2 : Int → Int → Int} {lay a b x y : Int} (a1 : 2 ≤ a) (a2 : a ≤ 9) (b1 : 2 ≤ b) (b2 : b ≤ 9) (h1 : ∀ x y, 0 ≤ d1 x y ∧ d1 x y ≤ 35) (h2 : ∀ x y, 0 ≤ d2 x y ∧ d2 x y ≤ 35) : 0 ≤ GR d1 d2 lay a b x y ∧ GR d1 d2 lay a b x y ≤ 560 := by
  have := S7_b (z := y) (B := 140) (f := fun v => if ((y - v) / b) % 2 = 0 then RG d1 d2 a 0 x v else RG d2 d1 a (if lay = 1 then a / 2 else 0) x v) b1 b2 (by omega) (fun t => by
    show 0 ≤ (if ((y - t) / b) % 2 = 0 then RG d1 d2 a 0 x t else RG d2 d1 a (if lay = 1 then a / 2 else 0) x t) ∧ _ ≤ (140 : Int)
    split
    · exact RG_b a1 a2 h1 h2
    · exact RG_b a1 a2 h2 h1)
  exact this
theorem sm_S7 (n : Nat) (f : Nat → Int → Int) : sm n (fun i => S7 (f i)) = S7 (fun u => sm n (fun i => f i u)) := by
  induction n with
  | zero => simp [sm, S7]
  | succ n ih => simp only [sm]; rw [ih, ← S7_a]
theorem sm_1 {n k : Nat} (v : Int) (h : k < n) : sm n (fun i => if i = k then v else 0) = v := by
  have := sm_u (n := n) (k := k) (fun _ => 0) v h
  rw [sm_z (f := fun _ => (0 : Int)) (fun _ _ => rfl)] at this
  rw [show (fun i => if i = k then v else 0) = (fun i => if i = k then (0 : Int) + v else 0) by funext i; split <;> omega, this]
  omega
theorem AW_s {d : Int → Int → Int} {w h X Y : Int} (w1 : 1 ≤ w) (h1 : 1 ≤ h) : sm (w * h).toNat (AW d w h X Y) = TH d := by
  unfold AW TH
  rw [sm_S7 _ (fun i v => S7 (fun u => aw d w h X Y u v i))]
  refine S7_c (fun v _ _ => ?_)
  rw [sm_S7 _ (fun i u => aw d w h X Y u v i)]
  refine S7_c (fun u _ _ => ?_)
  have hp := pl_b w1 h1 (X + u) (Y + v)
  rw [← sm_1 (n := (w * h).toNat) (k := (pl w h (X + u) (Y + v)).toNat) (d u v) (by omega)]
  refine sm_c (fun i hi => ?_)
  unfold aw
  by_cases k : i = (pl w h (X + u) (Y + v)).toNat
  · rw [if_pos k, if_pos (by omega)]
  · rw [if_neg k, if_neg (by omega)]
theorem TH_b {r : Int} {d : Int → Int → Int} (H : dOK r d) : 0 ≤ TH d ∧ TH d ≤ 1715 := by
  have h := H.2.2.2
  have q : ∀ v, 0 ≤ S7 (fun u => d u v) ∧ S7 (fun u => d u v) ≤ 245 := by
    intro v
    have h1 := h (-3) v; have h2 := h (-2) v; have h3 := h (-1) v; have h4 := h 0 v; have h5 := h 1 v; have h6 := h 2 v; have h7 := h 3 v
    simp only [S7]
    omega
  have h1 := q (-3); have h2 := q (-2); have h3 := q (-1); have h4 := q 0; have h5 := q 1; have h6 := q 2; have h7 := q 3
  unfold TH
  rw [show S7 (fun y => S7 (fun x => d x y)) = S7 (fun x => d x (-3)) + S7 (fun x => d x (-2)) + S7 (fun x => d x (-1)) + S7 (fun x => d x 0) + S7 (fun x => d x 1) + S7 (fun x => d x 2) + S7 (fun x => d x 3) from rfl]
  omega
/-- the row of a tile's numbers -/
def FT (d1 d2 : Int → Int → Int) (lay a b w : Int) : Nat → Int := fun i => GR d1 d2 lay a b ((i : Int) % w) ((i : Int) / w)
theorem pl_at {w h : Int} {i : Nat} (w1 : 1 ≤ w) (hi : (i : Int) < w * h) : pl w h ((i : Int) % w) ((i : Int) / w) = i := by
  unfold pl
  rw [Int.emod_emod]
  have h1 : 0 ≤ (i : Int) / w := Int.ediv_nonneg (by omega) (by omega)
  have h2 : (i : Int) / w < h := Int.ediv_lt_of_lt_mul (by omega) (by rw [Int.mul_comm]; exact hi)
  rw [Int.emod_eq_of_lt h1 h2]
  have := Int.mul_ediv_add_emod (i : Int) w
  rw [Int.mul_comm] at this
  exact this
theorem gOK_ext {σ : cdS} {w h : Int} {F F' : Nat → Int} (G : gOK σ w h F) (e : ∀ i : Nat, (i : Int) < w * h → F i = F' i) : gOK σ w h F' := by
  obtain ⟨a, b, c, d, s, t, k⟩ := G
  exact ⟨a, b, c, d, s, t, fun i hi => by rw [k i hi, e i hi]⟩
def hh (lay b : Int) : Int := if lay = 1 then 2 * b else b
theorem L_layTile2 {σ : cdS} {n1 : Nat} {r : Int} {d : Int → Int → Int} (H : hOK σ n1 r d) {lay a b : Int} (l1 : lay = 0 ∨ lay = 1) (a1 : 2 ≤ a) (a2 : a ≤ 9) (b1 : 2 ≤ b) (b2 : b ≤ 9) {Q : cdS → Prop}
    (hQ : ∀ σ', frG σ σ' → gOK σ' a (hh lay b) (FT d d lay a b a) → (∀ x y, σ'.1 5 (pl a (hh lay b) x y).toNat = jI (GR d d lay a b x y)) → Q σ') : wp_X1_layTile n1 (jI lay) (jI a) (jI b) σ Q := by
  refine L_layTile H l1 a1 a2 b1 b2 (fun σ' F f G k => hQ σ' f (gOK_ext G (fun i hi => ?_)) (fun x y => ?_))
  · have := k ((i : Int) % a) ((i : Int) / a)
    rw [show (if lay = 1 then 2 * b else b) = hh lay b from rfl, pl_at (by omega) hi, show ((i : Int)).toNat = i by omega] at this
    exact this
  · obtain ⟨w1, w2, h1, h2, s3, s4, hF⟩ := G
    have hp := pl_b w1 h1 x y
    show σ'.1 5 (pl a (if lay = 1 then 2 * b else b) x y).toNat = _
    rw [hF _ (by omega), k]
theorem L_layInTurns2 {σ : cdS} {n1 n2 : Nat} {r1 r2 : Int} {d1 d2 : Int → Int → Int} (H1 : hOK σ n1 r1 d1) (H2 : hOK σ n2 r2 d2) {a b : Int} (a1 : 2 ≤ a) (a2 : a ≤ 9) (b1 : 2 ≤ b) (b2 : b ≤ 9) {Q : cdS → Prop}
    (hQ : ∀ σ', frG σ σ' → gOK σ' (2 * a) (2 * b) (FT d1 d2 0 a b (2 * a)) → Q σ') : wp_X1_layInTurns n1 n2 (jI a) (jI b) σ Q := by
  refine L_layInTurns H1 H2 a1 a2 b1 b2 (fun σ' F f G k => hQ σ' f (gOK_ext G (fun i hi => ?_)))
  have := k ((i : Int) % (2 * a)) ((i : Int) / (2 * a))
  rw [pl_at (by omega) hi, show ((i : Int)).toNat = i by omega] at this
  exact this
/-- the sum of a tile: as much as is thrown -/
theorem FT_s {d : Int → Int → Int} {lay a b : Int} (l1 : lay = 0 ∨ lay = 1) (a1 : 2 ≤ a) (a2 : a ≤ 9) (b1 : 2 ≤ b) (b2 : b ≤ 9) : sm (a * hh lay b).toNat (FT d d lay a b a) = (if lay = 1 then 2 else 1) * TH d := by
  rcases l1 with rfl | rfl
  · rw [if_neg (by decide), Int.one_mul, show hh 0 b = b from rfl, ← AW_s (d := d) (w := a) (h := b) (X := 0) (Y := 0) (by omega) (by omega)]
    refine sm_c (fun i hi => ?_)
    have e := AW_pl (d := d) (X := 0) (Y := 0) (x := (i : Int) % a) (y := (i : Int) / a) (show 1 ≤ a by omega) (show 1 ≤ b by omega)
    rw [pl_at (by omega) (by omega), show ((i : Int)).toNat = i by omega, lay_sq] at e
    exact e.symm
  · rw [if_pos rfl, show hh 1 b = 2 * b from rfl]
    have e1 := AW_s (d := d) (w := a) (h := 2 * b) (X := 0) (Y := 0) (by omega) (by omega)
    have e2 := AW_s (d := d) (w := a) (h := 2 * b) (X := a / 2) (Y := b) (by omega) (by omega)
    rw [show 2 * TH d = TH d + TH d by omega]
    rw [show sm (a * (2 * b)).toNat (FT d d 1 a b a) = sm (a * (2 * b)).toNat (fun i => AW d a (2 * b) 0 0 i + AW d a (2 * b) (a / 2) b i) from sm_c (fun i hi => ?_), sm_a]
    · rw [show sm (a * (2 * b)).toNat (fun i => AW d a (2 * b) 0 0 i) = TH d from e1, show sm (a * (2 * b)).toNat (fun i => AW d a (2 * b) (a / 2) b i) = TH d from e2]
    · have q1 := AW_pl (d := d) (X := 0) (Y := 0) (x := (i : Int) % a) (y := (i : Int) / a) (show 1 ≤ a by omega) (show 1 ≤ 2 * b by omega)
      have q2 := AW_pl (d := d) (X := a / 2) (Y := b) (x := (i : Int) % a) (y := (i : Int) / a) (show 1 ≤ a by omega) (show 1 ≤ 2 * b by omega)
      rw [pl_at (by omega) (by omega), show ((i : Int)).toNat = i by omega] at q1 q2
      rw [q1, q2, lay_tri b1 b2]
      rfl
-- the reference's row
def lOK (σ : cdS) (n : Nat) (F : Nat → Int) : Prop := n ≤ 361 ∧ σ.1 19 11 = jI n ∧ σ.1 19 12 = jI (sm n F) ∧ ∀ i : Nat, i < n → σ.1 23 i = jI (F i)
def frL (σ σ' : cdS) : Prop := (∀ a, a ≠ 19 → a ≠ 23 → σ'.1 a = σ.1 a) ∧ (∀ j, j ≠ 11 → j ≠ 12 → σ'.1 19 j = σ.1 19 j) ∧ σ'.2 = σ.2
theorem frL_rf {σ : cdS} : frL σ σ := ⟨fun _ _ _ => rfl, fun _ _ _ => rfl, rfl⟩
theorem frL_t {a b c : cdS} (h : frL a b) (k : frL b c) : frL a c := ⟨fun i u v => by rw [k.1 i u v, h.1 i u v], fun i u v => by rw [k.2.1 i u v, h.2.1 i u v], by rw [k.2.2, h.2.2]⟩
theorem mOK_L {σ σ' : cdS} {k r : Int} {d : Int → Int → Int} (H : mOK σ k r d) (f : frL σ σ') : mOK σ' k r d := by
  obtain ⟨a, b, c, e, g⟩ := H
  exact ⟨a, b, c, by rw [f.1 21 (by decide) (by decide)]; exact e, by rw [f.1 22 (by decide) (by decide)]; exact g⟩
theorem M_begins {σ : cdS} {F : Nat → Int} {Q : cdS → Prop} (hQ : ∀ σ', frL σ σ' → lOK σ' 0 F → Q σ') : wp_X6_begins σ Q := by
  intro σ1 e1 σ2 e2
  refine hQ σ2 ⟨fun a u v => by rw [e2, cdU_ne u, e1, cdU_ne u], fun j u v => by rw [e2, cdU_j v, e1, cdU_j u], by rw [e2, e1]; rfl⟩ ⟨by omega, ?_, ?_, fun i hi => absurd hi (by omega)⟩
  · rw [e2, cdU_j (by decide), e1, cdU_s]; rfl
  · rw [e2, cdU_s]; rfl
theorem M_lay {σ : cdS} {n : Nat} {F : Nat → Int} (hn : n < 361) (K : lOK σ n F) {Q : cdS → Prop} (hQ : ∀ σ', frL σ σ' → lOK σ' (n + 1) F → Q σ') : wp_X6_lay (jI (F n)) σ Q := by
  obtain ⟨k0, k1, k2, k3⟩ := K
  unfold wp_X6_lay
  rw [k1, jI_cl (by omega) (by omega)]
  refine ⟨(jI_in (by omega) (by omega)).mpr (by omega), fun σ2 e2 σ3 e3 σ4 e4 => ?_⟩
  rw [show ((n : Int)).toNat = n by omega] at e2
  refine hQ σ4 ⟨fun a u v => by rw [e4, cdU_ne u, e3, cdU_ne u, e2, cdU_ne v], fun j u v => by rw [e4, cdU_j v, e3, cdU_j u, e2, cdU_k (by decide)], by rw [e4, e3, e2]; rfl⟩ ⟨by omega, ?_, ?_, fun i hi => ?_⟩
  · rw [e4, cdU_j (by decide), e3, cdU_s, e2, cdU_k (by decide), k1, jI_n, jI_add]; rfl
  · rw [e4, cdU_s, e3, cdU_j (by decide), e2, cdU_k (by decide), k2, jI_add]; rfl
  · rw [e4, cdU_k (by decide), e3, cdU_k (by decide), e2]
    by_cases q : i = n
    · rw [q, cdU_s]
    · rw [cdU_j q]; exact k3 i (by omega)
theorem M_layTile {σ : cdS} {k1 k2 r1 r2 : Int} {d1 d2 : Int → Int → Int} (H1 : mOK σ k1 r1 d1) (H2 : mOK σ k2 r2 d2) {lay a b w h : Int} (l1 : lay = 0 ∨ lay = 1) (a1 : 2 ≤ a) (a2 : a ≤ 9) (b1 : 2 ≤ b) (b2 : b ≤ 9) (w1 : 1 ≤ w) (w2 : w ≤ 19) (h1 : 1 ≤ h) (h2 : h ≤ 19) {Q : cdS → Prop}
    (hQ : ∀ σ', frL σ σ' → lOK σ' (w * h).toNat (FT d1 d2 lay a b w) → Q σ') : wp_X6_layTile (jI k1) (jI k2) (jI lay) (jI a) (jI b) (jI w) (jI h) σ Q := by
  have hb := wh_b w1 w2 h1 h2
  intro P7 P17 c7 c17
  refine M_begins (F := FT d1 d2 lay a b w) (fun σ0 f0 K0 => ?_)
  have inner : ∀ (y : Int), 0 ≤ y → y < h → (∀ σ', frL σ σ' → lOK σ' ((y + 1) * w).toNat (FT d1 d2 lay a b w) → P7 (jI (y + 1)) σ') → ∀ (n : Nat) (x : Int) (σ' : cdS), x + n = w → 0 ≤ x → frL σ σ' → lOK σ' (y * w + x).toNat (FT d1 d2 lay a b w) → P17 (jI y) (jI x) σ' := by
    intro y y0 y1 hn n
    have yw : 0 ≤ y * w := Int.mul_nonneg y0 (by omega)
    have yw2 : (y + 1) * w ≤ w * h := by rw [Int.mul_comm w h]; exact Int.mul_le_mul_of_nonneg_right (by omega) (by omega)
    rw [Int.add_mul, Int.one_mul] at yw2 hn
    induction n with
    | zero =>
      intro x σ' hx x0 f K
      refine c17 _ _ _ ⟨fun _ z hz => ?_, fun k => absurd ((jI_le (by omega) (by omega) (by omega) (by omega)).mpr (by omega)) k⟩
      rw [jI_n, jI_add] at hz
      rw [hz]
      rw [show x = w by omega] at K
      exact hn σ' f K
    | succ n ih =>
      intro x σ' hx x0 f K
      refine c17 _ _ _ ⟨fun k => absurd ((jI_le (by omega) (by omega) (by omega) (by omega)).mp k) (by omega), fun _ => ?_⟩
      refine M_groundAt (mOK_L H1 f) (mOK_L H2 f) l1 a1 a2 b1 b2 (by omega) (by omega) (by omega) (by omega) ?_
      have e : FT d1 d2 lay a b w (y * w + x).toNat = GR d1 d2 lay a b x y := by
        unfold FT
        rw [show (((y * w + x).toNat : Nat) : Int) = x + y * w by omega, Int.add_mul_emod_self_right, Int.add_mul_ediv_right _ _ (by omega), Int.emod_eq_of_lt x0 (by omega), Int.ediv_eq_zero_of_lt x0 (by omega), Int.zero_add]
      rw [← e]
      refine M_lay (by omega) K (fun σ2 f2 K2 z hz => ?_)
      rw [jI_n, jI_add] at hz
      rw [hz]
      refine ih (x + 1) σ2 (by omega) (by omega) (frL_t f f2) ?_
      rw [show (y * w + (x + 1)).toNat = (y * w + x).toNat + 1 by omega]
      exact K2
  have outer : ∀ (n : Nat) (y : Int) (σ' : cdS), y + n = h → 0 ≤ y → frL σ σ' → lOK σ' (y * w).toNat (FT d1 d2 lay a b w) → P7 (jI y) σ' := by
    intro n
    induction n with
    | zero =>
      intro y σ' hy y0 f K
      refine c7 _ _ ⟨fun _ => hQ σ' f ?_, fun k => absurd ((jI_le (by omega) (by omega) (by omega) (by omega)).mpr (by omega)) k⟩
      rw [show y = h by omega, Int.mul_comm] at K
      exact K
    | succ n ih =>
      intro y σ' hy y0 f K
      refine c7 _ _ ⟨fun k => absurd ((jI_le (by omega) (by omega) (by omega) (by omega)).mp k) (by omega), fun _ => ?_⟩
      refine inner y y0 (by omega) (fun σ2 f2 K2 => ih (y + 1) σ2 (by omega) (by omega) f2 K2) w.toNat 0 σ' (by omega) (by omega) f ?_
      rw [Int.add_zero]
      exact K
  exact outer h.toNat 0 σ0 (by omega) (by omega) f0 (by rw [Int.zero_mul]; exact K0)
theorem M_layLayout {σ : cdS} {k1 r1 : Int} {d1 : Int → Int → Int} (H1 : mOK σ k1 r1 d1) {lay a b : Int} (l1 : lay = 0 ∨ lay = 1) (a1 : 2 ≤ a) (a2 : a ≤ 9) (b1 : 2 ≤ b) (b2 : b ≤ 9) {Q : cdS → Prop}
    (hQ : ∀ σ', frL σ σ' → lOK σ' (a * hh lay b).toNat (FT d1 d1 lay a b a) → Q σ') : wp_X6_layLayout (jI k1) (jI lay) (jI a) (jI b) σ Q := by
  intro P22 c22
  simp only [jI_n, jI_neg, jI_add, jI_sub, jI_mul]
  rw [jI_eq (by omega) (by omega) (by omega) (by omega)]
  have hb : 2 ≤ hh lay b ∧ hh lay b ≤ 18 := by unfold hh; split <;> omega
  have fin : P22 (jI (hh lay b)) (jI a) (jI b) (jI a) (jI lay) (jI k1) (jI k1) σ := c22 _ _ _ _ _ _ _ _ (M_layTile H1 H1 l1 a1 a2 b1 b2 (by omega) (by omega) (by omega) (by omega) hQ)
  unfold hh at fin
  refine ⟨fun k => ?_, fun k => ?_⟩
  · rw [if_neg k] at fin; exact fin
  · rw [if_pos k] at fin; exact fin
