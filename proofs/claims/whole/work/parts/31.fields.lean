/-! A FIELD, by class and reference. -/
theorem M_fieldAt {σ : cdS} {k1 r : Int} {d : Int → Int → Int} (H : mOK σ k1 r d) {a b x y : Int} (a1 : 2 ≤ a) (a2 : a ≤ 9) (b1 : 2 ≤ b) (b2 : b ≤ 9) (x1 : 0 ≤ x) (x2 : x ≤ 100) (y1 : 0 ≤ y) (y2 : y ≤ 100) (st : Int32) {Q : Int32 → Prop}
    (hQ : Q (jI (ff d a b (gb st) x y))) : wp_X6_fieldAt (jI k1) (jI a) (jI b) st (jI x) (jI y) σ Q := by
  intro P6 P53 c6 c53
  have key : ∀ (n k : Nat), k + n = 9 → P6 (jI (sm k (fun k => if gb st k then fk d a b x y k else 0))) (jI k) := by
    intro n
    induction n with
    | zero =>
      intro k hk
      refine c6 _ _ ?_
      rw [jI_n]
      refine ⟨fun _ => ?_, fun q => absurd ((jI_le (by omega) (by omega) (by omega) (by omega)).mpr (by omega)) q⟩
      rw [show k = 9 by omega]
      exact hQ
    | succ n ih =>
      intro k hk
      have ih := ih (k + 1) (by omega)
      simp only [sm] at ih
      have go : ∀ z, (if gb st k then fk d a b x y k else 0) = z → P53 (jI k) (jI z) (jI (sm k (fun k => if gb st k then fk d a b x y k else 0))) := by
        intro z hz
        refine c53 _ _ _ (fun u hu v hv => ?_)
        rw [jI_add] at hu
        rw [jI_n, jI_add] at hv
        rw [hu, hv, ← hz]
        exact ih
      refine c6 _ _ ⟨fun q => absurd q (by rw [jI_n, jI_le (by omega) (by omega) (by omega) (by omega)]; omega), fun _ => ?_⟩
      rw [(bit_1 st (show k < 9 by omega)).1]
      refine ⟨fun e => go 0 (by rw [if_neg e]), fun e => ?_⟩
      have ka : 0 ≤ (k : Int) % 3 * a ∧ (k : Int) % 3 * a ≤ 18 := by
        rcases (show (k : Int) % 3 = 0 ∨ (k : Int) % 3 = 1 ∨ (k : Int) % 3 = 2 by omega) with q | q | q <;> rw [q] <;> omega
      have kb : 0 ≤ (k : Int) / 3 * b ∧ (k : Int) / 3 * b ≤ 18 := by
        rcases (show (k : Int) / 3 = 0 ∨ (k : Int) / 3 = 1 ∨ (k : Int) / 3 = 2 by omega) with q | q | q <;> rw [q] <;> omega
      rw [jI_n, cdm_jP (by omega) (by omega) (by omega) (by omega), jI_divP (by omega) (by omega) (by omega) (by omega), jI_mul, jI_mul, jI_sub, jI_sub]
      exact M_depthAt H (by omega) (by omega) (by omega) (by omega) (go _ (by rw [if_pos e]; rfl))
  exact key 9 0 rfl
theorem M_layField {σ : cdS} {k1 r : Int} {d : Int → Int → Int} (H : mOK σ k1 r d) {a b m n : Int} (a1 : 2 ≤ a) (a2 : a ≤ 9) (b1 : 2 ≤ b) (b2 : b ≤ 9) (m1 : m = 2 ∨ m = 3) (n0 : n = 2 ∨ n = 3) (st : Int32) {Q : cdS → Prop}
    (hQ : ∀ σ', frL σ σ' → lOK σ' (((m - 1) * a + 1) * ((n - 1) * b + 1)).toNat (FF d a b ((m - 1) * a + 1) (gb st)) → Q σ') : wp_X6_layField (jI k1) (jI a) (jI b) (jI m) (jI n) st σ Q := by
  have wb : 3 ≤ (m - 1) * a + 1 ∧ (m - 1) * a + 1 ≤ 19 := by rcases m1 with rfl | rfl <;> omega
  have hb : 3 ≤ (n - 1) * b + 1 ∧ (n - 1) * b + 1 ≤ 19 := by rcases n0 with rfl | rfl <;> omega
  intro P7 P17 c7 c17
  simp only [jI_n, jI_sub, jI_mul] at c7 c17
  generalize hw : (m - 1) * a + 1 = w at *
  generalize hh0 : (n - 1) * b + 1 = h at *
  have ew : (m - 1) * a = w - 1 := by omega
  have eh : (n - 1) * b = h - 1 := by omega
  rw [ew] at c17
  rw [eh] at c7
  have hbb := wh_b (w := w) (h := h) (by omega) (by omega) (by omega) (by omega)
  refine M_begins (F := FF d a b w (gb st)) (fun σ0 f0 K0 => ?_)
  have inner : ∀ (y : Int), 0 ≤ y → y < h → (∀ σ', frL σ σ' → lOK σ' ((y + 1) * w).toNat (FF d a b w (gb st)) → P7 (jI (y + 1)) σ') → ∀ (t : Nat) (x : Int) (σ' : cdS), x + t = w → 0 ≤ x → frL σ σ' → lOK σ' (y * w + x).toNat (FF d a b w (gb st)) → P17 (jI y) (jI x) σ' := by
    intro y y0 y1 hn t
    have yw : 0 ≤ y * w := Int.mul_nonneg y0 (by omega)
    have yw2 : (y + 1) * w ≤ w * h := by rw [Int.mul_comm w h]; exact Int.mul_le_mul_of_nonneg_right (by omega) (by omega)
    rw [Int.add_mul, Int.one_mul] at yw2 hn
    induction t with
    | zero =>
      intro x σ' hx x0 f K
      refine c17 _ _ _ ⟨fun _ z hz => ?_, fun k => absurd ((jI_lt (by omega) (by omega) (by omega) (by omega)).mpr (by omega)) k⟩
      rw [jI_add] at hz
      rw [hz]
      rw [show x = w by omega] at K
      exact hn σ' f K
    | succ t ih =>
      intro x σ' hx x0 f K
      have at' := at_yx x0 (show x < w by omega) y0
      refine c17 _ _ _ ⟨fun k => absurd ((jI_lt (by omega) (by omega) (by omega) (by omega)).mp k) (by omega), fun _ => ?_⟩
      refine M_fieldAt (mOK_L H f) a1 a2 b1 b2 (by omega) (by omega) (by omega) (by omega) st ?_
      have e : FF d a b w (gb st) (y * w + x).toNat = ff d a b (gb st) x y := by
        unfold FF
        rw [at'.1, at'.2]
      rw [← e]
      refine M_lay (by omega) K (fun σ2 f2 K2 z hz => ?_)
      rw [jI_add] at hz
      rw [hz]
      refine ih (x + 1) σ2 (by omega) (by omega) (frL_t f f2) ?_
      rw [show (y * w + (x + 1)).toNat = (y * w + x).toNat + 1 by omega]
      exact K2
  have outer : ∀ (t : Nat) (y : Int) (σ' : cdS), y + t = h → 0 ≤ y → frL σ σ' → lOK σ' (y * w).toNat (FF d a b w (gb st)) → P7 (jI y) σ' := by
    intro t
    induction t with
    | zero =>
      intro y σ' hy y0 f K
      refine c7 _ _ ⟨fun _ => hQ σ' f ?_, fun k => absurd ((jI_lt (by omega) (by omega) (by omega) (by omega)).mpr (by omega)) k⟩
      rw [show y = h by omega, Int.mul_comm] at K
      exact K
    | succ t ih =>
      intro y σ' hy y0 f K
      refine c7 _ _ ⟨fun k => absurd ((jI_lt (by omega) (by omega) (by omega) (by omega)).mp k) (by omega), fun _ => ?_⟩
      refine inner y y0 (by omega) (fun σ2 f2 K2 => ih (y + 1) σ2 (by omega) (by omega) f2 K2) w.toNat 0 σ' (by omega) (by omega) f ?_
      rw [Int.add_zero]
      exact K
  exact outer h.toNat 0 σ0 (by omega) (by omega) f0 (by rw [Int.zero_mul]; exact K0)
/-- the head that is missed the most, and how much of it falls within -/
def mm (d : Int → Int → Int) (a b w h : Int) (s : Nat → Bool) : Nat → Int × Int
  | 0 => (-1000001, -1)
  | k + 1 => if s k = true ∧ (mm d a b w h s k).2 < sh d a b w h k then ((k : Int), sh d a b w h k) else mm d a b w h s k
theorem mm_b {r : Int} {d : Int → Int → Int} (D : dOK r d) {a b w h : Int} (w1 : 1 ≤ w) (w2 : w ≤ 19) (h1 : 1 ≤ h) (h2 : h ≤ 19) (s : Nat → Bool) : ∀ k, k ≤ 9 → (((mm d a b w h s k).1 = -1000001 ∧ (mm d a b w h s k).2 = -1) ∨ (0 ≤ (mm d a b w h s k).1 ∧ (mm d a b w h s k).1 ≤ 8 ∧ 0 ≤ (mm d a b w h s k).2 ∧ (mm d a b w h s k).2 ≤ 12635)) := by
  intro k
  induction k with
  | zero => intro _; exact Or.inl ⟨rfl, rfl⟩
  | succ k ih =>
    intro hk
    have sb := sh_b D (a := a) (b := b) w1 w2 h1 h2 k
    simp only [mm]
    by_cases q : s k = true ∧ (mm d a b w h s k).2 < sh d a b w h k
    · rw [if_pos q]
      exact Or.inr ⟨by omega, by omega, sb.1, sb.2⟩
    · rw [if_neg q]
      exact ih (by omega)
def MS (d : Int → Int → Int) (a b w h : Int) (s : Nat → Bool) (T q : Int) : Int := if (mm d a b w h s 9).1 = -1000001 then -1000001 else if q = 10 then (mm d a b w h s 9).1 else T - (mm d a b w h s 9).2
theorem L_tellMissed {σ : cdS} {n1 : Nat} {r : Int} {d : Int → Int → Int} (H : hOK σ n1 r d) {a b m n : Int} (a1 : 2 ≤ a) (a2 : a ≤ 9) (b1 : 2 ≤ b) (b2 : b ≤ 9) (m1 : m = 2 ∨ m = 3) (n0 : n = 2 ∨ n = 3) (f : Int32) {q : Int} (q0 : q = 10 ∨ q = 11)
    (G : gOK σ ((m - 1) * a + 1) ((n - 1) * b + 1) (FF d a b ((m - 1) * a + 1) (std m n f))) {Q : Int32 → Prop}
    (hQ : Q (jI (MS d a b ((m - 1) * a + 1) ((n - 1) * b + 1) (std m n f) (sm (((m - 1) * a + 1) * ((n - 1) * b + 1)).toNat (FF d a b ((m - 1) * a + 1) (std m n f))) q))) : wp_X5_tellMissed n1 (jI a) (jI b) (jI m) (jI n) f (jI q) σ Q := by
  have wb : 3 ≤ (m - 1) * a + 1 ∧ (m - 1) * a + 1 ≤ 19 := by rcases m1 with rfl | rfl <;> omega
  have hb : 3 ≤ (n - 1) * b + 1 ∧ (n - 1) * b + 1 ≤ 19 := by rcases n0 with rfl | rfl <;> omega
  have D := H.2.1
  generalize hw : (m - 1) * a + 1 = w at *
  generalize hh0 : (n - 1) * b + 1 = h at *
  have R : bR (w * h).toNat (FF d a b w (std m n f)) := FF_R D _ (by omega) (by omega) (by omega) (by omega)
  have M := mm_b D (a := a) (b := b) (w := w) (h := h) (by omega) (by omega) (by omega) (by omega) (std m n f)
  intro P10 P20 P79 c10 c20 c79
  have inner : ∀ (j : Int), 0 ≤ j → j < n → P10 (jI (mm d a b w h (std m n f) (3 * j + 3).toNat).1) (jI (mm d a b w h (std m n f) (3 * j + 3).toNat).2) (jI (j + 1)) →
      ∀ (t : Nat) (i0 : Int), i0 + t = m → 0 ≤ i0 → P20 (jI (mm d a b w h (std m n f) (3 * j + i0).toNat).1) (jI (mm d a b w h (std m n f) (3 * j + i0).toNat).2) (jI j) (jI i0) := by
    intro j j0 jn hn t
    induction t with
    | zero =>
      intro i0 hi i00
      refine c20 _ _ _ _ ⟨fun _ z hz => ?_, fun k => absurd ((jI_le (by omega) (by omega) (by omega) (by omega)).mpr (by omega)) k⟩
      rw [jI_n, jI_add] at hz
      rw [hz]
      rcases m1 with rfl | rfl
      · rw [show (3 * j + 3).toNat = (3 * j + i0).toNat + 1 by omega] at hn
        have : std 2 n f (3 * j + i0).toNat = false := by
          unfold std
          rw [show (((3 * j + i0).toNat : Nat) : Int) % 3 = 2 by omega]
          simp
        simp only [mm] at hn
        rw [if_neg (by rw [this]; simp)] at hn
        exact hn
      · rw [show (3 * j + 3).toNat = (3 * j + i0).toNat by omega] at hn
        exact hn
    | succ t ih =>
      intro i0 hi i00
      have k9 : (3 * j + i0).toNat < 9 := by omega
      have kn : i0 + 3 * j = ((3 * j + i0).toNat : Int) := by omega
      have mk := M (3 * j + i0).toNat (by omega)
      have sb := sh_b D (a := a) (b := b) (w := w) (h := h) (by omega) (by omega) (by omega) (by omega) (3 * j + i0).toNat
      have sk : ∀ z, gb f (3 * j + i0).toNat = z → std m n f (3 * j + i0).toNat = !z := by
        intro z hz
        unfold std
        rw [hz, show (((3 * j + i0).toNat : Nat) : Int) % 3 = i0 by omega, show (((3 * j + i0).toNat : Nat) : Int) / 3 = j by omega]
        simp
        omega
      have ih := ih (i0 + 1) (by omega) (by omega)
      rw [show (3 * j + (i0 + 1)).toNat = (3 * j + i0).toNat + 1 by omega] at ih
      have go : ∀ p, mm d a b w h (std m n f) ((3 * j + i0).toNat + 1) = p → P79 (jI p.1) (jI p.2) (jI j) (jI i0) := by
        intro p hp
        refine c79 _ _ _ _ (fun z hz => ?_)
        rw [jI_n, jI_add] at hz
        rw [hz, ← hp]
        exact ih
      refine c20 _ _ _ _ ⟨fun k => absurd ((jI_le (by omega) (by omega) (by omega) (by omega)).mp k) (by omega), fun _ => ?_⟩
      refine L_numberInField ?_
      rw [jI_mul, jI_mul, kn]
      have ia : 0 ≤ i0 * a ∧ i0 * a ≤ 18 := by
        rcases (show i0 = 0 ∨ i0 = 1 ∨ i0 = 2 by omega) with rfl | rfl | rfl <;> omega
      have jb : 0 ≤ j * b ∧ j * b ≤ 18 := by
        rcases (show j = 0 ∨ j = 1 ∨ j = 2 by omega) with rfl | rfl | rfl <;> omega
      refine L_shareWithin H G (by omega) (by omega) (by omega) (by omega) ?_
      have es : sm (w * h).toNat (fun i => d ((i : Int) % w - i0 * a) ((i : Int) / w - j * b)) = sh d a b w h (3 * j + i0).toNat := by
        unfold sh fk
        rw [show (((3 * j + i0).toNat : Nat) : Int) % 3 = i0 by omega, show (((3 * j + i0).toNat : Nat) : Int) / 3 = j by omega]
      rw [es]
      refine L_hasFailed k9 (fun e => ⟨fun _ => ?_, fun k => absurd k (by decide)⟩) (fun e => ⟨fun k => absurd rfl k, fun _ => ?_⟩)
      · exact go _ (by simp only [mm]; rw [if_neg (by rw [sk _ e]; simp)])
      · rw [jI_le (by omega) (by omega) (by omega) (by omega)]
        refine ⟨fun u => go _ (by simp only [mm]; rw [if_neg (by omega)]), fun u => ?_⟩
        exact go (((3 * j + i0).toNat : Int), sh d a b w h (3 * j + i0).toNat) (by simp only [mm]; rw [if_pos ⟨by rw [sk _ e]; rfl, by omega⟩])
  have outer : ∀ (t : Nat) (j : Int), j + t = n → 0 ≤ j → P10 (jI (mm d a b w h (std m n f) (3 * j).toNat).1) (jI (mm d a b w h (std m n f) (3 * j).toNat).2) (jI j) := by
    intro t
    induction t with
    | zero =>
      intro j hj j0
      have e9 : mm d a b w h (std m n f) 9 = mm d a b w h (std m n f) (3 * j).toNat := by
        rcases n0 with rfl | rfl
        · rw [show (3 * j).toNat = 6 by omega]
          have z : ∀ k, 6 ≤ k → k < 9 → std m 2 f k = false := by
            intro k k1 k2
            unfold std
            have : ¬ ((k : Int) / 3 < 2) := by omega
            simp [this]
          have step : ∀ k, 6 ≤ k → k < 9 → mm d a b w h (std m 2 f) (k + 1) = mm d a b w h (std m 2 f) k := by
            intro k k1 k2
            simp only [mm]
            rw [if_neg (by rw [z k k1 k2]; simp)]
          rw [step 8 (by omega) (by omega), step 7 (by omega) (by omega), step 6 (by omega) (by omega)]
        · rw [show (3 * j).toNat = 9 by omega]
      rw [← e9]
      have m9 := M 9 (by omega)
      unfold MS at hQ
      refine c10 _ _ _ ⟨fun _ => ?_, fun k => absurd ((jI_le (by omega) (by omega) (by omega) (by omega)).mpr (by omega)) k⟩
      simp only [jI_n, jI_neg]
      rw [jI_eq (by omega) (by omega) (by omega) (by omega), jI_eq (by omega) (by omega) (by omega) (by omega)]
      refine ⟨fun u => ⟨fun v => ?_, fun v => ?_⟩, fun u => ?_⟩
      · rw [if_neg u, if_neg v] at hQ
        refine L_total G R ?_
        rw [jI_sub]
        exact hQ
      · rw [if_neg u, if_pos v] at hQ
        exact hQ
      · rw [if_pos u] at hQ
        exact hQ
    | succ t ih =>
      intro j hj j0
      refine c10 _ _ _ ⟨fun k => absurd ((jI_le (by omega) (by omega) (by omega) (by omega)).mp k) (by omega), fun _ => ?_⟩
      have := inner j j0 (by omega) (by
        have := ih (j + 1) (by omega) (by omega)
        rw [show 3 * (j + 1) = 3 * j + 3 by omega] at this
        exact this) m.toNat 0 (by omega) (by omega)
      rw [show 3 * j + 0 = 3 * j by omega] at this
      exact this
  exact outer n.toNat 0 (by omega) (by omega)
theorem sm_del {n k : Nat} (hk : k < n) (s : Nat → Bool) (g : Nat → Int) (hs : s k = true) : sm n (fun i => if (s i && !decide (i = k)) then g i else 0) = sm n (fun i => if s i then g i else 0) - g k := by
  have := sm_u (n := n) (k := k) (fun i => if (s i && !decide (i = k)) then g i else 0) (g k) hk
  have e : sm n (fun i => if i = k then (if (s i && !decide (i = k)) then g i else 0) + g k else (if (s i && !decide (i = k)) then g i else 0)) = sm n (fun i => if s i then g i else 0) := by
    refine sm_c (fun i _ => ?_)
    by_cases q : i = k
    · subst q
      simp [hs]
    · simp [q]
  rw [e] at this
  omega
theorem M_missedOf {σ : cdS} {k1 r : Int} {d : Int → Int → Int} (H : mOK σ k1 r d) {a b m n : Int} (a1 : 2 ≤ a) (a2 : a ≤ 9) (b1 : 2 ≤ b) (b2 : b ≤ 9) (m1 : m = 2 ∨ m = 3) (n0 : n = 2 ∨ n = 3) (st : Int32) {q : Int} (q0 : q = 0 ∨ q = 1) {Q : Int32 → cdS → Prop}
    (hQ : ∀ σ', frL σ σ' → Q (jI (MS d a b ((m - 1) * a + 1) ((n - 1) * b + 1) (gb st) (sm (((m - 1) * a + 1) * ((n - 1) * b + 1)).toNat (FF d a b ((m - 1) * a + 1) (gb st))) (10 + q))) σ') : wp_X6_missedOf (jI k1) (jI a) (jI b) (jI m) (jI n) st (jI q) σ Q := by
  have wb : 3 ≤ (m - 1) * a + 1 ∧ (m - 1) * a + 1 ≤ 19 := by rcases m1 with rfl | rfl <;> omega
  have hb : 3 ≤ (n - 1) * b + 1 ∧ (n - 1) * b + 1 ≤ 19 := by rcases n0 with rfl | rfl <;> omega
  have D := H.2.2.1
  have LF := fun (σ' : cdS) (g : frL σ σ') (st' : Int32) (Q' : cdS → Prop) => M_layField (mOK_L H g) a1 a2 b1 b2 m1 n0 st' (Q := Q')
  generalize hw : (m - 1) * a + 1 = w at *
  generalize hh0 : (n - 1) * b + 1 = h at *
  have R : ∀ s, bR (w * h).toNat (FF d a b w s) := fun s => FF_R D s (by omega) (by omega) (by omega) (by omega)
  have M := mm_b D (a := a) (b := b) (w := w) (h := h) (by omega) (by omega) (by omega) (by omega) (gb st)
  have T0 := sm_bR (R (gb st)) _ (Nat.le_refl _)
  have n1 := (R (gb st)).2.1
  intro P11 P65 P70 P84 P100 P102 c11 c65 c70 c84 c100 c102
  generalize hT : sm (w * h).toNat (FF d a b w (gb st)) = T at *
  have le : ∀ k : Nat, Int := fun k => if (mm d a b w h (gb st) k).1 = -1000001 then -1000001 else T - (mm d a b w h (gb st) k).2
  have key : ∀ (t k : Nat) (σ' : cdS), k + t = 9 → frL σ σ' → P11 (jI (mm d a b w h (gb st) k).1) (jI (if (mm d a b w h (gb st) k).1 = -1000001 then -1000001 else T - (mm d a b w h (gb st) k).2)) (jI k) σ' := by
    intro t
    induction t with
    | zero =>
      intro k σ' hk g
      refine c11 _ _ _ _ ?_
      simp only [jI_n]
      refine ⟨fun _ => ?_, fun u => absurd ((jI_le (by omega) (by omega) (by omega) (by omega)).mpr (by omega)) u⟩
      have hQ := hQ σ' g
      unfold MS at hQ
      rw [show k = 9 by omega, jI_eq (by omega) (by omega) (by omega) (by omega)]
      refine ⟨fun u => ?_, fun u => ?_⟩
      · by_cases v : (mm d a b w h (gb st) 9).1 = -1000001
        · rw [if_pos v] at hQ
          rw [v]; exact hQ
        · rw [if_neg v, if_pos (by omega)] at hQ
          exact hQ
      · by_cases v : (mm d a b w h (gb st) 9).1 = -1000001
        · rw [if_pos v] at hQ ⊢
          exact hQ
        · rw [if_neg v, if_neg (by omega)] at hQ
          rw [if_neg v]
          exact hQ
    | succ t ih =>
      intro k σ' hk g
      have mk := M k (by omega)
      have sb := sh_b D (a := a) (b := b) (w := w) (h := h) (by omega) (by omega) (by omega) (by omega) k
      have go : ∀ p σ2, frL σ σ2 → mm d a b w h (gb st) (k + 1) = p → P102 (jI p.1) (jI (if p.1 = -1000001 then -1000001 else T - p.2)) (jI k) σ2 := by
        intro p σ2 g2 hp
        refine c102 _ _ _ _ (fun z hz => ?_)
        rw [jI_n, jI_add] at hz
        rw [hz, ← hp]
        exact ih (k + 1) σ2 (by omega) g2
      refine c11 _ _ _ _ ⟨fun u => absurd u (by rw [jI_n, jI_le (by omega) (by omega) (by omega) (by omega)]; omega), fun _ => ?_⟩
      rw [(bit_1 st (show k < 9 by omega)).1]
      refine ⟨fun e => go _ σ' g (by simp only [mm]; rw [if_neg (fun u => e u.1)]), fun e => ?_⟩
      refine LF σ' g _ _ (fun σ5 g5 K5 => ?_)
      have g05 := frL_t g g5
      -- without k
      have tk : sm (w * h).toNat (FF d a b w (gb (st &&& (((1 : Int32) <<< (jI k &&& 31)) ^^^ (-1))))) = T - sh d a b w h k := by
        rw [FF_s, ← hT, FF_s, ← sm_del (show k < 9 by omega) (gb st) (sh d a b w h) e]
        refine sm_c (fun i hi => ?_)
        rw [gb_and, gb_xor, gb_sh (by omega) hi, gb_m1 (by omega)]
        simp
      have tb := sm_bR (R (gb (st &&& (((1 : Int32) <<< (jI k &&& 31)) ^^^ (-1))))) _ (Nat.le_refl _)
      have tot : σ5.1 19 12 = jI (T - sh d a b w h k) := by rw [K5.2.2.1, tk]
      have less : (mm d a b w h (gb st) k).2 < sh d a b w h k → ∀ le0, P65 (jI (mm d a b w h (gb st) k).1) le0 (jI k) σ5 := by
        intro u le0
        refine c65 _ _ _ _ (c70 _ _ _ _ _ ⟨fun v => absurd v (by decide), fun _ => c84 _ _ _ _ _ ⟨fun v => absurd v (by decide), fun _ => c100 _ _ _ _ ?_⟩⟩)
        rw [tot]
        have := go ((k : Int), sh d a b w h k) σ5 g05 (by simp only [mm]; rw [if_pos ⟨e, u⟩])
        rw [if_neg (show ¬ ((k : Int), sh d a b w h k).1 = -1000001 by show ¬ (k : Int) = -1000001; omega)] at this
        exact this
      simp only [jI_n, jI_neg]
      rw [jI_eq (by omega) (by omega) (by omega) (by omega)]
      refine ⟨fun u => less (by omega) _, fun u => ?_⟩
      rw [if_neg u, tot, jI_le (by omega) (by omega) (by omega) (by omega)]
      refine ⟨fun v => ?_, fun v => less (by omega) _⟩
      refine c70 _ _ _ _ _ ⟨fun _ => c84 _ _ _ _ _ ⟨fun _ => c100 _ _ _ _ ?_, fun z => absurd rfl z⟩, fun z => absurd rfl z⟩
      have := go (mm d a b w h (gb st) k) σ5 g05 (by simp only [mm]; rw [if_neg (by omega)])
      rw [if_neg u] at this
      exact this
  exact key 9 0 σ rfl frL_rf
