/-! A FIELD: heads k of nine, those with s k stand. -/
theorem M_allOf {σ : cdS} {m n : Int} (m1 : m = 2 ∨ m = 3) (n1 : n = 2 ∨ n = 3) {Q : Int32 → Prop} (hQ : Q (al m n)) : wp_X6_allOf (jI m) (jI n) σ Q := by
  intro P4 P31 P32 c4 c31 c32
  rcases m1 with rfl | rfl <;> rcases n1 with rfl | rfl <;>
  · repeat (first
      | (refine c4 _ _ ⟨fun k => absurd k (by decide), fun _ => ⟨fun k => absurd k (by decide), fun _ => ⟨fun k => absurd k (by decide), fun _ => ?_⟩⟩⟩)
      | (refine c4 _ _ ⟨fun k => absurd k (by decide), fun _ => ⟨fun _ => ?_, fun k => absurd (by decide) k⟩⟩)
      | (refine c4 _ _ ⟨fun k => absurd k (by decide), fun _ => ⟨fun k => absurd k (by decide), fun _ => ⟨fun _ => ?_, fun k => absurd (by decide) k⟩⟩⟩)
      | (refine c31 _ _ ?_)
      | (refine c32 _ _ _ (fun z hz w hw => ?_); subst hz; subst hw))
    refine c4 _ _ ⟨fun _ => ?_, fun k => absurd (by decide) k⟩
    exact hQ
/-- what the head k throws on (x, y) -/
def fk (d : Int → Int → Int) (a b x y : Int) (k : Nat) : Int := d (x - (k : Int) % 3 * a) (y - (k : Int) / 3 * b)
def ff (d : Int → Int → Int) (a b : Int) (s : Nat → Bool) (x y : Int) : Int := sm 9 (fun k => if s k then fk d a b x y k else 0)
def FF (d : Int → Int → Int) (a b w : Int) (s : Nat → Bool) : Nat → Int := fun i => ff d a b s ((i : Int) % w) ((i : Int) / w)
def sh (d : Int → Int → Int) (a b w h : Int) (k : Nat) : Int := sm (w * h).toNat (fun i => fk d a b ((i : Int) % w) ((i : Int) / w) k)
theorem sm_comm (n m : Nat) (f : Nat → Nat → Int) : sm n (fun i => sm m (fun j => f i j)) = sm m (fun j => sm n (fun i => f i j)) := by
  induction n with
  | zero => simp only [sm]; exact (sm_z (fun _ _ => rfl)).symm
  | succ n ih => simp only [sm]; rw [ih, ← sm_a]
theorem FF_s {d : Int → Int → Int} {a b w h : Int} {s : Nat → Bool} : sm (w * h).toNat (FF d a b w s) = sm 9 (fun k => if s k then sh d a b w h k else 0) := by
  unfold FF ff
  rw [sm_comm]
  refine sm_c (fun k _ => ?_)
  cases s k
  · exact sm_z (fun _ _ => rfl)
  · rfl
theorem FF_R {r : Int} {d : Int → Int → Int} (D : dOK r d) {a b w h : Int} (s : Nat → Bool) (w1 : 1 ≤ w) (w2 : w ≤ 19) (h1 : 1 ≤ h) (h2 : h ≤ 19) : bR (w * h).toNat (FF d a b w s) := by
  have hb := wh_b w1 w2 h1 h2
  refine ⟨by omega, by omega, fun i _ => ?_⟩
  have := sm_b (n := 9) (f := fun k => if s k then fk d a b ((i : Int) % w) ((i : Int) / w) k else 0) (lo := 0) (hi := 35) (fun k _ => by
    cases s k
    · simp
    · exact D.2.2.2 _ _)
  show 0 ≤ sm 9 (fun k => if s k then fk d a b ((i : Int) % w) ((i : Int) / w) k else 0) ∧ sm 9 (fun k => if s k then fk d a b ((i : Int) % w) ((i : Int) / w) k else 0) ≤ 560
  omega
theorem sh_b {r : Int} {d : Int → Int → Int} (D : dOK r d) {a b w h : Int} (w1 : 1 ≤ w) (w2 : w ≤ 19) (h1 : 1 ≤ h) (h2 : h ≤ 19) (k : Nat) : 0 ≤ sh d a b w h k ∧ sh d a b w h k ≤ 12635 := by
  have hb := wh_b w1 w2 h1 h2
  have := sm_b (n := (w * h).toNat) (f := fun i => fk d a b ((i : Int) % w) ((i : Int) / w) k) (lo := 0) (hi := 35) (fun i _ => D.2.2.2 _ _)
  unfold sh
  omega
theorem at_yx {w x y : Int} (x0 : 0 ≤ x) (x1 : x < w) (y0 : 0 ≤ y) : (((y * w + x).toNat : Nat) : Int) % w = x ∧ (((y * w + x).toNat : Nat) : Int) / w = y := by
  have : 0 ≤ y * w := Int.mul_nonneg y0 (by omega)
  rw [show (((y * w + x).toNat : Nat) : Int) = x + y * w by omega, Int.add_mul_emod_self_right, Int.add_mul_ediv_right _ _ (by omega), Int.emod_eq_of_lt x0 x1, Int.ediv_eq_zero_of_lt x0 x1, Int.zero_add]
  exact ⟨rfl, rfl⟩
theorem L_addWithin {σ : cdS} {n1 : Nat} {r : Int} {d : Int → Int → Int} (H : hOK σ n1 r d) {w h : Int} {F : Nat → Int} (G : gOK σ w h F) {X Y : Int} (x1 : 0 ≤ X) (x2 : X ≤ 100) (y1 : 0 ≤ Y) (y2 : Y ≤ 100) {Q : cdS → Prop}
    (hQ : ∀ σ', frG σ σ' → gOK σ' w h (fun i => F i + d ((i : Int) % w - X) ((i : Int) / w - Y)) → Q σ') : wp_X1_addWithin n1 (jI X) (jI Y) σ Q := by
  have h5 := H.1
  obtain ⟨w1, w2, h1, h2, s3, s4, hF⟩ := G
  have hb := wh_b w1 w2 h1 h2
  intro P3 P15 c3 c15
  have inner : ∀ (y : Int), 0 ≤ y → y < h → (∀ σ', frC 5 σ σ' → (∀ i : Nat, (i : Int) < w * h → σ'.1 5 i = jI (if (i : Int) < y * w + w then F i + d ((i : Int) % w - X) ((i : Int) / w - Y) else F i)) → P3 (jI (y + 1)) σ') →
      ∀ (n : Nat) (x : Int) (σ' : cdS), x + n = w → 0 ≤ x → frC 5 σ σ' → (∀ i : Nat, (i : Int) < w * h → σ'.1 5 i = jI (if (i : Int) < y * w + x then F i + d ((i : Int) % w - X) ((i : Int) / w - Y) else F i)) → P15 (jI y) (jI x) σ' := by
    intro y y0 yh hn n
    have yw : 0 ≤ y * w := Int.mul_nonneg y0 (by omega)
    have yw2 : (y + 1) * w ≤ w * h := by rw [Int.mul_comm w h]; exact Int.mul_le_mul_of_nonneg_right (by omega) (by omega)
    rw [Int.add_mul, Int.one_mul] at yw2
    induction n with
    | zero =>
      intro x σ' hx x0 f hB
      refine c15 _ _ _ ?_
      rw [f.1 4 (by decide), s3]
      refine ⟨fun _ z hz => ?_, fun k => absurd ((jI_le (by omega) (by omega) (by omega) (by omega)).mpr (by omega)) k⟩
      rw [jI_n, jI_add] at hz
      rw [hz]
      rw [show x = w by omega] at hB
      exact hn σ' f hB
    | succ n ih =>
      intro x σ' hx x0 f hB
      have xw : x < w := by omega
      have at' := at_yx x0 xw y0
      refine c15 _ _ _ ?_
      rw [f.1 4 (by decide), s3, jI_mul, jI_add, jI_sub, jI_sub]
      have hin : vp_in (jI (y * w + x)) 361 := (jI_in (by omega) (by omega)).mpr (by omega)
      refine ⟨fun k => absurd ((jI_le (by omega) (by omega) (by omega) (by omega)).mp k) (by omega), fun _ => ⟨hin, h5, L_depthAt (hOK_G H (frC_G f)) (by omega) (by omega) (by omega) (by omega) ⟨hin, fun σ9 e9 z hz => ?_⟩⟩⟩
      rw [jI_n, jI_add] at hz
      rw [jI_cl (by omega) (by omega), hB _ (by omega), if_neg (by omega), jI_add] at e9
      rw [hz]
      refine ih (x + 1) σ9 (by omega) (by omega) (by rw [e9]; exact frC_U f) (fun i hi => ?_)
      rw [e9]
      by_cases q : i = (y * w + x).toNat
      · rw [q, cdU_s, if_pos (by omega), at'.1, at'.2]
      · rw [cdU_j q, hB i hi]
        by_cases q2 : (i : Int) < y * w + x
        · rw [if_pos q2, if_pos (by omega)]
        · rw [if_neg q2, if_neg (by omega)]
  have outer : ∀ (n : Nat) (y : Int) (σ' : cdS), y + n = h → 0 ≤ y → frC 5 σ σ' → (∀ i : Nat, (i : Int) < w * h → σ'.1 5 i = jI (if (i : Int) < y * w then F i + d ((i : Int) % w - X) ((i : Int) / w - Y) else F i)) → P3 (jI y) σ' := by
    intro n
    induction n with
    | zero =>
      intro y σ' hy y0 f hB
      refine c3 _ _ ?_
      rw [f.1 4 (by decide), s4]
      refine ⟨fun _ => hQ σ' (frC_G f) ⟨w1, w2, h1, h2, by rw [f.1 4 (by decide), s3], by rw [f.1 4 (by decide), s4], fun i hi => ?_⟩, fun k => absurd ((jI_le (by omega) (by omega) (by omega) (by omega)).mpr (by omega)) k⟩
      rw [hB i hi, if_pos (by rw [show y = h by omega, Int.mul_comm]; exact hi)]
    | succ n ih =>
      intro y σ' hy y0 f hB
      refine c3 _ _ ?_
      rw [f.1 4 (by decide), s4]
      refine ⟨fun k => absurd ((jI_le (by omega) (by omega) (by omega) (by omega)).mp k) (by omega), fun _ => ?_⟩
      refine inner y y0 (by omega) (fun σ2 f2 B2 => ih (y + 1) σ2 (by omega) (by omega) f2 (fun i hi => ?_)) w.toNat 0 σ' (by omega) (by omega) f (fun i hi => ?_)
      · rw [B2 i hi, Int.add_mul, Int.one_mul]
      · rw [hB i hi, Int.add_zero]
  refine outer h.toNat 0 σ (by omega) (by omega) frC_rf (fun i hi => ?_)
  rw [hF i hi, Int.zero_mul, if_neg (by omega)]
theorem L_shareWithin {σ : cdS} {n1 : Nat} {r : Int} {d : Int → Int → Int} (H : hOK σ n1 r d) {w h : Int} {F : Nat → Int} (G : gOK σ w h F) {X Y : Int} (x1 : 0 ≤ X) (x2 : X ≤ 100) (y1 : 0 ≤ Y) (y2 : Y ≤ 100) {Q : Int32 → Prop}
    (hQ : Q (jI (sm (w * h).toNat (fun i => d ((i : Int) % w - X) ((i : Int) / w - Y))))) : wp_X1_shareWithin n1 (jI X) (jI Y) σ Q := by
  have h5 := H.1
  obtain ⟨w1, w2, h1, h2, s3, s4, hF⟩ := G
  have hb := wh_b w1 w2 h1 h2
  intro P6 P18 c6 c18
  rw [s3] at c18
  rw [s4] at c6
  have inner : ∀ (y : Int), 0 ≤ y → y < h → P6 (jI (sm ((y + 1) * w).toNat (fun i => d ((i : Int) % w - X) ((i : Int) / w - Y)))) (jI (y + 1)) →
      ∀ (n : Nat) (x : Int), x + n = w → 0 ≤ x → P18 (jI (sm (y * w + x).toNat (fun i => d ((i : Int) % w - X) ((i : Int) / w - Y)))) (jI y) (jI x) := by
    intro y y0 yh hn n
    have yw : 0 ≤ y * w := Int.mul_nonneg y0 (by omega)
    rw [Int.add_mul, Int.one_mul] at hn
    induction n with
    | zero =>
      intro x hx x0
      refine c18 _ _ _ ⟨fun _ z hz => ?_, fun k => absurd ((jI_le (by omega) (by omega) (by omega) (by omega)).mpr (by omega)) k⟩
      rw [jI_n, jI_add] at hz
      rw [hz, show x = w by omega]
      exact hn
    | succ n ih =>
      intro x hx x0
      have at' := at_yx x0 (show x < w by omega) y0
      have ih := ih (x + 1) (by omega) (by omega)
      refine c18 _ _ _ ⟨fun k => absurd ((jI_le (by omega) (by omega) (by omega) (by omega)).mp k) (by omega), fun _ => ⟨h5, ?_⟩⟩
      rw [jI_sub, jI_sub]
      refine L_depthAt H (by omega) (by omega) (by omega) (by omega) (fun z hz v hv => ?_)
      rw [jI_add] at hz
      rw [jI_n, jI_add] at hv
      rw [hz, hv]
      rw [show (y * w + (x + 1)).toNat = (y * w + x).toNat + 1 by omega] at ih
      simp only [sm] at ih
      rw [at'.1, at'.2] at ih
      exact ih
  have outer : ∀ (n : Nat) (y : Int), y + n = h → 0 ≤ y → P6 (jI (sm (y * w).toNat (fun i => d ((i : Int) % w - X) ((i : Int) / w - Y)))) (jI y) := by
    intro n
    induction n with
    | zero =>
      intro y hy y0
      refine c6 _ _ ⟨fun _ => ?_, fun k => absurd ((jI_le (by omega) (by omega) (by omega) (by omega)).mpr (by omega)) k⟩
      rw [show y = h by omega, Int.mul_comm]
      exact hQ
    | succ n ih =>
      intro y hy y0
      refine c6 _ _ ⟨fun k => absurd ((jI_le (by omega) (by omega) (by omega) (by omega)).mp k) (by omega), fun _ => ?_⟩
      have := inner y y0 (by omega) (ih (y + 1) (by omega) (by omega)) w.toNat 0 (by omega) (by omega)
      rw [Int.add_zero] at this
      exact this
  have := outer h.toNat 0 (by omega) (by omega)
  rw [Int.zero_mul] at this
  exact this
theorem L_numberInField {i j : Int} {σ : cdS} {Q : Int32 → Prop} (hQ : Q (jI (i + 3 * j))) : wp_X5_numberInField (jI i) (jI j) σ Q := by
  unfold wp_X5_numberInField
  rw [jI_n, jI_mul, jI_add]
  exact hQ
/-- which heads stand -/
def std (m n : Int) (f : Int32) : Nat → Bool := fun k => decide ((k : Int) % 3 < m ∧ (k : Int) / 3 < n) && !gb f k
theorem L_layField {σ : cdS} {n1 : Nat} {r : Int} {d : Int → Int → Int} (H : hOK σ n1 r d) {a b m n : Int} (a1 : 2 ≤ a) (a2 : a ≤ 9) (b1 : 2 ≤ b) (b2 : b ≤ 9) (m1 : m = 2 ∨ m = 3) (n0 : n = 2 ∨ n = 3) (f : Int32) {Q : cdS → Prop}
    (hQ : ∀ σ', frG σ σ' → gOK σ' ((m - 1) * a + 1) ((n - 1) * b + 1) (FF d a b ((m - 1) * a + 1) (std m n f)) → Q σ') : wp_X5_layField n1 (jI a) (jI b) (jI m) (jI n) f σ Q := by
  have wb : 3 ≤ (m - 1) * a + 1 ∧ (m - 1) * a + 1 ≤ 19 := by rcases m1 with rfl | rfl <;> omega
  have hb : 3 ≤ (n - 1) * b + 1 ∧ (n - 1) * b + 1 ≤ 19 := by rcases n0 with rfl | rfl <;> omega
  intro P26 P36 P74 c26 c36 c74
  simp only [jI_n, jI_sub, jI_mul, jI_add]
  refine L_clear (by omega) (by omega) (by omega) (by omega) (fun σ0 f0 G0 => ?_)
  -- the first t of the nine have been laid
  have inner : ∀ (j : Int), 0 ≤ j → j < n → (∀ σ', frG σ σ' → gOK σ' ((m - 1) * a + 1) ((n - 1) * b + 1) (fun i => sm (3 * j + 3).toNat (fun k => if std m n f k then fk d a b ((i : Int) % ((m - 1) * a + 1)) ((i : Int) / ((m - 1) * a + 1)) k else 0)) → P26 (jI (j + 1)) σ') →
      ∀ (t : Nat) (i0 : Int) (σ' : cdS), i0 + t = m → 0 ≤ i0 → frG σ σ' → gOK σ' ((m - 1) * a + 1) ((n - 1) * b + 1) (fun i => sm (3 * j + i0).toNat (fun k => if std m n f k then fk d a b ((i : Int) % ((m - 1) * a + 1)) ((i : Int) / ((m - 1) * a + 1)) k else 0)) → P36 (jI j) (jI i0) σ' := by
    intro j j0 jn hn t
    induction t with
    | zero =>
      intro i0 σ' hi i00 g G
      refine c36 _ _ _ ⟨fun _ z hz => ?_, fun k => absurd ((jI_le (by omega) (by omega) (by omega) (by omega)).mpr (by omega)) k⟩
      rw [jI_n, jI_add] at hz
      rw [hz]
      refine hn σ' g (gOK_ext G (fun i hi => ?_))
      rcases m1 with rfl | rfl
      · rw [show (3 * j + 3).toNat = (3 * j + i0).toNat + 1 by omega]
        simp only [sm]
        have : std 2 n f (3 * j + i0).toNat = false := by
          unfold std
          rw [show (((3 * j + i0).toNat : Nat) : Int) % 3 = 2 by omega]
          simp
        rw [this]
        simp
      · rw [show (3 * j + 3).toNat = (3 * j + i0).toNat by omega]
    | succ t ih =>
      intro i0 σ' hi i00 g G
      have k9 : (3 * j + i0).toNat < 9 := by omega
      have kn : i0 + 3 * j = ((3 * j + i0).toNat : Int) := by omega
      have sk : ∀ z, gb f (3 * j + i0).toNat = z → std m n f (3 * j + i0).toNat = !z := by
        intro z hz
        unfold std
        rw [hz, show (((3 * j + i0).toNat : Nat) : Int) % 3 = i0 by omega, show (((3 * j + i0).toNat : Nat) : Int) / 3 = j by omega]
        simp
        omega
      have go : ∀ σ2, frG σ σ2 → gOK σ2 ((m - 1) * a + 1) ((n - 1) * b + 1) (fun i => sm ((3 * j + i0).toNat + 1) (fun k => if std m n f k then fk d a b ((i : Int) % ((m - 1) * a + 1)) ((i : Int) / ((m - 1) * a + 1)) k else 0)) → P74 (jI j) (jI i0) σ2 := by
        intro σ2 g2 G2
        refine c74 _ _ _ (fun z hz => ?_)
        rw [jI_n, jI_add] at hz
        rw [hz]
        refine ih (i0 + 1) σ2 (by omega) (by omega) g2 ?_
        rw [show (3 * j + (i0 + 1)).toNat = (3 * j + i0).toNat + 1 by omega]
        exact G2
      refine c36 _ _ _ ⟨fun k => absurd ((jI_le (by omega) (by omega) (by omega) (by omega)).mp k) (by omega), fun _ => ?_⟩
      refine L_numberInField ?_
      rw [kn]
      refine L_hasFailed k9 (fun e => ⟨fun _ => go σ' g (gOK_ext G (fun i hi => ?_)), fun k => absurd k (by decide)⟩) (fun e => ⟨fun k => absurd rfl k, fun _ => ?_⟩)
      · simp only [sm]
        rw [sk _ e]
        simp
      · rw [jI_mul, jI_mul]
        have ia : 0 ≤ i0 * a ∧ i0 * a ≤ 18 := by
          rcases (show i0 = 0 ∨ i0 = 1 ∨ i0 = 2 by omega) with rfl | rfl | rfl <;> omega
        have jb : 0 ≤ j * b ∧ j * b ≤ 18 := by
          rcases (show j = 0 ∨ j = 1 ∨ j = 2 by omega) with rfl | rfl | rfl <;> omega
        refine L_addWithin (hOK_G H g) G (by omega) (by omega) (by omega) (by omega) (fun σ2 g2 G2 => go σ2 (frG_t g g2) (gOK_ext G2 (fun i hi => ?_)))
        simp only [sm]
        rw [sk _ e]
        simp only [Bool.not_false, if_true]
        unfold fk
        rw [show (((3 * j + i0).toNat : Nat) : Int) % 3 = i0 by omega, show (((3 * j + i0).toNat : Nat) : Int) / 3 = j by omega]
  have outer : ∀ (t : Nat) (j : Int) (σ' : cdS), j + t = n → 0 ≤ j → frG σ σ' → gOK σ' ((m - 1) * a + 1) ((n - 1) * b + 1) (fun i => sm (3 * j).toNat (fun k => if std m n f k then fk d a b ((i : Int) % ((m - 1) * a + 1)) ((i : Int) / ((m - 1) * a + 1)) k else 0)) → P26 (jI j) σ' := by
    intro t
    induction t with
    | zero =>
      intro j σ' hj j0 g G
      refine c26 _ _ ⟨fun _ => hQ σ' g (gOK_ext G (fun i hi => ?_)), fun k => absurd ((jI_le (by omega) (by omega) (by omega) (by omega)).mpr (by omega)) k⟩
      unfold FF ff
      rcases n0 with rfl | rfl
      · rw [show (3 * j).toNat = 6 by omega]
        have z : ∀ k, 6 ≤ k → k < 9 → std m 2 f k = false := by
          intro k k1 k2
          unfold std
          have : ¬ ((k : Int) / 3 < 2) := by omega
          simp [this]
        rw [show (9 : Nat) = 6 + 3 from rfl, sm_app, sm_z (n := 3) (fun k hk => by rw [z (6 + k) (by omega) (by omega)]; simp), Int.add_zero]
      · rw [show (3 * j).toNat = 9 by omega]
    | succ t ih =>
      intro j σ' hj j0 g G
      refine c26 _ _ ⟨fun k => absurd ((jI_le (by omega) (by omega) (by omega) (by omega)).mp k) (by omega), fun _ => ?_⟩
      refine inner j j0 (by omega) (fun σ2 g2 G2 => ih (j + 1) σ2 (by omega) (by omega) g2 ?_) m.toNat 0 σ' (by omega) (by omega) g ?_
      · rw [show 3 * (j + 1) = 3 * j + 3 by omega]
        exact G2
      · rw [show 3 * j + 0 = 3 * j by omega]
        exact G
  exact outer n.toNat 0 σ0 (by omega) (by omega) f0 G0
