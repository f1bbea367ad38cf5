/-! WHAT IS TOLD, as whole numbers. -/
def sm : Nat → (Nat → Int) → Int
  | 0, _ => 0
  | n + 1, f => sm n f + f n
theorem sm_c {n : Nat} {f g : Nat → Int} (h : ∀ i, i < n → f i = g i) : sm n f = sm n g := by
  induction n with
  | zero => rfl
  | succ n ih => simp only [sm]; rw [ih (fun i hi => h i (by omega)), h n (by omega)]
theorem sm_z {n : Nat} {f : Nat → Int} (h : ∀ i, i < n → f i = 0) : sm n f = 0 := by
  induction n with
  | zero => rfl
  | succ n ih => simp only [sm]; rw [ih (fun i hi => h i (by omega)), h n (by omega)]; rfl
theorem sm_a (n : Nat) (f g : Nat → Int) : sm n (fun i => f i + g i) = sm n f + sm n g := by
  induction n with
  | zero => rfl
  | succ n ih => simp only [sm]; rw [ih]; omega
theorem sm_b {n : Nat} {f : Nat → Int} {lo hi : Int} (h : ∀ i, i < n → lo ≤ f i ∧ f i ≤ hi) : n * lo ≤ sm n f ∧ sm n f ≤ n * hi := by
  induction n with
  | zero => simp [sm]
  | succ n ih =>
    have h1 := ih (fun i hi => h i (by omega))
    have h2 := h n (by omega)
    simp only [sm]
    rw [show ((n + 1 : Nat) : Int) * lo = n * lo + lo by rw [Int.natCast_add, Int.add_mul]; simp, show ((n + 1 : Nat) : Int) * hi = n * hi + hi by rw [Int.natCast_add, Int.add_mul]; simp]
    omega
theorem sm_app (n m : Nat) (f : Nat → Int) : sm (n + m) f = sm n f + sm m (fun j => f (n + j)) := by
  induction m with
  | zero => simp [sm]
  | succ m ih => rw [← Nat.add_assoc]; simp only [sm]; rw [ih]; omega
theorem sm_mul (n m : Nat) (f : Nat → Int) : sm (n * m) f = sm n (fun i => sm m (fun j => f (i * m + j))) := by
  induction n with
  | zero => simp [sm]
  | succ n ih => rw [Nat.succ_mul, sm_app, ih]; simp only [sm]
theorem sm_u {n k : Nat} (f : Nat → Int) (v : Int) (h : k < n) : sm n (fun i => if i = k then f i + v else f i) = sm n f + v := by
  induction n with
  | zero => omega
  | succ n ih =>
    simp only [sm]
    by_cases hk : k = n
    · subst hk
      rw [if_pos rfl, sm_c (g := f) (fun i hi => if_neg (by omega))]
      omega
    · rw [ih (by omega), if_neg (by omega)]
      omega
def S7 (f : Int → Int) : Int := f (-3) + f (-2) + f (-1) + f 0 + f 1 + f 2 + f 3
theorem S7_c {f g : Int → Int} (h : ∀ x, -3 ≤ x → x ≤ 3 → f x = g x) : S7 f = S7 g := by
  unfold S7
  rw [h (-3) (by omega) (by omega), h (-2) (by omega) (by omega), h (-1) (by omega) (by omega), h 0 (by omega) (by omega), h 1 (by omega) (by omega), h 2 (by omega) (by omega), h 3 (by omega) (by omega)]
theorem S7_a (f g : Int → Int) : S7 (fun x => f x + g x) = S7 f + S7 g := by
  simp only [S7]; omega
theorem S7_z : S7 (fun _ => 0) = 0 := by simp [S7]
/-- a run from -r to r is a run from -3 to 3 of what is 0 beyond -/
theorem S7_r {r : Int} {f : Int → Int} (r1 : 1 ≤ r) (r3 : r ≤ 3) (hz : ∀ x, (x < -r ∨ r < x) → f x = 0) : sm (2 * r + 1).toNat (fun i => f ((i : Int) - r)) = S7 f := by
  rcases (show r = 1 ∨ r = 2 ∨ r = 3 by omega) with rfl | rfl | rfl
  · have h1 := hz (-3) (by omega); have h2 := hz (-2) (by omega); have h3 := hz 3 (by omega); have h4 := hz 2 (by omega)
    simp [sm, S7, h1, h2, h3, h4]
  · have h1 := hz (-3) (by omega); have h3 := hz 3 (by omega)
    simp [sm, S7, h1, h3]
  · simp [sm, S7]
theorem S7_rev {r : Int} {f : Int → Int} (r1 : 1 ≤ r) (r3 : r ≤ 3) (hz : ∀ x, (x < -r ∨ r < x) → f x = 0) : sm (2 * r + 1).toNat (fun i => f (r - (i : Int))) = S7 f := by
  rcases (show r = 1 ∨ r = 2 ∨ r = 3 by omega) with rfl | rfl | rfl
  · have h1 := hz (-3) (by omega); have h2 := hz (-2) (by omega); have h3 := hz 3 (by omega); have h4 := hz 2 (by omega)
    simp [sm, S7, h1, h2, h3, h4]; omega
  · have h1 := hz (-3) (by omega); have h3 := hz 3 (by omega)
    simp [sm, S7, h1, h3]; omega
  · simp [sm, S7]; omega
-- a head
def TH (d : Int → Int → Int) : Int := S7 (fun y => S7 (fun x => d x y))
noncomputable def cIf (p : Prop) (a b : Int) : Int := @ite _ p (Classical.propDecidable p) a b
theorem cIf_p {p : Prop} {a b : Int} (h : p) : cIf p a b = a := by unfold cIf; exact if_pos h
theorem cIf_n {p : Prop} {a b : Int} (h : ¬ p) : cIf p a b = b := by unfold cIf; exact if_neg h
def tq (d : Int → Int → Int) (q x y : Int) : Int := if q = 1 then d y (-x) else if q = 2 then d (-x) (-y) else if q = 3 then d (-y) x else d x y
def smQ (d : Int → Int → Int) (q : Int) : Prop := ∀ x y, d x y = tq d q x y
def smM (d : Int → Int → Int) : Prop := ∀ x y, d x y = d (-x) y
noncomputable def LT (d : Int → Int → Int) : Int := cIf (smQ d 1) 1 (cIf (smQ d 2) 2 (cIf (smQ d 3) 3 4))
def isMx (d : Int → Int → Int) (M : Int) : Prop := (∀ x y, d x y ≤ M) ∧ (M = 0 ∨ ∃ x y, d x y = M)
theorem isMx_u {d : Int → Int → Int} (h0 : ∀ x y, 0 ≤ d x y) {M N : Int} (h1 : isMx d M) (h2 : isMx d N) : M = N := by
  have m0 : 0 ≤ M := Int.le_trans (h0 0 0) (h1.1 0 0)
  have n0 : 0 ≤ N := Int.le_trans (h0 0 0) (h2.1 0 0)
  have a : M ≤ N := by
    rcases h1.2 with h | ⟨x, y, h⟩
    · omega
    · have := h2.1 x y; omega
  have b : N ≤ M := by
    rcases h2.2 with h | ⟨x, y, h⟩
    · omega
    · have := h1.1 x y; omega
  omega
noncomputable def MX (d : Int → Int → Int) : Int := @dite _ (∃ M, isMx d M) (Classical.propDecidable _) (fun h => Classical.choose h) (fun _ => 0)
theorem MX_e {d : Int → Int → Int} (h0 : ∀ x y, 0 ≤ d x y) {M : Int} (h : isMx d M) : MX d = M := by
  unfold MX
  rw [dif_pos ⟨M, h⟩]
  exact isMx_u h0 (Classical.choose_spec (⟨M, h⟩ : ∃ M, isMx d M)) h
/-- what is told of a head: 0 to 4 -/
noncomputable def HT (r : Int) (d : Int → Int → Int) (w : Int) : Int := if w = 0 then 2 * r + 1 else if w = 1 then TH d else if w = 2 then MX d else if w = 3 then LT d else cIf (smM d) 1 0
theorem smQ_in {r : Int} {d : Int → Int → Int} (H : dOK r d) {R : Int} (hR : r ≤ R) {q : Int} (h : ∀ x y, -R ≤ x → x ≤ R → -R ≤ y → y ≤ R → d x y = tq d q x y) : smQ d q := by
  obtain ⟨-, -, hz, -⟩ := H
  intro x y
  by_cases hx : -R ≤ x ∧ x ≤ R ∧ -R ≤ y ∧ y ≤ R
  · exact h x y hx.1 hx.2.1 hx.2.2.1 hx.2.2.2
  · rw [hz x y (by omega)]
    unfold tq
    split
    · rw [hz _ _ (by omega)]
    · split
      · rw [hz _ _ (by omega)]
      · split
        · rw [hz _ _ (by omega)]
        · rw [hz _ _ (by omega)]
theorem smM_in {r : Int} {d : Int → Int → Int} (H : dOK r d) {R : Int} (hR : r ≤ R) (h : ∀ x y, -R ≤ x → x ≤ R → -R ≤ y → y ≤ R → d x y = d (-x) y) : smM d := by
  obtain ⟨-, -, hz, -⟩ := H
  intro x y
  by_cases hx : -R ≤ x ∧ x ≤ R ∧ -R ≤ y ∧ y ≤ R
  · exact h x y hx.1 hx.2.1 hx.2.2.1 hx.2.2.2
  · rw [hz x y (by omega), hz _ _ (by omega)]
