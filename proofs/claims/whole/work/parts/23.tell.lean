/-! WHAT IS TOLD OF A ROW of n numbers F, each from 0 to 560. -/
def bR (n : Nat) (F : Nat → Int) : Prop := 1 ≤ n ∧ n ≤ 361 ∧ ∀ i, i < n → 0 ≤ F i ∧ F i ≤ 560
def am (F : Nat → Int) : Nat → Nat
  | 0 => 0
  | n + 1 => if F (am F n) ≤ F n then am F n else n
def mx (F : Nat → Int) : Nat → Int
  | 0 => 0
  | n + 1 => if mx F n < F n then F n else mx F n
def ab (z : Int) : Int := if 0 ≤ z then z else 0 - z
def eO (n : Nat) (F : Nat → Int) (k : Nat) : Int := sm k (fun i => ab (n * F i - sm n F))
def eA (n : Nat) (F : Nat → Int) : Int := n * sm n F - eO n F n
def eB (n : Nat) (F : Nat → Int) : Int := n * sm n F
def cn (n : Nat) (F : Nat → Int) (v : Int) : Int := sm n (fun i => if F i = v then 1 else 0)
def mi (a b : Int) : Int := if a < b then a else b
def dy (n : Nat) (F : Nat → Int) : Nat → Int → Int → Int
  | 0, _, _ => 0
  | k + 1, v, l => if l ≤ 0 then 0 else mi (cn n F v) l * v + dy n F k (v + 1) (l - mi (cn n F v) l)
def qu (n : Nat) : Int := ((n : Int) + 3) / 4
def DR (n : Nat) (F : Nat → Int) : Int := dy n F 561 0 (qu n)
def rq (A B C : Int) : Int := C.tdiv (Int.gcd A B)
def TL (n : Nat) (F : Nat → Int) (w : Int) : Int :=
  if w = 0 then n else if w = 1 then sm n F else if w = 2 then F (am F n) else if w = 3 then mx F n else if sm n F = 0 then -1000001
  else if w = 4 then rq (eA n F) (eB n F) (eA n F) else if w = 5 then rq (eA n F) (eB n F) (eB n F)
  else if w = 6 then rq (n * DR n F) (qu n * sm n F) (n * DR n F) else rq (n * DR n F) (qu n * sm n F) (qu n * sm n F)
theorem am_lt (F : Nat → Int) {n : Nat} (h : 1 ≤ n) : am F n < n := by
  induction n with
  | zero => omega
  | succ n ih =>
    simp only [am]
    split
    · by_cases hn : 1 ≤ n
      · have := ih hn; omega
      · have : n = 0 := by omega
        subst this
        simp [am]
    · omega
theorem mx_b {F : Nat → Int} {n : Nat} (h : ∀ i, i < n → 0 ≤ F i ∧ F i ≤ 560) : 0 ≤ mx F n ∧ mx F n ≤ 560 := by
  induction n with
  | zero => simp [mx]
  | succ n ih =>
    have h1 := ih (fun i hi => h i (by omega))
    have h2 := h n (by omega)
    simp only [mx]
    split <;> omega
theorem sm_bR {n : Nat} {F : Nat → Int} (h : bR n F) (k : Nat) (hk : k ≤ n) : 0 ≤ sm k F ∧ sm k F ≤ k * 560 := by
  have := sm_b (n := k) (f := F) (lo := 0) (hi := 560) (fun i hi => h.2.2 i (by omega))
  omega
theorem cn_b (n : Nat) (F : Nat → Int) (v : Int) : 0 ≤ cn n F v ∧ cn n F v ≤ n := by
  have := sm_b (n := n) (f := fun i => if F i = v then (1 : Int) else 0) (lo := 0) (hi := 1) (fun i _ => by split <;> omega)
  unfold cn
  omega
theorem ab_t {n : Nat} {F : Nat → Int} (h : bR n F) (i : Nat) (hi : i < n) : 0 ≤ ab (n * F i - sm n F) ∧ ab (n * F i - sm n F) ≤ 202160 ∧ -202160 ≤ n * F i - sm n F ∧ n * F i - sm n F ≤ 202160 ∧ 0 ≤ n * F i ∧ n * F i ≤ 202160 := by
  have h1 := sm_bR h n (Nat.le_refl n)
  have h2 := h.2.2 i hi
  have h3 := h.2.1
  have h4 : 0 ≤ (n : Int) * F i := Int.mul_nonneg (by omega) h2.1
  have h5 : (n : Int) * F i ≤ 361 * 560 := Int.mul_le_mul (by omega) h2.2 h2.1 (by omega)
  unfold ab
  split <;> omega
theorem eO_b {n : Nat} {F : Nat → Int} (h : bR n F) (k : Nat) (hk : k ≤ n) : 0 ≤ eO n F k ∧ eO n F k ≤ k * 202160 := by
  have := sm_b (n := k) (f := fun i => ab (n * F i - sm n F)) (lo := 0) (hi := 202160) (fun i hi => by have := ab_t h i (by omega); omega)
  unfold eO
  omega
theorem nT_b {n : Nat} {F : Nat → Int} (h : bR n F) : 0 ≤ (n : Int) * sm n F ∧ (n : Int) * sm n F ≤ 72979760 := by
  have h1 := sm_bR h n (Nat.le_refl n)
  have h3 := h.2.1
  refine ⟨Int.mul_nonneg (by omega) h1.1, ?_⟩
  have : (n : Int) * sm n F ≤ 361 * 202160 := Int.mul_le_mul (by omega) (by omega) h1.1 (by omega)
  omega
theorem qu_b {n : Nat} {F : Nat → Int} (h : bR n F) : 1 ≤ qu n ∧ qu n ≤ 91 ∧ qu n ≤ n := by
  have h1 := h.1
  have h3 := h.2.1
  unfold qu
  omega
theorem mi_b {n : Nat} {F : Nat → Int} {v l : Int} (hl : 0 ≤ l) : 0 ≤ mi (cn n F v) l ∧ mi (cn n F v) l ≤ l := by
  have := cn_b n F v
  unfold mi
  split <;> omega
theorem dy_b (n : Nat) (F : Nat → Int) : ∀ (k : Nat) (v l : Int), 0 ≤ v → v + k ≤ 561 → 0 ≤ dy n F k v l ∧ (0 ≤ l → dy n F k v l ≤ l * 560) := by
  intro k
  induction k with
  | zero => intro v l _ _; simp only [dy]; omega
  | succ k ih =>
    intro v l hv hk
    simp only [dy]
    split
    · omega
    · rename_i hl
      have h1 := mi_b (n := n) (F := F) (v := v) (l := l) (by omega)
      have h2 := ih (v + 1) (l - mi (cn n F v) l) (by omega) (by omega)
      have h3 := h2.2 (by omega)
      have h4 : 0 ≤ mi (cn n F v) l * v := Int.mul_nonneg h1.1 hv
      have h5 : mi (cn n F v) l * v ≤ mi (cn n F v) l * 560 := Int.mul_le_mul_of_nonneg_left (by omega) h1.1
      rw [Int.sub_mul] at h3
      omega
theorem DR_b {n : Nat} {F : Nat → Int} (h : bR n F) : 0 ≤ DR n F ∧ DR n F ≤ 50960 ∧ 0 ≤ (n : Int) * DR n F ∧ (n : Int) * DR n F ≤ 18396560 := by
  have h1 := qu_b h
  have h2 := dy_b n F 561 0 (qu n) (by omega) (by omega)
  have h3 := h2.2 (by omega)
  have h4 := h.2.1
  unfold DR
  have h5 : (n : Int) * dy n F 561 0 (qu n) ≤ 361 * 50960 := Int.mul_le_mul (by omega) (by omega) h2.1 (by omega)
  refine ⟨h2.1, by omega, Int.mul_nonneg (by omega) h2.1, by omega⟩
theorem qT_b {n : Nat} {F : Nat → Int} (h : bR n F) : 0 ≤ qu n * sm n F ∧ qu n * sm n F ≤ 18396560 := by
  have h1 := sm_bR h n (Nat.le_refl n)
  have h3 := h.2.1
  have h4 := qu_b h
  refine ⟨Int.mul_nonneg (by omega) h1.1, ?_⟩
  have : qu n * sm n F ≤ 91 * 202160 := Int.mul_le_mul (by omega) (by omega) h1.1 (by omega)
  omega
-- the class
def frK (σ σ' : cdS) : Prop := (∀ a, a ≠ 6 → a ≠ 7 → σ'.1 a = σ.1 a) ∧ σ'.2 = σ.2
theorem frK_t {a b c : cdS} (h : frK a b) (k : frK b c) : frK a c := ⟨fun i u v => by rw [k.1 i u v, h.1 i u v], by rw [k.2, h.2]⟩
theorem frK_rf {σ : cdS} : frK σ σ := ⟨fun _ _ _ => rfl, rfl⟩
theorem gOK_K {σ σ' : cdS} {w h : Int} {F : Nat → Int} (G : gOK σ w h F) (f : frK σ σ') : gOK σ' w h F := by
  obtain ⟨a, b, c, d, s, t, k⟩ := G
  exact ⟨a, b, c, d, by rw [f.1 4 (by decide) (by decide)]; exact s, by rw [f.1 4 (by decide) (by decide)]; exact t, by rw [f.1 5 (by decide) (by decide)]; exact k⟩
theorem L_many {σ : cdS} {w h : Int} {F : Nat → Int} (G : gOK σ w h F) {Q : Int32 → Prop} (hQ : Q (jI ((w * h).toNat : Int))) : wp_X1_many σ Q := by
  obtain ⟨w1, w2, h1, h2, s, t, k⟩ := G
  have hb := wh_b w1 w2 h1 h2
  unfold wp_X1_many
  rw [s, t, jI_mul]
  rw [show (((w * h).toNat : Nat) : Int) = w * h by omega] at hQ
  exact hQ
theorem gOK_at {σ : cdS} {w h : Int} {F : Nat → Int} (G : gOK σ w h F) {i : Nat} (hi : i < (w * h).toNat) : σ.1 5 i = jI (F i) := G.2.2.2.2.2.2 i (by omega)
theorem L_total {σ : cdS} {w h : Int} {F : Nat → Int} (G : gOK σ w h F) (B : bR (w * h).toNat F) {Q : Int32 → Prop} (hQ : Q (jI (sm (w * h).toNat F))) : wp_X1_total σ Q := by
  have n1 := B.2.1
  intro P hP
  have key : ∀ (n i : Nat), i + n = (w * h).toNat → P (jI (sm i F)) (jI i) := by
    intro n
    induction n with
    | zero =>
      intro i hi
      refine hP _ _ (L_many G ⟨fun _ => ?_, fun k => absurd ((jI_le (by omega) (by omega) (by omega) (by omega)).mpr (by omega)) k⟩)
      rw [show i = (w * h).toNat by omega]
      exact hQ
    | succ n ih =>
      intro i hi
      have ih := ih (i + 1) (by omega)
      refine hP _ _ (L_many G ⟨fun k => absurd ((jI_le (by omega) (by omega) (by omega) (by omega)).mp k) (by omega), fun _ => ⟨(jI_in (by omega) (by omega)).mpr (by omega), fun x1 e1 x2 e2 => ?_⟩⟩)
      rw [jI_cl (by omega) (by omega), show ((i : Int)).toNat = i by omega, gOK_at G (by omega), jI_add] at e1
      rw [jI_n, jI_add] at e2
      rw [e1, e2]
      exact ih
  exact key (w * h).toNat 0 (by omega)
theorem L_driestPlace {σ : cdS} {w h : Int} {F : Nat → Int} (G : gOK σ w h F) (B : bR (w * h).toNat F) {Q : Int32 → Prop} (hQ : Q (jI (am F (w * h).toNat : Nat))) : wp_X1_driestPlace σ Q := by
  have n0 := B.1
  have n1 := B.2.1
  intro P P29 hP h29
  have key : ∀ (n i : Nat), i + n = (w * h).toNat → 1 ≤ i → P (jI (am F i : Nat)) (jI i) := by
    intro n
    induction n with
    | zero =>
      intro i hi i1
      refine hP _ _ (L_many G ⟨fun _ => ?_, fun k => absurd ((jI_le (by omega) (by omega) (by omega) (by omega)).mpr (by omega)) k⟩)
      rw [show i = (w * h).toNat by omega]
      exact hQ
    | succ n ih =>
      intro i hi i1
      have ih := ih (i + 1) (by omega) (by omega)
      have hm := am_lt F i1
      have go : ∀ m, am F (i + 1) = m → P29 (jI (m : Nat)) (jI i) := by
        intro m em
        refine h29 _ _ (fun z hz => ?_)
        rw [jI_n, jI_add] at hz
        rw [hz, ← em]
        exact ih
      refine hP _ _ (L_many G ⟨fun k => absurd ((jI_le (by omega) (by omega) (by omega) (by omega)).mp k) (by omega), fun _ => ⟨(jI_in (by omega) (by omega)).mpr (by omega), (jI_in (by omega) (by omega)).mpr (by omega), ?_⟩⟩)
      have b1 := B.2.2 i (by omega)
      have b2 := B.2.2 (am F i) (by omega)
      rw [jI_cl (by omega) (by omega), show ((am F i : Nat) : Int).toNat = am F i by omega, gOK_at G (by omega), jI_cl (by omega) (by omega), show ((i : Int)).toNat = i by omega, gOK_at G (by omega), jI_le (by omega) (by omega) (by omega) (by omega)]
      exact ⟨fun k => go _ (by simp only [am]; rw [if_pos k]), fun k => go _ (by simp only [am]; rw [if_neg k])⟩
  have := key ((w * h).toNat - 1) 1 (by omega) (by omega)
  rw [show am F 1 = 0 by simp [am]] at this
  exact this
theorem L_ggreatest {σ : cdS} {w h : Int} {F : Nat → Int} (G : gOK σ w h F) (B : bR (w * h).toNat F) {Q : Int32 → Prop} (hQ : Q (jI (mx F (w * h).toNat))) : wp_X1_greatest σ Q := by
  have n1 := B.2.1
  intro P hP
  have key : ∀ (n i : Nat), i + n = (w * h).toNat → P (jI (mx F i)) (jI i) := by
    intro n
    induction n with
    | zero =>
      intro i hi
      refine hP _ _ (L_many G ⟨fun _ => ?_, fun k => absurd ((jI_le (by omega) (by omega) (by omega) (by omega)).mpr (by omega)) k⟩)
      rw [show i = (w * h).toNat by omega]
      exact hQ
    | succ n ih =>
      intro i hi
      have ih := ih (i + 1) (by omega)
      have b1 := B.2.2 i (by omega)
      have b2 := mx_b (F := F) (n := i) (fun j hj => B.2.2 j (by omega))
      refine hP _ _ (L_many G ⟨fun k => absurd ((jI_le (by omega) (by omega) (by omega) (by omega)).mp k) (by omega), fun _ => ⟨(jI_in (by omega) (by omega)).mpr (by omega), fun x1 e1 x2 e2 => ?_⟩⟩)
      rw [jI_cl (by omega) (by omega), show ((i : Int)).toNat = i by omega, gOK_at G (by omega)] at e1
      rw [jI_n, jI_add] at e2
      rw [e1, e2]
      simp only [mx] at ih
      by_cases q : mx F i < F i
      · rw [if_pos ((jI_lt (by omega) (by omega) (by omega) (by omega)).mpr q)]
        rw [if_pos q] at ih
        exact ih
      · rw [if_neg (fun k => q ((jI_lt (by omega) (by omega) (by omega) (by omega)).mp k))]
        rw [if_neg q] at ih
        exact ih
  exact key (w * h).toNat 0 (by omega)
/-- Euclid's way in at most a hundred steps -/
theorem L_inCommon {σ : cdS} {x y : Nat} (hx : x < 2147483648) (hy : y < 2147483648) {Q : Int32 → Prop} (hQ : Q (jI (Nat.gcd x y : Nat))) : wp_X4_inCommon (jI x) (jI y) σ Q := by
  intro P hP
  have stop : ∀ (x s : Nat), s ≤ 100 → (x = Nat.gcd x 0 → Q (jI x)) → P (jI x) (jI (0 : Nat)) (jI s) := by
    intro x s hs hq
    refine hP _ _ _ ?_
    have hq := hq (by simp)
    exact ⟨fun _ => hq, fun _ => ⟨fun _ => hq, fun k => absurd rfl k⟩⟩
  have step : ∀ (x y s : Nat), x < 2147483648 → y < 2147483648 → 0 < y → s < 100 → P (jI y) (jI (x % y : Nat)) (jI (s + 1 : Nat)) → P (jI x) (jI y) (jI s) := by
    intro x y s hx hy y0 hs k
    have y1 : ¬ jI (y : Int) = 0 := by rw [jI_n, jI_eq (by omega) (by omega) (by omega) (by omega)]; omega
    refine hP _ _ _ ⟨fun q => absurd q (by rw [jI_n, jI_le (by omega) (by omega) (by omega) (by omega)]; omega), fun _ => ⟨fun q => absurd q y1, fun _ => ⟨y1, fun z hz w hw => ?_⟩⟩⟩
    rw [cdm_jP (by omega) (by omega) (by omega) (by omega)] at hz
    rw [jI_n, jI_add] at hw
    rw [hz, hw]
    exact k
  have key : ∀ (k : Nat) (x y s : Nat), x < 2147483648 → y < 2147483648 → y < 2 ^ k → s + 2 * k ≤ 100 → Nat.gcd x y = Nat.gcd x y → Q (jI (Nat.gcd x y : Nat)) → P (jI x) (jI y) (jI s) := by
    intro k
    induction k with
    | zero =>
      intro x y s hx hy hk hs _ hq
      have : y = 0 := by simpa using hk
      subst this
      exact stop x s (by omega) (fun e => by rw [Nat.gcd_zero_right] at hq; exact hq)
    | succ k ih =>
      intro x y s hx hy hk hs _ hq
      by_cases y0 : y = 0
      · subst y0
        exact stop x s (by omega) (fun e => by rw [Nat.gcd_zero_right] at hq; exact hq)
      · have ypos : 0 < y := Nat.pos_of_ne_zero y0
        have r1 := Nat.mod_lt x ypos
        have g1 : Nat.gcd x y = Nat.gcd y (x % y) := by rw [Nat.gcd_comm x y, Nat.gcd_rec y x, Nat.gcd_comm]
        refine step x y s hx hy ypos (by omega) ?_
        by_cases z0 : x % y = 0
        · rw [z0]
          rw [g1, z0, Nat.gcd_zero_right] at hq
          exact stop y (s + 1) (by omega) (fun _ => hq)
        · have zpos : 0 < x % y := Nat.pos_of_ne_zero z0
          have r2 := Nat.mod_lt y zpos
          have g2 : Nat.gcd y (x % y) = Nat.gcd (x % y) (y % (x % y)) := by rw [Nat.gcd_comm y, Nat.gcd_rec (x % y) y, Nat.gcd_comm]
          refine step y (x % y) (s + 1) hy (by omega) zpos (by omega) ?_
          have half : y % (x % y) < 2 ^ k := by
            have e := Nat.mod_add_div y (x % y)
            have d1 : 1 ≤ y / (x % y) := Nat.div_pos (by omega) zpos
            have d2 : x % y ≤ (x % y) * (y / (x % y)) := Nat.le_mul_of_pos_right _ d1
            rw [Nat.pow_succ] at hk
            omega
          refine ih (x % y) (y % (x % y)) (s + 1 + 1) (by omega) (by omega) half (by omega) rfl ?_
          rw [g1, g2] at hq
          exact hq
  exact key 31 x y 0 hx hy (by omega) (by omega) rfl hQ
theorem gcd_p {A B : Int} (hB : 0 < B) : 0 < (Int.gcd A B : Int) ∧ (Int.gcd A B : Int) ≤ B := by
  have h : Int.gcd A B ∣ B.natAbs := Nat.gcd_dvd_right _ _
  have h2 : 0 < Int.gcd A B := Nat.pos_of_ne_zero (fun e => by
    have := Int.gcd_eq_zero_iff.mp e
    omega)
  have h3 := Nat.le_of_dvd (by omega) h
  omega
theorem L_set {σ : cdS} {A B : Int} (a1 : -2147483647 ≤ A) (a2 : A < 2147483648) (b1 : 0 < B) (b2 : B < 2147483648) {Q : cdS → Prop} (hQ : ∀ σ', frK σ σ' → σ'.1 6 = σ.1 6 → σ'.1 7 0 = jI (rq A B A) → σ'.1 7 1 = jI (rq A B B) → Q σ') : wp_X4_set (jI A) (jI B) σ Q := by
  intro P17 _
  have e : (if 0 ≤ jI A then jI A else 0 - jI A) = jI (A.natAbs : Nat) := by
    rw [jI_n]
    by_cases q : 0 ≤ A
    · rw [if_pos ((jI_le (by omega) (by omega) (by omega) (by omega)).mpr q), show ((A.natAbs : Nat) : Int) = A by omega]
    · rw [if_neg (fun k => q ((jI_le (by omega) (by omega) (by omega) (by omega)).mp k)), jI_sub, show ((A.natAbs : Nat) : Int) = 0 - A by omega]
  have eb : jI B = jI ((B.natAbs : Nat) : Int) := by rw [show ((B.natAbs : Nat) : Int) = B by omega]
  have hg := gcd_p (A := A) b1
  have main : wp_X4_inCommon (jI (A.natAbs : Nat)) (jI (B.natAbs : Nat)) σ (fun r_1 => ((jI B ≤ 0 → P17 σ) ∧ (¬ (jI B ≤ 0) → ((0 < r_1 → ¬ r_1 = 0 ∧ ∀ σ_6 : cdS, σ_6 = cdU σ 7 0 (jI A / r_1) → ¬ r_1 = 0 ∧ ∀ σ_8 : cdS, σ_8 = cdU σ_6 7 1 (jI B / r_1) → Q σ_8) ∧ (¬ (0 < r_1) → P17 σ))))) := by
    refine L_inCommon (by omega) (by omega) ?_
    rw [show ((Nat.gcd A.natAbs B.natAbs : Nat) : Int) = (Int.gcd A B : Int) from rfl]
    have g0 : ¬ jI (Int.gcd A B : Int) = 0 := by rw [jI_n, jI_eq (by omega) (by omega) (by omega) (by omega)]; omega
    refine ⟨fun k => absurd k (by rw [jI_n, jI_le (by omega) (by omega) (by omega) (by omega)]; omega), fun _ => ⟨fun _ => ⟨g0, fun σ6 e6 => ⟨g0, fun σ8 e8 => ?_⟩⟩, fun k => absurd (by rw [jI_n, jI_lt (by omega) (by omega) (by omega) (by omega)]; omega) k⟩⟩
    rw [jI_div (by omega) (by omega) (by omega) (by omega)] at e6 e8
    refine hQ σ8 ⟨fun a u v => by rw [e8, cdU_ne v, e6, cdU_ne v], by rw [e8, e6]; rfl⟩ (by rw [e8, cdU_ne (by decide), e6, cdU_ne (by decide)]) ?_ ?_
    · rw [e8, cdU_j (by decide), e6, cdU_s]; rfl
    · rw [e8, cdU_s]; rfl
  rw [← eb, ← e] at main
  exact main
