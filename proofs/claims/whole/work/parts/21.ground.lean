/-! GROUND at (x, y): of one head and the other, by turns. -/
def rg (e1 e2 : Int → Int → Int) (a fr x v : Int) (u : Int) : Int := if (x - u - fr) % a = 0 then (if ((x - u - fr) / a) % 2 = 0 then e1 u v else e2 u v) else 0
def RG (e1 e2 : Int → Int → Int) (a fr x v : Int) : Int := S7 (rg e1 e2 a fr x v)
def gr (d1 d2 : Int → Int → Int) (lay a b x y : Int) (v : Int) : Int := if (y - v) % b = 0 then (if ((y - v) / b) % 2 = 0 then RG d1 d2 a 0 x v else RG d2 d1 a (if lay = 1 then a / 2 else 0) x v) else 0
def GR (d1 d2 : Int → Int → Int) (lay a b x y : Int) : Int := S7 (gr d1 d2 lay a b x y)
theorem S7_7 (f : Int → Int) : sm 7 (fun i => f ((i : Int) - 3)) = S7 f := by simp [sm, S7]
theorem cdm_0 {z a : Int} (z1 : -2147483648 ≤ z) (z2 : z < 2147483648) (a1 : 0 < a) (a2 : a < 2147483648) : cdm (jI z) (jI a) = jI 0 ↔ z % a = 0 := by
  have h1 := Int.tmod_lt_of_pos z a1
  have h2 := Int.lt_tmod_of_pos z a1
  rw [cdm_j z1 z2 (by omega) a2, jI_eq (by omega) (by omega) (by omega) (by omega), tm_0]
theorem td_b {z a : Int} (z1 : -2147483647 ≤ z) (z2 : z < 2147483648) (a1 : 0 < a) : -2147483647 ≤ z.tdiv a ∧ z.tdiv a < 2147483648 := by
  have h := Int.natAbs_tdiv_le_natAbs z a
  omega
theorem M_rowGround {σ : cdS} {k1 k2 r1 r2 : Int} {e1 e2 : Int → Int → Int} (H1 : mOK σ k1 r1 e1) (H2 : mOK σ k2 r2 e2) {a fr x v : Int} (a1 : 2 ≤ a) (a2 : a ≤ 9) (f1 : 0 ≤ fr) (f2 : fr ≤ 9) (x1 : -1000 ≤ x) (x2 : x ≤ 1000) (v1 : -3 ≤ v) (v2 : v ≤ 3) {Q : Int32 → Prop}
    (hQ : Q (jI (RG e1 e2 a fr x v))) : wp_X6_rowGround (jI k1) (jI k2) (jI a) (jI fr) (jI x) (jI v) σ Q := by
  intro P7 P47 P57 c7 c47 c57
  have key : ∀ (n i : Nat), i + n = 7 → P7 (jI (sm i (fun i => rg e1 e2 a fr x v ((i : Int) - 3)))) (jI ((i : Int) - 3)) := by
    intro n
    induction n with
    | zero =>
      intro i hi
      refine c7 _ _ ?_
      simp only [jI_n, jI_neg, jI_add, jI_sub, jI_mul]
      refine ⟨fun _ => ?_, fun k => absurd ((jI_lt (by omega) (by omega) (by omega) (by omega)).mpr (by omega)) k⟩
      rw [show i = 7 by omega, S7_7]
      exact hQ
    | succ n ih =>
      intro i hi
      have ih := ih (i + 1) (by omega)
      have go : ∀ z, z = rg e1 e2 a fr x v ((i : Int) - 3) → P57 (jI (sm i (fun i => rg e1 e2 a fr x v ((i : Int) - 3)) + z)) (jI ((i : Int) - 3)) := by
        intro z hz
        refine c57 _ _ (fun q hq => ?_)
        rw [jI_n, jI_add] at hq
        simp only [sm] at ih
        rw [hq, hz, show (i : Int) - 3 + 1 = ((i + 1 : Nat) : Int) - 3 by omega]
        exact ih
      refine c7 _ _ ?_
      simp only [jI_n, jI_neg, jI_add, jI_sub, jI_mul]
      refine ⟨fun k => absurd ((jI_lt (by omega) (by omega) (by omega) (by omega)).mp k) (by omega), fun _ z hz => ⟨?_, ?_⟩⟩
      · rw [jI_eq (by omega) (by omega) (by omega) (by omega)]; omega
      have hb := td_b (z := x - ((i : Int) - 3) - fr) (a := a) (by omega) (by omega) (by omega)
      rw [hz, cdm_0 (by omega) (by omega) (by omega) (by omega)]
      refine ⟨fun k => ?_, fun k => ⟨?_, ?_⟩⟩
      · have := go 0 (by unfold rg; rw [if_neg k])
        rwa [Int.add_zero] at this
      · rw [jI_eq (by omega) (by omega) (by omega) (by omega)]; omega
      · rw [jI_div (by omega) (by omega) (by omega) (by omega), cdm_0 (by omega) (by omega) (by omega) (by omega), td_n k]
        refine ⟨fun k2 => c47 _ _ _ (M_depthAt H2 (by omega) (by omega) (by omega) (by omega) (fun q hq => ?_)), fun k2 => c47 _ _ _ (M_depthAt H1 (by omega) (by omega) (by omega) (by omega) (fun q hq => ?_))⟩
        · rw [jI_add] at hq
          rw [hq]
          exact go _ (by unfold rg; rw [if_pos k, if_neg k2])
        · rw [jI_add] at hq
          rw [hq]
          exact go _ (by unfold rg; rw [if_pos k, if_pos k2])
  exact key 7 0 rfl
theorem M_groundAt {σ : cdS} {k1 k2 r1 r2 : Int} {d1 d2 : Int → Int → Int} (H1 : mOK σ k1 r1 d1) (H2 : mOK σ k2 r2 d2) {lay a b x y : Int} (l1 : lay = 0 ∨ lay = 1) (a1 : 2 ≤ a) (a2 : a ≤ 9) (b1 : 2 ≤ b) (b2 : b ≤ 9) (x1 : -1000 ≤ x) (x2 : x ≤ 1000) (y1 : -1000 ≤ y) (y2 : y ≤ 1000) {Q : Int32 → Prop}
    (hQ : Q (jI (GR d1 d2 lay a b x y))) : wp_X6_groundAt (jI k1) (jI k2) (jI lay) (jI a) (jI b) (jI x) (jI y) σ Q := by
  intro P7 P42 P61 P62 P77 P87 P101 c7 c42 c61 c62 c77 c87 c101
  have key : ∀ (n i : Nat), i + n = 7 → P7 (jI (sm i (fun i => gr d1 d2 lay a b x y ((i : Int) - 3)))) (jI ((i : Int) - 3)) := by
    intro n
    induction n with
    | zero =>
      intro i hi
      refine c7 _ _ ?_
      simp only [jI_n, jI_neg, jI_add, jI_sub, jI_mul]
      refine ⟨fun _ => ?_, fun k => absurd ((jI_lt (by omega) (by omega) (by omega) (by omega)).mpr (by omega)) k⟩
      rw [show i = 7 by omega, S7_7]
      exact hQ
    | succ n ih =>
      intro i hi
      have ih := ih (i + 1) (by omega)
      have go : ∀ z, z = gr d1 d2 lay a b x y ((i : Int) - 3) → P101 (jI (sm i (fun i => gr d1 d2 lay a b x y ((i : Int) - 3)) + z)) (jI ((i : Int) - 3)) := by
        intro z hz
        refine c101 _ _ (fun q hq => ?_)
        rw [jI_n, jI_add] at hq
        simp only [sm] at ih
        rw [hq, hz, show (i : Int) - 3 + 1 = ((i + 1 : Nat) : Int) - 3 by omega]
        exact ih
      refine c7 _ _ ?_
      simp only [jI_n, jI_neg, jI_add, jI_sub, jI_mul]
      refine ⟨fun k => absurd ((jI_lt (by omega) (by omega) (by omega) (by omega)).mp k) (by omega), fun _ => ⟨?_, ?_⟩⟩
      · rw [jI_eq (by omega) (by omega) (by omega) (by omega)]; omega
      have hb := td_b (z := y - ((i : Int) - 3)) (a := b) (by omega) (by omega) (by omega)
      rw [cdm_0 (by omega) (by omega) (by omega) (by omega)]
      refine ⟨fun k => ?_, fun k => ⟨?_, ?_⟩⟩
      · have := go 0 (by unfold gr; rw [if_neg k])
        rwa [Int.add_zero] at this
      · rw [jI_eq (by omega) (by omega) (by omega) (by omega)]; omega
      · rw [jI_div (by omega) (by omega) (by omega) (by omega), cdm_0 (by omega) (by omega) (by omega) (by omega), td_n k]
        refine ⟨fun k2 => ?_, fun k2 => ?_⟩
        · -- even
          have fin : P62 (jI (sm i (fun i => gr d1 d2 lay a b x y ((i : Int) - 3)))) (jI ((i : Int) - 3)) (jI 0) (jI 0) := by
            refine c62 _ _ _ _ ⟨fun _ => c77 _ _ _ _ _ ⟨fun _ => c87 _ _ _ _ _ (M_rowGround H1 H2 a1 a2 (by omega) (by omega) x1 x2 (by omega) (by omega) (fun q hq => ?_)), fun k => absurd rfl k⟩, fun k => absurd rfl k⟩
            rw [jI_add] at hq
            rw [hq]
            exact go _ (by unfold gr; rw [if_pos k, if_pos k2])
          have f61 : P61 (jI (sm i (fun i => gr d1 d2 lay a b x y ((i : Int) - 3)))) (jI ((i : Int) - 3)) (jI 0) := c61 _ _ _ fin
          exact c42 _ _ _ ⟨fun _ => f61, fun _ => ⟨fun _ => f61, fun k => absurd rfl k⟩⟩
        · have fin : P62 (jI (sm i (fun i => gr d1 d2 lay a b x y ((i : Int) - 3)))) (jI ((i : Int) - 3)) (jI 1) (jI (if lay = 1 then a / 2 else 0)) := by
            have hfr : 0 ≤ (if lay = 1 then a / 2 else 0) ∧ (if lay = 1 then a / 2 else 0) ≤ 9 := by split <;> omega
            refine c62 _ _ _ _ ⟨fun k => absurd k (by decide), fun _ => c77 _ _ _ _ _ ⟨fun k => absurd k (by decide), fun _ => c87 _ _ _ _ _ (M_rowGround H2 H1 a1 a2 (by omega) (by omega) x1 x2 (by omega) (by omega) (fun q hq => ?_))⟩⟩
            rw [jI_add] at hq
            rw [hq]
            exact go _ (by unfold gr; rw [if_pos k, if_neg k2])
          refine c42 _ _ _ ?_
          simp only [jI_n, jI_neg, jI_add, jI_sub, jI_mul]
          rw [jI_eq (by omega) (by omega) (by omega) (by omega), jI_divP (by omega) (by omega) (by omega) (by omega)]
          refine ⟨fun k => ?_, fun k => ⟨fun k => absurd k (by decide), fun _ => ?_⟩⟩
          · rw [if_neg k] at fin
            exact c61 _ _ _ fin
          · rw [if_pos k] at fin
            exact fin
  exact key 7 0 rfl
-- the class's tile is that ground
theorem S7_2 {f g : Int → Int → Int} (h : ∀ u v, -3 ≤ u → u ≤ 3 → -3 ≤ v → v ≤ 3 → f u v = g u v) : S7 (fun v => S7 (fun u => f u v)) = S7 (fun v => S7 (fun u => g u v)) :=
  S7_c (fun v a b => S7_c (fun u c e => h u v c e a b))
def aq (d : Int → Int → Int) (w h x y : Int) (u v : Int) : Int := if (x - u) % w = 0 ∧ (y - v) % h = 0 then d u v else 0
theorem AW_pl {d : Int → Int → Int} {w h X Y x y : Int} (w1 : 1 ≤ w) (h1 : 1 ≤ h) : AW d w h X Y (pl w h x y).toNat = S7 (fun v => S7 (fun u => aq d w h (x - X) (y - Y) u v)) := by
  have hp := pl_b w1 h1 x y
  unfold AW
  refine S7_2 (fun u v _ _ _ _ => ?_)
  unfold aw aq
  rw [show (((pl w h x y).toNat : Nat) : Int) = pl w h x y by omega]
  simp only [pl_i w1 h1, show x - (X + u) = x - X - u by omega, show y - (Y + v) = y - Y - v by omega]
theorem two_b {b z : Int} (b1 : 2 ≤ b) (b2 : b ≤ 9) : (z % (2 * b) = 0 ↔ z % b = 0 ∧ (z / b) % 2 = 0) ∧ ((z - b) % (2 * b) = 0 ↔ z % b = 0 ∧ ¬ (z / b) % 2 = 0) := by
  rcases (show b = 2 ∨ b = 3 ∨ b = 4 ∨ b = 5 ∨ b = 6 ∨ b = 7 ∨ b = 8 ∨ b = 9 by omega) with rfl | rfl | rfl | rfl | rfl | rfl | rfl | rfl <;> omega
theorem GR_dd {d : Int → Int → Int} {lay a b x y : Int} : GR d d lay a b x y = S7 (fun v => S7 (fun u => if (y - v) % b = 0 then (if ((y - v) / b) % 2 = 0 then (if (x - u) % a = 0 then d u v else 0) else (if (x - u - (if lay = 1 then a / 2 else 0)) % a = 0 then d u v else 0)) else 0)) := by
  unfold GR
  refine S7_c (fun v _ _ => ?_)
  unfold gr RG
  split
  · split
    · refine S7_c (fun u _ _ => ?_)
      unfold rg
      rw [Int.sub_zero]
      split
      · split <;> rfl
      · rfl
    · refine S7_c (fun u _ _ => ?_)
      unfold rg
      generalize (if lay = 1 then a / 2 else 0) = fr
      split
      · split <;> rfl
      · rfl
  · exact S7_z.symm
theorem lay_sq {d : Int → Int → Int} {a b x y : Int} : S7 (fun v => S7 (fun u => aq d a b (x - 0) (y - 0) u v)) = GR d d 0 a b x y := by
  rw [GR_dd]
  refine S7_2 (fun u v _ _ _ _ => ?_)
  unfold aq
  rw [if_neg (show ¬ (0 : Int) = 1 by decide), Int.sub_zero, Int.sub_zero, Int.sub_zero]
  by_cases h1 : (y - v) % b = 0
  · rw [if_pos h1]
    by_cases h2 : (x - u) % a = 0
    · rw [if_pos ⟨h2, h1⟩, if_pos h2]; split <;> rfl
    · rw [if_neg (fun k => h2 k.1), if_neg h2]; split <;> rfl
  · rw [if_neg (fun k => h1 k.2), if_neg h1]
theorem lay_tri {d : Int → Int → Int} {a b x y : Int} (b1 : 2 ≤ b) (b2 : b ≤ 9) : S7 (fun v => S7 (fun u => aq d a (2 * b) (x - 0) (y - 0) u v)) + S7 (fun v => S7 (fun u => aq d a (2 * b) (x - a / 2) (y - b) u v)) = GR d d 1 a b x y := by
  rw [GR_dd, ← S7_a]
  refine S7_c (fun v v1 v2 => ?_)
  rw [← S7_a]
  refine S7_c (fun u u1 u2 => ?_)
  unfold aq
  rw [if_pos (show (1 : Int) = 1 from rfl), Int.sub_zero, Int.sub_zero, show y - b - v = y - v - b by omega, show x - a / 2 - u = x - u - a / 2 by omega]
  have k := two_b (z := y - v) b1 b2
  simp only [k.1, k.2]
  by_cases h1 : (y - v) % b = 0
  · rw [if_pos h1]
    by_cases h2 : ((y - v) / b) % 2 = 0
    · rw [if_pos h2, if_neg (show ¬ ((x - u - a / 2) % a = 0 ∧ (y - v) % b = 0 ∧ ¬ ((y - v) / b) % 2 = 0) from fun q => q.2.2 h2), Int.add_zero]
      by_cases h3 : (x - u) % a = 0
      · rw [if_pos h3, if_pos ⟨h3, h1, h2⟩]
      · rw [if_neg h3, if_neg (fun q => h3 q.1)]
    · rw [if_neg h2, if_neg (show ¬ ((x - u) % a = 0 ∧ (y - v) % b = 0 ∧ ((y - v) / b) % 2 = 0) from fun q => h2 q.2.2), Int.zero_add]
      by_cases h3 : (x - u - a / 2) % a = 0
      · rw [if_pos h3, if_pos ⟨h3, h1, h2⟩]
      · rw [if_neg h3, if_neg (fun q => h3 q.1)]
  · rw [if_neg h1, if_neg (fun q => h1 q.2.1), if_neg (fun q => h1 q.2.1)]; rfl
theorem lay_turns {d1 d2 : Int → Int → Int} {a b x y : Int} (a1 : 2 ≤ a) (a2 : a ≤ 9) (b1 : 2 ≤ b) (b2 : b ≤ 9) : S7 (fun v => S7 (fun u => aq d1 (2 * a) (2 * b) (x - 0) (y - 0) u v)) + S7 (fun v => S7 (fun u => aq d1 (2 * a) (2 * b) (x - a) (y - b) u v)) + S7 (fun v => S7 (fun u => aq d2 (2 * a) (2 * b) (x - a) (y - 0) u v)) + S7 (fun v => S7 (fun u => aq d2 (2 * a) (2 * b) (x - 0) (y - b) u v)) = GR d1 d2 0 a b x y := by
  unfold GR
  rw [← S7_a, ← S7_a, ← S7_a]
  refine S7_c (fun v v1 v2 => ?_)
  unfold gr RG
  have kb := two_b (z := y - v) b1 b2
  rw [← S7_a, ← S7_a, ← S7_a]
  have pw : ∀ u, aq d1 (2 * a) (2 * b) (x - 0) (y - 0) u v + aq d1 (2 * a) (2 * b) (x - a) (y - b) u v + aq d2 (2 * a) (2 * b) (x - a) (y - 0) u v + aq d2 (2 * a) (2 * b) (x - 0) (y - b) u v = if (y - v) % b = 0 then (if ((y - v) / b) % 2 = 0 then rg d1 d2 a 0 x v u else rg d2 d1 a 0 x v u) else 0 := by
    intro u
    have ka := two_b (z := x - u) a1 a2
    unfold aq rg
    rw [Int.sub_zero, Int.sub_zero, Int.sub_zero, show y - b - v = y - v - b by omega, show x - a - u = x - u - a by omega]
    simp only [kb.1, kb.2, ka.1, ka.2]
    by_cases h1 : (y - v) % b = 0 <;> by_cases h2 : ((y - v) / b) % 2 = 0 <;> by_cases h3 : (x - u) % a = 0 <;> by_cases h4 : ((x - u) / a) % 2 = 0 <;> simp [h1, h2, h3, h4]
  rw [S7_c (fun u _ _ => pw u), if_neg (show ¬ (0 : Int) = 1 by decide)]
  split
  · split <;> rfl
  · exact S7_z
theorem L_layTile {σ : cdS} {n1 : Nat} {r : Int} {d : Int → Int → Int} (H : hOK σ n1 r d) {lay a b : Int} (l1 : lay = 0 ∨ lay = 1) (a1 : 2 ≤ a) (a2 : a ≤ 9) (b1 : 2 ≤ b) (b2 : b ≤ 9) {Q : cdS → Prop}
    (hQ : ∀ σ' F, frG σ σ' → gOK σ' a (if lay = 1 then 2 * b else b) F → (∀ x y, F (pl a (if lay = 1 then 2 * b else b) x y).toNat = GR d d lay a b x y) → Q σ') : wp_X1_layTile n1 (jI lay) (jI a) (jI b) σ Q := by
  intro P16 c16
  simp only [jI_n, jI_neg, jI_add, jI_sub, jI_mul] at c16 ⊢
  have e1 : (jI lay = jI 1) ↔ lay = 1 := jI_eq (by omega) (by omega) (by omega) (by omega)
  rw [e1] at c16 ⊢
  rcases l1 with rfl | rfl
  · refine ⟨fun _ => c16 _ _ _ (L_clear (by omega) (by omega) (by omega) (by omega) (fun σ1 f1 G1 => L_addWrapped (hOK_G H f1) G1 (by omega) (by omega) (by omega) (by omega) (fun σ2 f2 G2 => ⟨fun _ => ?_, fun k => absurd k (by decide)⟩))), fun k => absurd k (by decide)⟩
    refine hQ σ2 _ (frG_t f1 f2) G2 (fun x y => ?_)
    show 0 + AW d a b 0 0 (pl a b x y).toNat = _
    rw [AW_pl (by omega) (by omega), Int.zero_add, lay_sq]
  · refine ⟨fun k => absurd rfl k, fun _ => c16 _ _ _ (L_clear (by omega) (by omega) (by omega) (by omega) (fun σ1 f1 G1 => L_addWrapped (hOK_G H f1) G1 (by omega) (by omega) (by omega) (by omega) (fun σ2 f2 G2 => ⟨fun k => absurd rfl k, fun _ => ?_⟩)))⟩
    rw [jI_divP (by omega) (by omega) (by omega) (by omega)]
    refine L_addWrapped (hOK_G H (frG_t f1 f2)) G2 (by omega) (by omega) (by omega) (by omega) (fun σ3 f3 G3 => hQ σ3 _ (frG_t (frG_t f1 f2) f3) G3 (fun x y => ?_))
    show 0 + AW d a (2 * b) 0 0 (pl a (2 * b) x y).toNat + AW d a (2 * b) (a / 2) b (pl a (2 * b) x y).toNat = _
    rw [AW_pl (by omega) (by omega), AW_pl (by omega) (by omega), Int.zero_add, lay_tri b1 b2]
theorem L_layInTurns {σ : cdS} {n1 n2 : Nat} {r1 r2 : Int} {d1 d2 : Int → Int → Int} (H1 : hOK σ n1 r1 d1) (H2 : hOK σ n2 r2 d2) {a b : Int} (a1 : 2 ≤ a) (a2 : a ≤ 9) (b1 : 2 ≤ b) (b2 : b ≤ 9) {Q : cdS → Prop}
    (hQ : ∀ σ' F, frG σ σ' → gOK σ' (2 * a) (2 * b) F → (∀ x y, F (pl (2 * a) (2 * b) x y).toNat = GR d1 d2 0 a b x y) → Q σ') : wp_X1_layInTurns n1 n2 (jI a) (jI b) σ Q := by
  unfold wp_X1_layInTurns
  simp only [jI_n, jI_neg, jI_add, jI_sub, jI_mul]
  refine L_clear (by omega) (by omega) (by omega) (by omega) (fun σ1 f1 G1 => L_addWrapped (hOK_G H1 f1) G1 (by omega) (by omega) (by omega) (by omega) (fun σ2 f2 G2 => ?_))
  have f12 := frG_t f1 f2
  refine L_addWrapped (hOK_G H1 f12) G2 (by omega) (by omega) (by omega) (by omega) (fun σ3 f3 G3 => ?_)
  have f13 := frG_t f12 f3
  refine L_addWrapped (hOK_G H2 f13) G3 (by omega) (by omega) (by omega) (by omega) (fun σ4 f4 G4 => ?_)
  have f14 := frG_t f13 f4
  refine L_addWrapped (hOK_G H2 f14) G4 (by omega) (by omega) (by omega) (by omega) (fun σ5 f5 G5 => ?_)
  refine hQ σ5 _ (frG_t f14 f5) G5 (fun x y => ?_)
  show 0 + AW d1 (2 * a) (2 * b) 0 0 (pl (2 * a) (2 * b) x y).toNat + AW d1 (2 * a) (2 * b) a b (pl (2 * a) (2 * b) x y).toNat + AW d2 (2 * a) (2 * b) a 0 (pl (2 * a) (2 * b) x y).toNat + AW d2 (2 * a) (2 * b) 0 b (pl (2 * a) (2 * b) x y).toNat = _
  rw [AW_pl (by omega) (by omega), AW_pl (by omega) (by omega), AW_pl (by omega) (by omega), AW_pl (by omega) (by omega), Int.zero_add, lay_turns a1 a2 b1 b2]
theorem L_wrappedAt {σ : cdS} {w h : Int} {F : Nat → Int} (G : gOK σ w h F) {x y : Int} (x1 : -2000000 ≤ x) (x2 : x ≤ 2000000) (y1 : -2000000 ≤ y) (y2 : y ≤ 2000000) {Q : Int32 → Prop} (hQ : Q (jI (F (pl w h x y).toNat))) : wp_X1_wrappedAt (jI x) (jI y) σ Q := by
  obtain ⟨w1, w2, h1, h2, s3, s4, hF⟩ := G
  have hp := pl_b w1 h1 x y
  have hb := wh_b w1 w2 h1 h2
  refine L_wrappedPlace w1 w2 h1 h2 s3 s4 x1 x2 y1 y2 ⟨(jI_in (by omega) (by omega)).mpr (by omega), ?_⟩
  rw [jI_cl (by omega) (by omega), hF _ (by omega)]
  exact hQ
