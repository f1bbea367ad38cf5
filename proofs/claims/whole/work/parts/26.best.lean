/-! BEST. A best so far: layout (-1000001: none), a, b, and EVEN of it, above and below. -/
theorem FT_R {d1 d2 : Int → Int → Int} {r1 r2 : Int} (D1 : dOK r1 d1) (D2 : dOK r2 d2) {lay a b w h : Int} (a1 : 2 ≤ a) (a2 : a ≤ 9) (b1 : 2 ≤ b) (b2 : b ≤ 9) (w1 : 1 ≤ w) (w2 : w ≤ 19) (h1 : 1 ≤ h) (h2 : h ≤ 19) : bR (w * h).toNat (FT d1 d2 lay a b w) := by
  have hb := wh_b w1 w2 h1 h2
  exact ⟨by omega, by omega, fun i _ => GR_b a1 a2 b1 b2 D1.2.2.2 D2.2.2.2⟩
theorem hh_b {lay b : Int} (b1 : 2 ≤ b) (b2 : b ≤ 9) : 2 ≤ hh lay b ∧ hh lay b ≤ 18 := by unfold hh; split <;> omega
abbrev cdB : Type := Int × Int × Int × Int × Int
def zB (p : cdB) (A B : Int) : Int := A * p.2.2.2.2 - p.2.2.2.1 * B
def btr (p : cdB) (a b A B : Int) : Prop := p.1 = -1000001 ∨ 0 < zB p A B ∨ (zB p A B = 0 ∧ (p.2.1 * p.2.2.1 < a * b ∨ (a * b = p.2.1 * p.2.2.1 ∧ a < p.2.1)))
noncomputable def bup (p : cdB) (lay a b A B : Int) : cdB := @ite _ (btr p a b A B) (Classical.propDecidable _) (lay, a, b, A, B) p
noncomputable def bst (d : Int → Int → Int) (need : Int) (p : cdB) (lay a b : Int) : cdB :=
  if TH d ≤ 0 ∨ TH d < need * a * b then p else bup p lay a b (eA (a * hh lay b).toNat (FT d d lay a b a)) (eB (a * hh lay b).toNat (FT d d lay a b a))
noncomputable def bs (d : Int → Int → Int) (need : Int) : Nat → cdB
  | 0 => (-1000001, 0, 0, 0, 1)
  | k + 1 => bst d need (bs d need k) ((k : Int) / 64) (2 + (k : Int) / 8 % 8) (2 + (k : Int) % 8)
def bOK (p : cdB) (m : Int) : Prop := p.1 = -1000001 ∨ (0 ≤ p.1 ∧ p.1 ≤ m ∧ m ≤ 1 ∧ 2 ≤ p.2.1 ∧ p.2.1 ≤ 9 ∧ 2 ≤ p.2.2.1 ∧ p.2.2.1 ≤ 9 ∧ -72979760 ≤ p.2.2.2.1 ∧ p.2.2.2.1 ≤ 72979760 ∧ 0 < p.2.2.2.2 ∧ p.2.2.2.2 ≤ 72979760)
def cB (σ : cdS) (p : cdB) : Prop := (p.1 = -1000001 → σ.1 8 0 = jI 0) ∧ (¬ p.1 = -1000001 → σ.1 8 0 = jI 1 ∧ σ.1 8 1 = jI p.1 ∧ σ.1 8 2 = jI p.2.1 ∧ σ.1 8 3 = jI p.2.2.1 ∧ σ.1 8 4 = jI (rq p.2.2.2.1 p.2.2.2.2 p.2.2.2.1) ∧ σ.1 8 5 = jI (rq p.2.2.2.1 p.2.2.2.2 p.2.2.2.2))
def mB (σ : cdS) (p : cdB) : Prop := σ.1 19 14 = jI p.1 ∧ (¬ p.1 = -1000001 → σ.1 19 15 = jI p.2.1 ∧ σ.1 19 16 = jI p.2.2.1 ∧ σ.2 17 = jL p.2.2.2.1 ∧ σ.2 18 = jL p.2.2.2.2)
theorem rq_m {A B C : Int} (h : (Int.gcd A B : Int) ∣ C) : rq A B C * (Int.gcd A B : Int) = C := Int.tdiv_mul_cancel h
theorem rq_b {A B C : Int} (hB : 0 < B) (c1 : -72979760 ≤ C) (c2 : C ≤ 72979760) : -72979760 ≤ rq A B C ∧ rq A B C ≤ 72979760 := by
  have hg := gcd_p (A := A) hB
  have := td_le (A := C) (g := (Int.gcd A B : Int)) (by omega)
  unfold rq
  omega
theorem mul4 (x g v h : Int) : (x * g) * (v * h) = (g * h) * (x * v) := by
  rw [Int.mul_comm x g, Int.mul_comm v h, Int.mul_assoc, Int.mul_assoc]
  congr 1
  rw [← Int.mul_assoc, Int.mul_comm x h, Int.mul_assoc]
/-- by lowest terms: the same sign -/
theorem zB_s {p : cdB} {A B : Int} (hB : 0 < B) (hP : 0 < p.2.2.2.2) : ∃ k : Int, 0 < k ∧ zB p A B = k * (rq A B A * rq p.2.2.2.1 p.2.2.2.2 p.2.2.2.2 - rq p.2.2.2.1 p.2.2.2.2 p.2.2.2.1 * rq A B B) := by
  have g1 := gcd_p (A := A) hB
  have g2 := gcd_p (A := p.2.2.2.1) hP
  refine ⟨(Int.gcd A B : Int) * (Int.gcd p.2.2.2.1 p.2.2.2.2 : Int), Int.mul_pos g1.1 g2.1, ?_⟩
  have e1 := rq_m (A := A) (B := B) (C := A) (Int.gcd_dvd_left ..)
  have e2 := rq_m (A := A) (B := B) (C := B) (Int.gcd_dvd_right ..)
  have e3 := rq_m (A := p.2.2.2.1) (B := p.2.2.2.2) (C := p.2.2.2.1) (Int.gcd_dvd_left ..)
  have e4 := rq_m (A := p.2.2.2.1) (B := p.2.2.2.2) (C := p.2.2.2.2) (Int.gcd_dvd_right ..)
  have q1 : A * p.2.2.2.2 = (Int.gcd A B : Int) * (Int.gcd p.2.2.2.1 p.2.2.2.2 : Int) * (rq A B A * rq p.2.2.2.1 p.2.2.2.2 p.2.2.2.2) := by
    rw [← mul4, e1, e4]
  have q2 : p.2.2.2.1 * B = (Int.gcd A B : Int) * (Int.gcd p.2.2.2.1 p.2.2.2.2 : Int) * (rq p.2.2.2.1 p.2.2.2.2 p.2.2.2.1 * rq A B B) := by
    rw [Int.mul_comm (Int.gcd A B : Int), ← mul4, e3, e2]
  unfold zB
  rw [q1, q2, Int.mul_sub]
theorem pos_m {k z : Int} (hk : 0 < k) : (0 < k * z ↔ 0 < z) ∧ (k * z = 0 ↔ z = 0) := by
  refine ⟨⟨fun h => ?_, fun h => Int.mul_pos hk h⟩, ⟨fun h => ?_, fun h => by rw [h, Int.mul_zero]⟩⟩
  · rcases Int.lt_or_le 0 z with q | q
    · exact q
    · have := Int.mul_le_mul_of_nonneg_left q (Int.le_of_lt hk)
      rw [Int.mul_zero] at this
      omega
  · rcases Int.mul_eq_zero.mp h with q | q
    · omega
    · exact q
theorem mb81 {a b : Int} (a1 : 2 ≤ a) (a2 : a ≤ 9) (b1 : 2 ≤ b) (b2 : b ≤ 9) : 4 ≤ a * b ∧ a * b ≤ 81 := by
  have h1 : a * b ≤ 9 * 9 := Int.mul_le_mul a2 b2 (by omega) (by omega)
  have h2 : 2 * 2 ≤ a * b := Int.mul_le_mul a1 b1 (by omega) (by omega)
  omega
theorem pb_l {x y : Int} (x1 : -72979760 ≤ x) (x2 : x ≤ 72979760) (y1 : -72979760 ≤ y) (y2 : y ≤ 72979760) : -9000000000000000000 ≤ x * y ∧ x * y ≤ 9000000000000000000 := by
  have h : (x * y).natAbs ≤ 72979760 * 72979760 := by
    rw [Int.natAbs_mul]
    exact Nat.mul_le_mul (by omega) (by omega)
  omega
theorem L_isBetter {σ : cdS} {p : cdB} {lay a b A B : Int} (hc : cB σ p) (hp : bOK p lay) (pn : ¬ p.1 = -1000001) (a1 : 2 ≤ a) (a2 : a ≤ 9) (b1 : 2 ≤ b) (b2 : b ≤ 9) (A1 : -72979760 ≤ A) (A2 : A ≤ 72979760) (B1 : 0 < B) (B2 : B ≤ 72979760)
    (s0 : σ.1 7 0 = jI (rq A B A)) (s1 : σ.1 7 1 = jI (rq A B B)) {Q : Int32 → Prop} (h1 : btr p a b A B → Q 1) (h0 : ¬ btr p a b A B → Q 0) : wp_X0_isBetter (jI lay) (jI a) (jI b) σ Q := by
  obtain ⟨c0, c1, c2, c3, c4, c5⟩ := hc.2 pn
  rcases hp with hp | ⟨p0, p1, p2, p3, p4, p5, p6, p7, p8, p9, p10⟩
  · exact absurd hp pn
  obtain ⟨k, k0, kz⟩ := zB_s (p := p) (A := A) B1 p9
  have r1 := rq_b (A := A) (B := B) (C := A) B1 A1 A2
  have r2 := rq_b (A := A) (B := B) (C := B) B1 (by omega) B2
  have r3 := rq_b (A := p.2.2.2.1) (B := p.2.2.2.2) (C := p.2.2.2.1) p9 p7 p8
  have r4 := rq_b (A := p.2.2.2.1) (B := p.2.2.2.2) (C := p.2.2.2.2) p9 (by omega) p10
  have m1 := pb_l r1.1 r1.2 r4.1 r4.2
  have m2 := pb_l r3.1 r3.2 r2.1 r2.2
  have ab := mb81 a1 a2 b1 b2
  have pab := mb81 p3 p4 p5 p6
  have pm := pos_m (z := rq A B A * rq p.2.2.2.1 p.2.2.2.2 p.2.2.2.2 - rq p.2.2.2.1 p.2.2.2.2 p.2.2.2.1 * rq A B B) k0
  rw [← kz] at pm
  show ∀ x5 : Int64, _
  rw [s1, c4]
  intro x5 e5
  show ∀ x7 : Int64, _
  rw [s0, c5]
  intro x7 e7
  rw [jI_l (by omega) (by omega), jI_l (by omega) (by omega), jL_mul] at e5 e7
  rw [e5, e7, lg_cmp_j (by omega) (by omega) (by omega) (by omega), c1, c2, c3, jI_mul, jI_mul, show (0 : Int32) = jI 0 from rfl]
  have cases3 : ∀ z : Int, (if rq A B A * rq p.2.2.2.1 p.2.2.2.2 p.2.2.2.2 > rq p.2.2.2.1 p.2.2.2.2 p.2.2.2.1 * rq A B B then (1 : Int) else if rq A B A * rq p.2.2.2.1 p.2.2.2.2 p.2.2.2.2 = rq p.2.2.2.1 p.2.2.2.2 p.2.2.2.1 * rq A B B then 0 else -1) = z → (z = 1 ∧ 0 < zB p A B) ∨ (z = 0 ∧ zB p A B = 0) ∨ (z = -1 ∧ ¬ 0 < zB p A B ∧ ¬ zB p A B = 0) := by
    intro z hz
    rw [pm.1, pm.2]
    split at hz
    · omega
    · split at hz <;> omega
  generalize hg : (if rq A B A * rq p.2.2.2.1 p.2.2.2.2 p.2.2.2.2 > rq p.2.2.2.1 p.2.2.2.2 p.2.2.2.1 * rq A B B then (1 : Int) else if rq A B A * rq p.2.2.2.1 p.2.2.2.2 p.2.2.2.2 = rq p.2.2.2.1 p.2.2.2.2 p.2.2.2.1 * rq A B B then 0 else -1) = z
  have c := cases3 z hg
  have zb : -1 ≤ z ∧ z ≤ 1 := by omega
  rw [jI_eq (by omega) (by omega) (by omega) (by omega), jI_eq (by omega) (by omega) (by omega) (by omega), jI_eq (by omega) (by omega) (by omega) (by omega), jI_le (by omega) (by omega) (by omega) (by omega), jI_le (by omega) (by omega) (by omega) (by omega), jI_le (by omega) (by omega) (by omega) (by omega), jI_le (by omega) (by omega) (by omega) (by omega)]
  unfold btr at h1 h0
  refine ⟨fun z0 => ⟨fun eab => ⟨fun ea => ⟨fun _ => h0 (by omega), fun el => absurd p1 el⟩, fun ea => ⟨fun q => h0 (by omega), fun q => h1 (by omega)⟩⟩, fun eab => ⟨fun q => h0 (by omega), fun q => h1 (by omega)⟩⟩, fun z0 => ⟨fun q => h0 (by omega), fun q => h1 (by omega)⟩⟩
theorem bup_p {p : cdB} {lay a b A B : Int} (h : btr p a b A B) : bup p lay a b A B = (lay, a, b, A, B) := by unfold bup; exact if_pos h
theorem bup_n {p : cdB} {lay a b A B : Int} (h : ¬ btr p a b A B) : bup p lay a b A B = p := by unfold bup; exact if_neg h
theorem bOK_up {p : cdB} {lay a b A B : Int} (hp : bOK p lay) (l0 : 0 ≤ lay) (l1 : lay ≤ 1) (a1 : 2 ≤ a) (a2 : a ≤ 9) (b1 : 2 ≤ b) (b2 : b ≤ 9) (A1 : -72979760 ≤ A) (A2 : A ≤ 72979760) (B1 : 0 < B) (B2 : B ≤ 72979760) : bOK (bup p lay a b A B) lay := by
  by_cases h : btr p a b A B
  · rw [bup_p h]
    exact Or.inr ⟨l0, Int.le_refl _, l1, a1, a2, b1, b2, A1, A2, B1, B2⟩
  · rw [bup_n h]; exact hp
theorem L_weigh {σ : cdS} {p : cdB} {lay a b A B : Int} (hc : cB σ p) (hp : bOK p lay) (l0 : 0 ≤ lay) (l1 : lay ≤ 1) (a1 : 2 ≤ a) (a2 : a ≤ 9) (b1 : 2 ≤ b) (b2 : b ≤ 9) (A1 : -72979760 ≤ A) (A2 : A ≤ 72979760) (B1 : 0 < B) (B2 : B ≤ 72979760)
    (s0 : σ.1 7 0 = jI (rq A B A)) (s1 : σ.1 7 1 = jI (rq A B B)) {Q : cdS → Prop} (hQ : ∀ σ', frC 8 σ σ' → cB σ' (bup p lay a b A B) → Q σ') : wp_X0_weigh (jI lay) (jI a) (jI b) σ Q := by
  intro P20 c20
  have good : btr p a b A B → P20 σ := by
    intro h
    refine c20 _ (fun σ5 e5 σ6 e6 σ7 e7 σ8 e8 => ?_)
    show ∀ σ11 : cdS, _
    intro σ11 e11
    show ∀ σ14 : cdS, _
    intro σ14 e14
    have f8 : frC 8 σ σ8 := by rw [e8, e7, e6, e5]; exact frC_U (frC_U (frC_U (frC_U frC_rf)))
    have f11 : frC 8 σ σ11 := by rw [e11]; exact frC_U f8
    have f14 : frC 8 σ σ14 := by rw [e14]; exact frC_U f11
    rw [f8.1 7 (by decide), s0] at e11
    rw [f11.1 7 (by decide), s1] at e14
    refine hQ σ14 f14 ?_
    rw [bup_p h]
    refine ⟨fun q => ?_, fun _ => ⟨?_, ?_, ?_, ?_, ?_, ?_⟩⟩
    · have q : lay = -1000001 := q
      omega
    · rw [e14, cdU_j (by decide), e11, cdU_j (by decide), e8, cdU_j (by decide), e7, cdU_j (by decide), e6, cdU_j (by decide), e5, cdU_s]; rfl
    · rw [e14, cdU_j (by decide), e11, cdU_j (by decide), e8, cdU_j (by decide), e7, cdU_j (by decide), e6, cdU_s]
    · rw [e14, cdU_j (by decide), e11, cdU_j (by decide), e8, cdU_j (by decide), e7, cdU_s]
    · rw [e14, cdU_j (by decide), e11, cdU_j (by decide), e8, cdU_s]
    · rw [e14, cdU_j (by decide), e11, cdU_s]
    · rw [e14, cdU_s]
  by_cases pn : p.1 = -1000001
  · rw [hc.1 pn]
    exact ⟨fun _ => good (Or.inl pn), fun k => absurd rfl k⟩
  · rw [(hc.2 pn).1]
    refine ⟨fun k => absurd k (by decide), fun _ => L_isBetter hc hp pn a1 a2 b1 b2 A1 A2 B1 B2 s0 s1 (fun h => ⟨fun _ => good h, fun k => absurd k (by decide)⟩) (fun h => ⟨fun k => absurd rfl k, fun _ => hQ σ frC_rf ?_⟩)⟩
    rw [bup_n h]
    exact hc
