/-! BEST, by class and reference. -/
theorem bOK_w {p : cdB} {m m' : Int} (h : bOK p m) (h1 : m ≤ m') (h2 : m' ≤ 1) : bOK p m' := by
  rcases h with h | ⟨a, b, c, d⟩
  · exact Or.inl h
  · exact Or.inr ⟨a, by omega, h2, d⟩
theorem cand {r : Int} {d : Int → Int → Int} (D : dOK r d) (hT : 0 < TH d) {lay a b : Int} (l1 : lay = 0 ∨ lay = 1) (a1 : 2 ≤ a) (a2 : a ≤ 9) (b1 : 2 ≤ b) (b2 : b ≤ 9) :
    bR (a * hh lay b).toNat (FT d d lay a b a) ∧ 0 < sm (a * hh lay b).toNat (FT d d lay a b a) ∧ -72979760 ≤ eA (a * hh lay b).toNat (FT d d lay a b a) ∧ eA (a * hh lay b).toNat (FT d d lay a b a) ≤ 72979760 ∧ 0 < eB (a * hh lay b).toNat (FT d d lay a b a) ∧ eB (a * hh lay b).toNat (FT d d lay a b a) ≤ 72979760 := by
  have hb := hh_b (lay := lay) b1 b2
  have R : bR (a * hh lay b).toNat (FT d d lay a b a) := FT_R D D a1 a2 b1 b2 (by omega) (by omega) (by omega) (by omega)
  have s := FT_s (d := d) l1 a1 a2 b1 b2
  have sp : 0 < sm (a * hh lay b).toNat (FT d d lay a b a) := by
    rw [s]
    split <;> omega
  have nt := nT_b R
  have ob := eO_b R _ (Nat.le_refl _)
  have n1 := R.2.1
  have n0 := R.1
  have ep : 0 < ((a * hh lay b).toNat : Int) * sm (a * hh lay b).toNat (FT d d lay a b a) := Int.mul_pos (by omega) sp
  refine ⟨R, sp, ?_, ?_, ep, nt.2⟩
  · unfold eA; omega
  · unfold eA; omega
theorem lay_k {k : Nat} (h : k < 128) : ((k : Int) / 64 = 0 ∨ (k : Int) / 64 = 1) ∧ 2 ≤ 2 + (k : Int) / 8 % 8 ∧ 2 + (k : Int) / 8 % 8 ≤ 9 ∧ 2 ≤ 2 + (k : Int) % 8 ∧ 2 + (k : Int) % 8 ≤ 9 := by omega
theorem bs_ok {r : Int} {d : Int → Int → Int} (D : dOK r d) (need : Int) : ∀ (k : Nat), k ≤ 128 → ∀ m : Int, 0 ≤ m → m ≤ 1 → (k : Int) ≤ 64 * (m + 1) → bOK (bs d need k) m := by
  intro k
  induction k with
  | zero => intro _ m _ _ _; exact Or.inl rfl
  | succ k ih =>
    intro hk m m0 m1 hm
    have kk := lay_k (k := k) (by omega)
    have p := ih (by omega) ((k : Int) / 64) (by omega) (by omega) (by omega)
    simp only [bs]
    unfold bst
    by_cases h : TH d ≤ 0 ∨ TH d < need * (2 + (k : Int) / 8 % 8) * (2 + (k : Int) % 8)
    · rw [if_pos h]
      exact bOK_w p (by omega) m1
    · rw [if_neg h]
      have c := cand D (by omega) kk.1 kk.2.1 kk.2.2.1 kk.2.2.2.1 kk.2.2.2.2
      exact bOK_w (bOK_up p (by omega) (by omega) kk.2.1 kk.2.2.1 kk.2.2.2.1 kk.2.2.2.2 c.2.2.1 c.2.2.2.1 c.2.2.2.2.1 c.2.2.2.2.2) (by omega) m1
theorem bs_0 {d : Int → Int → Int} (need : Int) (h : TH d ≤ 0) : ∀ k, bs d need k = (-1000001, 0, 0, 0, 1) := by
  intro k
  induction k with
  | zero => rfl
  | succ k ih =>
    simp only [bs]
    unfold bst
    rw [if_pos (Or.inl h), ih]
def frS (σ σ' : cdS) : Prop := (∀ a, ¬ (4 ≤ a ∧ a ≤ 8) → σ'.1 a = σ.1 a) ∧ σ'.2 = σ.2
theorem frS_rf {σ : cdS} : frS σ σ := ⟨fun _ _ => rfl, rfl⟩
theorem frS_t {a b c : cdS} (h : frS a b) (k : frS b c) : frS a c := ⟨fun i u => by rw [k.1 i u, h.1 i u], by rw [k.2, h.2]⟩
theorem frS_G {a b : cdS} (h : frG a b) : frS a b := ⟨fun i u => h.1 i (by omega) (by omega), h.2⟩
theorem frS_K {a b : cdS} (h : frK a b) : frS a b := ⟨fun i u => h.1 i (by omega) (by omega), h.2⟩
theorem frS_8 {a b : cdS} (h : frC 8 a b) : frS a b := ⟨fun i u => h.1 i (by omega), h.2⟩
theorem hOK_S {σ σ' : cdS} {h : Nat} {r : Int} {d : Int → Int → Int} (H : hOK σ h r d) (f : frS σ σ') : hOK σ' h r d := by
  obtain ⟨a, b, c, e⟩ := H
  exact ⟨a, b, by rw [f.1 _ (by omega)]; exact c, by rw [f.1 _ (by omega)]; exact e⟩
theorem cB_fr {σ σ' : cdS} {p : cdB} (h : cB σ p) (e : σ'.1 8 = σ.1 8) : cB σ' p := by
  unfold cB
  rw [e]
  exact h
theorem n81 {need a b : Int} (n0 : 0 ≤ need) (n1 : need ≤ 99) (a1 : 2 ≤ a) (a2 : a ≤ 9) (b1 : 2 ≤ b) (b2 : b ≤ 9) : 0 ≤ need * a * b ∧ need * a * b ≤ 8019 := by
  have ab := mb81 a1 a2 b1 b2
  rw [Int.mul_assoc]
  refine ⟨Int.mul_nonneg n0 (by omega), ?_⟩
  have : need * (a * b) ≤ 99 * 81 := Int.mul_le_mul n1 ab.2 (by omega) (by omega)
  omega
theorem L_findBest {σ : cdS} {n1 : Nat} {r : Int} {d : Int → Int → Int} (H : hOK σ n1 r d) {need : Int} (d0 : 0 ≤ need) (d1 : need ≤ 99) {Q : cdS → Prop} (hQ : ∀ σ', frS σ σ' → cB σ' (bs d need 128) → Q σ') : wp_X5_findBest n1 (jI need) σ Q := by
  have D := H.2.1
  have tb := TH_b D
  intro P20 P29 P39 P91 c20 c29 c39 c91
  show ∀ σ2 : cdS, _
  intro σ2 e2
  have f2 : frC 8 σ σ2 := by rw [e2]; exact frC_U frC_rf
  have k0 : σ2.1 8 0 = jI 0 := by rw [e2, cdU_s]; rfl
  have H2 := hOK_S H (frS_8 f2)
  refine ⟨H.1, L_thrown H2 ?_⟩
  rw [show (0 : Int32) = jI 0 from rfl, jI_eq (by omega) (by omega) (by omega) (by omega)]
  refine ⟨fun tn => ?_, fun t0 => hQ σ2 (frS_8 f2) (by rw [bs_0 need (by omega)]; exact ⟨fun _ => k0, fun q => absurd rfl q⟩)⟩
  -- all candidates, in order
  have inn : ∀ (lay a : Int), (lay = 0 ∨ lay = 1) → 2 ≤ a → a ≤ 9 → (∀ σ', frS σ σ' → cB σ' (bs d need (64 * lay + 8 * (a - 2) + 8).toNat) → P29 (jI (TH d)) (jI lay) (jI (a + 1)) σ') →
      ∀ (n : Nat) (b : Int) (σ' : cdS), b + n = 10 → 2 ≤ b → frS σ σ' → cB σ' (bs d need (64 * lay + 8 * (a - 2) + (b - 2)).toNat) → P39 (jI (TH d)) (jI lay) (jI a) (jI b) σ' := by
    intro lay a l1 a1 a2 hn n
    induction n with
    | zero =>
      intro b σ' hb b1 f c
      refine c39 _ _ _ _ _ ?_
      simp only [jI_n, jI_neg, jI_add, jI_sub, jI_mul]
      refine ⟨fun _ z hz => ?_, fun k => absurd ((jI_lt (by omega) (by omega) (by omega) (by omega)).mpr (by omega)) k⟩
      rw [hz]
      refine hn σ' f ?_
      rw [show b = 10 by omega] at c
      exact c
    | succ n ih =>
      intro b σ' hb b1 f c
      have b2 : b ≤ 9 := by omega
      have nb := n81 d0 d1 a1 a2 b1 b2
      have ks : bs d need (64 * lay + 8 * (a - 2) + (b + 1 - 2)).toNat = bst d need (bs d need (64 * lay + 8 * (a - 2) + (b - 2)).toNat) lay a b := by
        rw [show (64 * lay + 8 * (a - 2) + (b + 1 - 2)).toNat = (64 * lay + 8 * (a - 2) + (b - 2)).toNat + 1 by omega]
        simp only [bs]
        congr 1 <;> omega
      have go : ∀ σ2, frS σ σ2 → cB σ2 (bst d need (bs d need (64 * lay + 8 * (a - 2) + (b - 2)).toNat) lay a b) → P91 (jI (TH d)) (jI lay) (jI a) (jI b) σ2 := by
        intro σ2 g2 k2
        refine c91 _ _ _ _ _ (fun z hz => ?_)
        rw [jI_n, jI_add] at hz
        rw [hz]
        refine ih (b + 1) σ2 (by omega) (by omega) g2 ?_
        rw [ks]
        exact k2
      refine c39 _ _ _ _ _ ?_
      simp only [jI_n, jI_neg, jI_add, jI_sub, jI_mul]
      refine ⟨fun k => absurd ((jI_lt (by omega) (by omega) (by omega) (by omega)).mp k) (by omega), fun _ => ?_⟩
      rw [jI_lt (by omega) (by omega) (by omega) (by omega)]
      refine ⟨fun q => go σ' f ?_, fun q => ?_⟩
      · unfold bst
        rw [if_pos (Or.inr q)]
        exact c
      · have hc := cand D (by omega) l1 a1 a2 b1 b2
        refine L_layTile2 (hOK_S H f) l1 a1 a2 b1 b2 (fun σ3 f3 G3 _ => ?_)
        refine L_even G3 hc.1 (by have := hc.2.1; omega) (fun σ4 f4 s0 s1 => ?_)
        have p := bs_ok D need (64 * lay + 8 * (a - 2) + (b - 2)).toNat (by omega) lay (by omega) (by omega) (by omega)
        have c4 : cB σ4 (bs d need (64 * lay + 8 * (a - 2) + (b - 2)).toNat) := cB_fr c (by rw [f4.1 8 (by decide) (by decide), f3.1 8 (by decide) (by decide)])
        refine L_weigh c4 p (by omega) (by omega) a1 a2 b1 b2 hc.2.2.1 hc.2.2.2.1 hc.2.2.2.2.1 hc.2.2.2.2.2 s0 s1 (fun σ5 f5 c5 => go σ5 (frS_t (frS_t (frS_t f (frS_G f3)) (frS_K f4)) (frS_8 f5)) ?_)
        unfold bst
        rw [if_neg (by omega)]
        exact c5
  have mid : ∀ (lay : Int), (lay = 0 ∨ lay = 1) → (∀ σ', frS σ σ' → cB σ' (bs d need (64 * lay + 64).toNat) → P20 (jI (TH d)) (jI (lay + 1)) σ') →
      ∀ (n : Nat) (a : Int) (σ' : cdS), a + n = 10 → 2 ≤ a → frS σ σ' → cB σ' (bs d need (64 * lay + 8 * (a - 2)).toNat) → P29 (jI (TH d)) (jI lay) (jI a) σ' := by
    intro lay l1 hn n
    induction n with
    | zero =>
      intro a σ' ha a1 f c
      refine c29 _ _ _ _ ?_
      simp only [jI_n, jI_neg, jI_add, jI_sub, jI_mul]
      refine ⟨fun _ z hz => ?_, fun k => absurd ((jI_lt (by omega) (by omega) (by omega) (by omega)).mpr (by omega)) k⟩
      rw [hz]
      refine hn σ' f ?_
      rw [show a = 10 by omega] at c
      exact c
    | succ n ih =>
      intro a σ' ha a1 f c
      refine c29 _ _ _ _ ?_
      simp only [jI_n, jI_neg, jI_add, jI_sub, jI_mul]
      refine ⟨fun k => absurd ((jI_lt (by omega) (by omega) (by omega) (by omega)).mp k) (by omega), fun _ => ?_⟩
      refine inn lay a l1 a1 (by omega) (fun σ2 g2 k2 => ih (a + 1) σ2 (by omega) (by omega) g2 ?_) 8 2 σ' (by omega) (by omega) f ?_
      · rw [show 64 * lay + 8 * (a + 1 - 2) = 64 * lay + 8 * (a - 2) + 8 by omega]
        exact k2
      · rw [show 64 * lay + 8 * (a - 2) + (2 - 2) = 64 * lay + 8 * (a - 2) by omega]
        exact c
  have one : ∀ (lay : Int), (lay = 0 ∨ lay = 1) → ∀ σ', frS σ σ' → cB σ' (bs d need (64 * lay).toNat) → (∀ σ', frS σ σ' → cB σ' (bs d need (64 * lay + 64).toNat) → P20 (jI (TH d)) (jI (lay + 1)) σ') → P20 (jI (TH d)) (jI lay) σ' := by
    intro lay l1 σ' f c hn
    refine c20 _ _ _ ?_
    simp only [jI_n, jI_neg, jI_add, jI_sub, jI_mul]
    refine ⟨fun k => absurd ((jI_lt (by omega) (by omega) (by omega) (by omega)).mp k) (by omega), fun _ => mid lay l1 hn 8 2 σ' (by omega) (by omega) f ?_⟩
    rw [show 64 * lay + 8 * (2 - 2) = 64 * lay by omega]
    exact c
  refine one 0 (Or.inl rfl) σ2 (frS_8 f2) ⟨fun _ => k0, fun q => absurd rfl q⟩ (fun σ3 f3 c3 => one 1 (Or.inr rfl) σ3 f3 c3 (fun σ4 f4 c4 => ?_))
  refine c20 _ _ _ ?_
  simp only [jI_n, jI_neg, jI_add, jI_sub, jI_mul]
  exact ⟨fun _ => hQ σ4 f4 c4, fun k => absurd ((jI_lt (by omega) (by omega) (by omega) (by omega)).mpr (by omega)) k⟩
/-- what is told of the best -/
noncomputable def BT (d : Int → Int → Int) (need w : Int) : Int :=
  if (bs d need 128).1 = -1000001 then -1000001 else if w = 0 then (bs d need 128).1 else if w = 1 then (bs d need 128).2.1 else if w = 2 then (bs d need 128).2.2.1
  else if w = 3 then rq (bs d need 128).2.2.2.1 (bs d need 128).2.2.2.2 (bs d need 128).2.2.2.1 else rq (bs d need 128).2.2.2.1 (bs d need 128).2.2.2.2 (bs d need 128).2.2.2.2
theorem L_btell {σ : cdS} {d : Int → Int → Int} {need w : Int} (c : cB σ (bs d need 128)) (w0 : 0 ≤ w) (w4 : w ≤ 4) {Q : Int32 → Prop} (hQ : Q (jI (BT d need w))) : wp_X0_tell (jI w) σ Q := by
  unfold BT at hQ
  unfold wp_X0_tell
  by_cases pn : (bs d need 128).1 = -1000001
  · rw [if_pos pn] at hQ
    rw [c.1 pn]
    exact ⟨fun k => absurd rfl k, fun _ => hQ⟩
  · rw [if_neg pn] at hQ
    obtain ⟨c0, c1, c2, c3, c4, c5⟩ := c.2 pn
    rw [c0, c1, c2, c3, c4, c5]
    refine ⟨fun _ => ?_, fun k => absurd k (by decide)⟩
    simp only [jI_n, jI_neg, jI_add, jI_sub, jI_mul]
    rw [jI_eq (by omega) (by omega) (by omega) (by omega), jI_eq (by omega) (by omega) (by omega) (by omega), jI_eq (by omega) (by omega) (by omega) (by omega), jI_eq (by omega) (by omega) (by omega) (by omega), jI_eq (by omega) (by omega) (by omega) (by omega)]
    refine ⟨fun e0 => ?_, fun e0 => ⟨fun e1 => ?_, fun e1 => ⟨fun e2 => ?_, fun e2 => ⟨fun e3 => ?_, fun e3 => ⟨fun e4 => ?_, fun e4 => absurd e4 (by omega)⟩⟩⟩⟩⟩
    · rw [if_pos e0] at hQ; exact hQ
    · rw [if_neg e0, if_pos e1] at hQ; exact hQ
    · rw [if_neg e0, if_neg e1, if_pos e2] at hQ; exact hQ
    · rw [if_neg e0, if_neg e1, if_neg e2, if_pos e3] at hQ; exact hQ
    · rw [if_neg e0, if_neg e1, if_neg e2, if_neg e3] at hQ; exact hQ
-- the reference
theorem cmp_p {a : Int} (a1 : -9223372036854775808 ≤ a) (a2 : a < 9223372036854775808) : 0 < lg_cmp (jL a) (0 : Int64) ↔ 0 < a := by
  rw [jL_n, lg_cmp_j a1 a2 (by omega) (by omega)]
  by_cases h : a > 0
  · rw [if_pos h]
    exact ⟨fun _ => h, fun _ => by decide⟩
  · rw [if_neg h]
    by_cases h2 : a = 0
    · rw [if_pos h2]
      exact ⟨fun k => absurd k (by decide), fun k => absurd k h⟩
    · rw [if_neg h2]
      exact ⟨fun k => absurd k (by decide), fun k => absurd k h⟩
theorem M_isBetter {σ : cdS} {p : cdB} {a b m : Int} {n : Nat} {F : Nat → Int} (K : lOK σ n F) (R : bR n F) (sp : 0 < sm n F) (hm : mB σ p) (hp : bOK p m) (a1 : 2 ≤ a) (a2 : a ≤ 9) (b1 : 2 ≤ b) (b2 : b ≤ 9) (A1 : -72979760 ≤ eA n F) (A2 : eA n F ≤ 72979760) (B1 : 0 < eB n F) (B2 : eB n F ≤ 72979760)
    {Q : Int32 → Prop} (h1 : btr p a b (eA n F) (eB n F) → Q 1) (h0 : ¬ btr p a b (eA n F) (eB n F) → Q 0) : wp_X6_isBetter (jI a) (jI b) σ Q := by
  intro P59 c59
  obtain ⟨m0, m1⟩ := hm
  have tb := sm_bR R _ (Nat.le_refl _)
  have n1 := R.2.1
  have pr : -1000001 ≤ p.1 ∧ p.1 ≤ 1 := by
    rcases hp with hp | hp
    · omega
    · omega
  rw [m0]
  simp only [jI_n, jI_neg]
  rw [jI_eq (by omega) (by omega) (by omega) (by omega)]
  refine ⟨fun pn => ?_, fun pn => h1 (Or.inl pn)⟩
  obtain ⟨q1, q2, q3, q4⟩ := m1 pn
  rcases hp with hp | ⟨p0, p1, p2, p3, p4, p5, p6, p7, p8, p9, p10⟩
  · exact absurd hp pn
  have ab := mb81 a1 a2 b1 b2
  have pab := mb81 p3 p4 p5 p6
  have z1 := pb_l A1 A2 (show -72979760 ≤ p.2.2.2.2 by omega) p10
  have z2 := pb_l p7 p8 (show -72979760 ≤ eB n F by omega) B2
  refine M_evenAbove K R (fun x3 e3 => ?_)
  rw [q3, q4, K.2.1, K.2.2.1, jI_l (by omega) (by omega), jI_l (by omega) (by omega), jL_mul, jL_mul, show (n : Int) * sm n F = eB n F from rfl, jL_mul, jL_sub, show eA n F * p.2.2.2.2 - p.2.2.2.1 * eB n F = zB p (eA n F) (eB n F) from rfl] at e3
  have zb : -9223372036854775808 ≤ zB p (eA n F) (eB n F) ∧ zB p (eA n F) (eB n F) < 9223372036854775808 := by
    unfold zB
    have : -72979760 * 72979760 * 2 ≤ eA n F * p.2.2.2.2 - p.2.2.2.1 * eB n F ∧ eA n F * p.2.2.2.2 - p.2.2.2.1 * eB n F ≤ 72979760 * 72979760 * 2 := by
      have u : (eA n F * p.2.2.2.2).natAbs ≤ 72979760 * 72979760 := by rw [Int.natAbs_mul]; exact Nat.mul_le_mul (by omega) (by omega)
      have v : (p.2.2.2.1 * eB n F).natAbs ≤ 72979760 * 72979760 := by rw [Int.natAbs_mul]; exact Nat.mul_le_mul (by omega) (by omega)
      omega
    omega
  have cz := cmp_0 (a := zB p (eA n F) (eB n F)) zb.1 zb.2
  have cp := cmp_p (a := zB p (eA n F) (eB n F)) zb.1 zb.2
  have fin : (¬ zB p (eA n F) (eB n F) = 0 ∨ ¬ a * b = p.2.1 * p.2.2.1) → P59 (jL (zB p (eA n F) (eB n F))) := by
    intro hor
    refine c59 _ ?_
    rw [cz.1, cp, q1, q2, jI_mul, jI_mul, jI_le (by omega) (by omega) (by omega) (by omega)]
    unfold btr at h1 h0
    exact ⟨fun u => h1 (by omega), fun u => ⟨fun v => h0 (by omega), fun v => ⟨fun w => h0 (by omega), fun w => h1 (by omega)⟩⟩⟩
  rw [e3, ← jI_n 0] 
  rw [show (OfNat.ofNat 0 : Int32) = 0 from rfl, cz.1, q1, q2, jI_mul, jI_mul, jI_eq (by omega) (by omega) (by omega) (by omega), jI_le (by omega) (by omega) (by omega) (by omega)]
  refine ⟨fun u => fin (Or.inl u), fun u => ⟨fun v => ?_, fun v => fin (Or.inr v)⟩⟩
  unfold btr at h1 h0
  exact ⟨fun w => h0 (by omega), fun w => h1 (by omega)⟩
