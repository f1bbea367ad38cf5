/-! BEST, by the reference. -/
def frM (σ σ' : cdS) : Prop := (∀ a, a ≠ 19 → a ≠ 23 → σ'.1 a = σ.1 a) ∧ (∀ j, j ≠ 11 → j ≠ 12 → j ≠ 14 → j ≠ 15 → j ≠ 16 → σ'.1 19 j = σ.1 19 j) ∧ σ'.2 19 = σ.2 19
theorem frM_rf {σ : cdS} : frM σ σ := ⟨fun _ _ _ => rfl, fun _ _ _ _ _ _ => rfl, rfl⟩
theorem frM_t {a b c : cdS} (h : frM a b) (k : frM b c) : frM a c := ⟨fun i u v => by rw [k.1 i u v, h.1 i u v], fun i u v w x y => by rw [k.2.1 i u v w x y, h.2.1 i u v w x y], by rw [k.2.2, h.2.2]⟩
theorem frM_L {a b : cdS} (h : frL a b) : frM a b := ⟨h.1, fun i u v _ _ _ => h.2.1 i u v, by rw [h.2.2]⟩
theorem mOK_M {σ σ' : cdS} {k r : Int} {d : Int → Int → Int} (H : mOK σ k r d) (f : frM σ σ') : mOK σ' k r d := by
  obtain ⟨a, b, c, e, g⟩ := H
  exact ⟨a, b, c, by rw [f.1 21 (by decide) (by decide)]; exact e, by rw [f.1 22 (by decide) (by decide)]; exact g⟩
theorem mB_L {σ σ' : cdS} {p : cdB} (h : mB σ p) (f : frL σ σ') : mB σ' p := by
  unfold mB
  rw [f.2.1 14 (by decide) (by decide), f.2.1 15 (by decide) (by decide), f.2.1 16 (by decide) (by decide), f.2.2]
  exact h
theorem need_n {T need a b lay : Int} (l1 : lay = 0 ∨ lay = 1) (a1 : 2 ≤ a) (b1 : 2 ≤ b) : ((if lay = 1 then 2 else 1) * T < need * ((a * hh lay b).toNat : Int) ↔ T < need * a * b) ∧ ((if lay = 1 then 2 else 1) * T ≤ 0 ↔ T ≤ 0) := by
  rcases l1 with rfl | rfl
  · have hn : 0 ≤ a * b := Int.mul_nonneg (by omega) (by omega)
    rw [if_neg (by decide), show hh 0 b = b from rfl, show (((a * b).toNat : Nat) : Int) = a * b by omega, Int.mul_assoc]
    omega
  · have hn : 0 ≤ a * (2 * b) := Int.mul_nonneg (by omega) (by omega)
    rw [if_pos rfl, show hh 1 b = 2 * b from rfl, show (((a * (2 * b)).toNat : Nat) : Int) = a * (2 * b) by omega]
    rw [show need * (a * (2 * b)) = 2 * (need * a * b) by rw [show a * (2 * b) = 2 * (a * b) by rw [← Int.mul_assoc, Int.mul_comm a 2, Int.mul_assoc], ← Int.mul_assoc, Int.mul_comm need 2, Int.mul_assoc, Int.mul_assoc]]
    omega
theorem M_layBest {σ : cdS} {k1 r : Int} {d : Int → Int → Int} (H : mOK σ k1 r d) {need : Int} (d0 : 0 ≤ need) (d1 : need ≤ 99) {Q : cdS → Prop} (hQ : ∀ σ', frM σ σ' → mB σ' (bs d need 128) → Q σ') : wp_X6_layBest (jI k1) (jI need) σ Q := by
  have D := H.2.2.1
  have tb := TH_b D
  intro P8 P123 c8 c123 σ1 e1
  have f1 : frM σ σ1 := by
    rw [e1]
    exact ⟨fun a u _ => by rw [cdU_ne u], fun j _ _ u _ _ => by rw [cdU_j u], rfl⟩
  have key : ∀ (n k : Nat) (σ' : cdS), k + n = 128 → frM σ σ' → mB σ' (bs d need k) → P8 (jI k) σ' := by
    intro n
    induction n with
    | zero =>
      intro k σ' hk f m
      refine c8 _ _ ?_
      simp only [jI_n]
      refine ⟨fun _ => hQ σ' f ?_, fun q => absurd ((jI_le (by omega) (by omega) (by omega) (by omega)).mpr (by omega)) q⟩
      rw [show 128 = k by omega]
      exact m
    | succ n ih =>
      intro k σ' hk f m
      have kk := lay_k (k := k) (by omega)
      have hb := hh_b (lay := (k : Int) / 64) kk.2.2.2.1 kk.2.2.2.2
      have go : ∀ σ2, frM σ σ2 → mB σ2 (bst d need (bs d need k) ((k : Int) / 64) (2 + (k : Int) / 8 % 8) (2 + (k : Int) % 8)) → P123 (jI k) σ2 := by
        intro σ2 g2 m2
        refine c123 _ _ (fun z hz => ?_)
        rw [jI_n, jI_add] at hz
        rw [hz]
        exact ih (k + 1) σ2 (by omega) g2 m2
      refine c8 _ _ ?_
      simp only [jI_n]
      refine ⟨fun q => absurd ((jI_le (by omega) (by omega) (by omega) (by omega)).mp q) (by omega), fun _ x4 e4 x5 e5 x6 e6 => ?_⟩
      rw [jI_divP (by omega) (by omega) (by omega) (by omega)] at e4
      rw [jI_divP (by omega) (by omega) (by omega) (by omega), cdm_jP (by omega) (by omega) (by omega) (by omega), jI_add] at e5
      rw [cdm_jP (by omega) (by omega) (by omega) (by omega), jI_add] at e6
      rw [e4, e5, e6]
      refine M_layLayout (mOK_M H f) kk.1 kk.2.1 kk.2.2.1 kk.2.2.2.1 kk.2.2.2.2 (fun σ7 f7 K7 => ?_)
      have R : bR _ (FT d d ((k : Int) / 64) (2 + (k : Int) / 8 % 8) (2 + (k : Int) % 8) (2 + (k : Int) / 8 % 8)) := FT_R D D kk.2.1 kk.2.2.1 kk.2.2.2.1 kk.2.2.2.2 (w := 2 + (k : Int) / 8 % 8) (h := hh ((k : Int) / 64) (2 + (k : Int) % 8)) (by omega) (by omega) (by omega) (by omega)
      have n1 := R.2.1
      have sb := sm_bR R _ (Nat.le_refl _)
      have s := FT_s (d := d) kk.1 kk.2.1 kk.2.2.1 kk.2.2.2.1 kk.2.2.2.2
      have nn := need_n (T := TH d) (need := need) kk.1 kk.2.1 kk.2.2.2.1
      have m7 := mB_L m f7
      have f07 := frM_t f (frM_L f7)
      have nb : 0 ≤ need * (((2 + (k : Int) / 8 % 8) * hh ((k : Int) / 64) (2 + (k : Int) % 8)).toNat : Int) ∧ need * (((2 + (k : Int) / 8 % 8) * hh ((k : Int) / 64) (2 + (k : Int) % 8)).toNat : Int) ≤ 99 * 361 := ⟨Int.mul_nonneg d0 (by omega), Int.mul_le_mul d1 (by omega) (by omega) (by omega)⟩
      rw [K7.2.1, K7.2.2.1, jI_mul, jI_le (by omega) (by omega) (by omega) (by omega), jI_lt (by omega) (by omega) (by omega) (by omega), s, nn.1, nn.2]
      refine ⟨fun q => go σ7 f07 ?_, fun q => ⟨fun q2 => go σ7 f07 ?_, fun q2 => ?_⟩⟩
      · unfold bst
        rw [if_pos (Or.inl q)]
        exact m7
      · unfold bst
        rw [if_pos (Or.inr q2)]
        exact m7
      · have hc := cand D (by omega) kk.1 kk.2.1 kk.2.2.1 kk.2.2.2.1 kk.2.2.2.2
        have p := bs_ok D need k (by omega) ((k : Int) / 64) (by omega) (by omega) (by omega)
        have eb : bst d need (bs d need k) ((k : Int) / 64) (2 + (k : Int) / 8 % 8) (2 + (k : Int) % 8) = bup (bs d need k) ((k : Int) / 64) (2 + (k : Int) / 8 % 8) (2 + (k : Int) % 8) (eA ((2 + (k : Int) / 8 % 8) * hh ((k : Int) / 64) (2 + (k : Int) % 8)).toNat (FT d d ((k : Int) / 64) (2 + (k : Int) / 8 % 8) (2 + (k : Int) % 8) (2 + (k : Int) / 8 % 8))) (eB ((2 + (k : Int) / 8 % 8) * hh ((k : Int) / 64) (2 + (k : Int) % 8)).toNat (FT d d ((k : Int) / 64) (2 + (k : Int) / 8 % 8) (2 + (k : Int) % 8) (2 + (k : Int) / 8 % 8))) := by
          unfold bst
          rw [if_neg (by omega)]
        rw [eb] at go
        refine M_isBetter K7 R hc.2.1 m7 p kk.2.1 kk.2.2.1 kk.2.2.2.1 kk.2.2.2.2 hc.2.2.1 hc.2.2.2.1 hc.2.2.2.2.1 hc.2.2.2.2.2 (fun h => ⟨fun z => absurd z (by decide), fun _ σ13 e13 σ14 e14 σ15 e15 => ?_⟩) (fun h => ⟨fun _ => go σ7 f07 (by rw [bup_n h]; exact m7), fun z => absurd rfl z⟩)
        have s11 : ∀ j, j ≠ 14 → j ≠ 15 → j ≠ 16 → σ15.1 19 j = σ7.1 19 j := fun j u v w => by rw [e15, cdU_j w, e14, cdU_j v, e13, cdU_j u]
        have s23 : ∀ a, a ≠ 19 → σ15.1 a = σ7.1 a := fun a u => by rw [e15, cdU_ne u, e14, cdU_ne u, e13, cdU_ne u]
        have K15 : lOK σ15 _ _ := ⟨K7.1, by rw [s11 11 (by decide) (by decide) (by decide)]; exact K7.2.1, by rw [s11 12 (by decide) (by decide) (by decide)]; exact K7.2.2.1, by rw [s23 23 (by decide)]; exact K7.2.2.2⟩
        refine M_evenAbove K15 R (fun σ18 e18 σ19 e19 => go σ19 ?_ ?_)
        · refine frM_t f07 ⟨fun a u _ => ?_, fun j _ _ u v w => ?_, ?_⟩
          · rw [e19, cdJ_1, e18, cdJ_1, s23 a u]
          · rw [e19, cdJ_1, e18, cdJ_1, s11 j u v w]
          · rw [e19, cdJ_n (by decide), e18, cdJ_n (by decide), e15, e14, e13]; rfl
        · rw [e18, cdJ_1, K15.2.1, K15.2.2.1, jI_l (by omega) (by omega), jI_l (by omega) (by omega), jL_mul] at e19
          rw [bup_p h]
          refine ⟨?_, fun _ => ⟨?_, ?_, ?_, ?_⟩⟩
          · rw [e19, cdJ_1]
            show σ15.1 19 14 = _
            rw [e15, cdU_j (by decide), e14, cdU_j (by decide), e13, cdU_s]
          · rw [e19, cdJ_1]
            show σ15.1 19 15 = _
            rw [e15, cdU_j (by decide), e14, cdU_s]
          · rw [e19, cdJ_1]
            show σ15.1 19 16 = _
            rw [e15, cdU_s]
          · rw [e19, cdJ_n (by decide), cdJ_s]
          · rw [e19, cdJ_s]; rfl
  refine key 128 0 σ1 rfl f1 ⟨?_, fun q => absurd rfl q⟩
  rw [e1, cdU_s]
  rfl
theorem M_bestNow {σ : cdS} {r : Int} {d : Int → Int → Int} (D : dOK r d) {need w : Int} (c : mB σ (bs d need 128)) (w0 : 0 ≤ w) (w4 : w ≤ 4) {Q : Int32 → Prop} (hQ : Q (jI (BT d need w))) : wp_X6_bestNow (jI w) σ Q := by
  have p := bs_ok D need 128 (by omega) 1 (by omega) (by omega) (by omega)
  unfold BT at hQ
  unfold wp_X6_bestNow
  have pr : -1000001 ≤ (bs d need 128).1 ∧ (bs d need 128).1 ≤ 1 := by
    rcases p with p | p
    · omega
    · omega
  rw [c.1]
  simp only [jI_n, jI_neg, jI_add, jI_sub, jI_mul]
  rw [jI_eq (by omega) (by omega) (by omega) (by omega)]
  refine ⟨fun pn => ?_, fun pn => by rw [if_pos pn] at hQ; exact hQ⟩
  rw [if_neg pn] at hQ
  obtain ⟨c2, c3, c4, c5⟩ := c.2 pn
  rcases p with p | ⟨p0, p1, p2, p3, p4, p5, p6, p7, p8, p9, p10⟩
  · exact absurd p pn
  rw [c2, c3, c4, c5, jI_eq (by omega) (by omega) (by omega) (by omega), jI_eq (by omega) (by omega) (by omega) (by omega), jI_eq (by omega) (by omega) (by omega) (by omega)]
  refine ⟨fun e0 => ⟨fun e1 => ⟨fun e2 => ?_, fun e2 => ?_⟩, fun e1 => ?_⟩, fun e0 => ?_⟩
  · rw [if_neg e0, if_neg e1, if_neg e2] at hQ
    refine M_lowest (by omega) (by omega) p9 (by omega) (by omega) (by omega) ?_
    by_cases e3 : w = 3
    · rw [if_pos e3] at hQ
      rw [if_pos (by omega)]; exact hQ
    · rw [if_neg e3] at hQ
      rw [if_neg (by omega)]; exact hQ
  · rw [if_neg e0, if_neg e1, if_pos e2] at hQ; exact hQ
  · rw [if_neg e0, if_pos e1] at hQ; exact hQ
  · rw [if_pos e0] at hQ; exact hQ
