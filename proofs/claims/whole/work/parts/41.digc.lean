/-! THE DIGEST: what is mixed, one behind another. -/
def gs (G : Nat → Int64 → Int64) (h : Int64) : Nat → Int64
  | 0 => h
  | k + 1 => G k (gs G h k)
def mxG (f : Nat → Int32) (k : Nat) (x : Int64) : Int64 := (31 : Int64) * x + (f k).toInt64
theorem gsl {N : Nat} {G : Nat → Int64 → Int64} {F : cdS → Prop} {P : Int64 → Nat → cdS → Prop} {h : Int64} {σ0 : cdS} (h0 : F σ0)
    (hs : ∀ k, k < N → ∀ x σ, F σ → (∀ σ', F σ' → P (G k x) (k + 1) σ') → P x k σ) (he : ∀ σ, F σ → P (gs G h N) N σ) : P h 0 σ0 := by
  have key : ∀ (m k : Nat) (σ : cdS), k + m = N → F σ → P (gs G h k) k σ := by
    intro m
    induction m with
    | zero =>
      intro k σ hk f
      rw [show k = N by omega]
      exact he σ f
    | succ m ih =>
      intro k σ hk f
      exact hs k (by omega) _ _ f (fun σ' f' => ih (k + 1) σ' (by omega) f')
  exact key N 0 σ0 (by omega) h0
noncomputable def dgR (r : Int) (d : Int → Int → Int) (k : Nat) (x : Int64) : Int64 := gs (mxG (fun i => jI (d (i - r) (r - k)))) x (2 * r + 1).toNat
noncomputable def dgH (r : Int) (d : Int → Int → Int) (x : Int64) : Int64 := gs (dgR r d) (gs (mxG (fun i => jI (HT r d i))) x 5) (2 * r + 1).toNat
noncomputable def dgT (d : Int → Int → Int) (k : Nat) (x : Int64) : Int64 := gs (mxG (fun i => jI (TL (4 * hh k 3).toNat (FT d d k 4 3 4) i))) x 8
noncomputable def dgB (d : Int → Int → Int) (x : Int64) : Int64 := gs (mxG (fun i => jI (BT d 1 i))) x 5
noncomputable def dg1 (r : Nat → Int) (d : Nat → Int → Int → Int) (k : Nat) (x : Int64) : Int64 := dgB (d k) (gs (dgT (d k)) (dgH (r k) (d k) x) 2)
noncomputable def DG (n : Nat) (c : Nat → Int) (L : Nat) (r : Nat → Int) (d : Nat → Int → Int → Int) (t u g : Int32) : Int64 :=
  gs (mxG (fun i => CT n L d t u g i)) (gs (mxG (fun i => jI (c i))) (gs (dg1 r d) (1621 : Int64) n) L) 6
theorem L_mixHead {σ : cdS} {h : Nat} {r : Int} {d : Int → Int → Int} (H : hOK σ h r d) {x : Int64} {Q : Int64 → Prop} (hQ : Q (dgH r d x)) : wp_X5_mixHead x h σ Q := by
  obtain ⟨h5, D, _, _⟩ := id H
  obtain ⟨r1, r3, _, _⟩ := id D
  intro P2 P31 P42 c2 c31 c42
  refine gsl (N := 5) (G := mxG (fun i => jI (HT r d i))) (F := fun _ => True) (P := fun x k _ => P2 x (jI k)) (σ0 := σ) trivial ?_ ?_
  · intro k k5 x σ' _ ih
    refine c2 _ _ ⟨fun q => ?_, fun _ => ⟨h5, L_headtell H (by omega) (by omega) (fun x3 e3 => ?_)⟩⟩
    · rw [jI_n, jI_lt (by omega) (by omega) (by omega) (by omega)] at q
      omega
    · rw [jI_n, jI_add] at e3
      rw [e3]
      exact ih σ' trivial
  · intro σ' _
    refine c2 _ _ ⟨fun _ => ⟨h5, L_reach H ?_⟩, fun q => absurd (show (4 : Int32) < jI ((5 : Nat) : Int) from by decide) q⟩
    have e0 : jI r = jI (r - (0 : Nat)) := by rw [show r - ((0 : Nat) : Int) = r by omega]
    have main : P31 (gs (mxG (fun i => jI (HT r d i))) x 5) (jI r) (jI (r - (0 : Nat))) := by
      refine gsl (N := (2 * r + 1).toNat) (G := dgR r d) (F := fun _ => True) (P := fun x k _ => P31 x (jI r) (jI (r - k))) (σ0 := σ) trivial ?_ ?_
      · intro k k7 x σ' _ ih
        refine c31 _ _ _ ?_
        rw [jI_neg, jI_lt (by omega) (by omega) (by omega) (by omega)]
        refine ⟨fun q => absurd q (by omega), fun _ x5 e5 => ?_⟩
        rw [e5, show -r = ((0 : Nat) : Int) - r by omega]
        refine gsl (N := (2 * r + 1).toNat) (G := mxG (fun i => jI (d (i - r) (r - k)))) (F := fun _ => True) (P := fun x i _ => P42 x (jI r) (jI (r - k)) (jI (i - r))) (σ0 := σ) trivial ?_ ?_
        · intro i i7 y σ' _ ih2
          refine c42 _ _ _ _ ?_
          rw [jI_lt (by omega) (by omega) (by omega) (by omega)]
          refine ⟨fun q => absurd q (by omega), fun _ => ⟨h5, L_depthAt H (by omega) (by omega) (by omega) (by omega) (fun x6 e6 => ?_)⟩⟩
          rw [jI_n, jI_add, show (i : Int) - r + 1 = ((i + 1 : Nat) : Int) - r by omega] at e6
          rw [e6]
          exact ih2 σ' trivial
        · intro σ' _
          refine c42 _ _ _ _ ?_
          rw [jI_lt (by omega) (by omega) (by omega) (by omega)]
          refine ⟨fun _ x4 e4 => ?_, fun q => absurd (by omega) q⟩
          rw [show (-1 : Int32) = jI (-1) from rfl, jI_add, show r - (k : Int) + -1 = r - ((k + 1 : Nat) : Int) by omega] at e4
          rw [e4]
          exact ih σ' trivial
      · intro σ' _
        refine c31 _ _ _ ?_
        rw [jI_neg, jI_lt (by omega) (by omega) (by omega) (by omega)]
        exact ⟨fun _ => hQ, fun q => absurd (by omega) q⟩
    rw [← e0] at main
    exact main
theorem L_mixTile {σ : cdS} {h : Nat} {r : Int} {d : Int → Int → Int} (H : hOK σ h r d) {k : Nat} (k1 : k ≤ 1) {x : Int64} {Q : Int64 → cdS → Prop} (hQ : ∀ σ', frS σ σ' → Q (dgT d k x) σ') : wp_X5_mixTile x h (jI k) σ Q := by
  intro P15 c15
  have hb := hh_b (lay := k) (b := 3) (by omega) (by omega)
  have B := FT_R (d1 := d) (d2 := d) H.2.1 H.2.1 (lay := k) (a := 4) (b := 3) (w := 4) (h := hh k 3) (by omega) (by omega) (by omega) (by omega) (by omega) (by omega) (by omega) (by omega)
  refine L_layTile2 H (lay := k) (a := 4) (b := 3) (by omega) (by omega) (by omega) (by omega) (by omega) (fun σ1 f1 G1 _ => ?_)
  refine gsl (N := 8) (G := mxG (fun i => jI (TL (4 * hh k 3).toNat (FT d d k 4 3 4) i))) (F := fun σ' => frS σ σ' ∧ gOK σ' 4 (hh k 3) (FT d d k 4 3 4)) (P := fun x i σ => P15 x (jI i) σ) (σ0 := σ1) ⟨frS_G f1, G1⟩ ?_ ?_
  · intro i i8 y σ' f ih
    refine c15 _ _ _ ?_
    rw [jI_n, jI_lt (by omega) (by omega) (by omega) (by omega)]
    refine ⟨fun q => absurd q (by omega), fun _ => L_gtell f.2 B (by omega) (by omega) (fun σ2 f2 x5 e5 => ?_)⟩
    rw [jI_n, jI_add] at e5
    rw [e5]
    exact ih σ2 ⟨frS_t f.1 (frS_K f2), gOK_K f.2 f2⟩
  · intro σ' f
    refine c15 _ _ _ ?_
    rw [jI_n, jI_lt (by omega) (by omega) (by omega) (by omega)]
    exact ⟨fun _ => hQ σ' f.1, fun q => absurd (by omega) q⟩
theorem L_mixBest {σ : cdS} {h : Nat} {r : Int} {d : Int → Int → Int} (H : hOK σ h r d) {x : Int64} {Q : Int64 → cdS → Prop} (hQ : ∀ σ', frS σ σ' → Q (dgB d x) σ') : wp_X5_mixBest x h σ Q := by
  intro P9 c9
  refine L_findBest H (need := 1) (by omega) (by omega) (fun σ1 f1 cb => ?_)
  refine gsl (N := 5) (G := mxG (fun i => jI (BT d 1 i))) (F := fun σ' => σ' = σ1) (P := fun x i σ => P9 x (jI i) σ) (σ0 := σ1) rfl ?_ ?_
  · intro i i8 y σ' f ih
    refine c9 _ _ _ ?_
    rw [jI_n, jI_lt (by omega) (by omega) (by omega) (by omega)]
    subst f
    refine ⟨fun q => absurd q (by omega), fun _ => L_btell cb (by omega) (by omega) (fun x5 e5 => ?_)⟩
    rw [jI_n, jI_add] at e5
    rw [e5]
    exact ih _ rfl
  · intro σ' f
    refine c9 _ _ _ ?_
    rw [jI_n, jI_lt (by omega) (by omega) (by omega) (by omega)]
    exact ⟨fun _ => by rw [f]; exact hQ σ1 f1, fun q => absurd (by omega) q⟩
section DC
variable {σ : cdS} {n : Nat} {c : Nat → Int} {L : Nat} {r : Nat → Int} {d : Nat → Int → Int → Int} {t u g : Int32}
theorem C_digest (I : IC σ n c L r d t u g) {Q : Int64 → cdS → Prop} (hQ : ∀ σ', frS σ σ' → Q (DG n c L r d t u g) σ') : wp_X5_digest σ Q := by
  have n4 := I.1
  have l60 := I.2.2.2.2.2.1.1
  intro P6 P71 P103 c6 c71 c103
  refine gsl (N := n) (G := dg1 r d) (F := fun σ' => frS σ σ') (P := fun x k σ => P6 x (jI k) σ) (σ0 := σ) frS_rf ?_ ?_
  · intro k kn x σ' f ih
    have J := IC_S I f
    refine c6 _ _ _ ?_
    rw [J.2.1, jI_le (by omega) (by omega) (by omega) (by omega)]
    have iv : vp_in (jI (k : Int)) 4 := (jI_in (by omega) (by omega)).mpr (by omega)
    have at' : ∀ {σ'}, IC σ' n c L r d t u g → hOK σ' (cdh (σ'.1 3 (jI (k : Int)).toNatClampNeg)) (r k) (d k) := fun J => by
      rw [jI_cl (by omega) (by omega)]
      exact J.2.2.2.2.2.2.2 k kn
    refine ⟨fun q => absurd q (by omega), fun _ => ⟨iv, L_mixHead (at' J) ⟨iv, ?_⟩⟩⟩
    refine L_mixTile (k := 0) (at' J) (by omega) (fun σ7 f7 => ⟨iv, ?_⟩)
    have J7 := IC_S J f7
    refine L_mixTile (k := 1) (at' J7) (by omega) (fun σ10 f10 => ⟨iv, ?_⟩)
    have J10 := IC_S J7 f10
    refine L_mixBest (at' J10) (fun σ13 f13 x5 e5 => ?_)
    rw [jI_n, jI_add] at e5
    rw [e5]
    exact ih σ13 (frS_t (frS_t (frS_t f f7) f10) f13)
  · intro σ' f
    have J := IC_S I f
    refine c6 _ _ _ ?_
    rw [J.2.1, jI_le (by omega) (by omega) (by omega) (by omega)]
    refine ⟨fun _ => ?_, fun q => absurd (by omega) q⟩
    refine gsl (N := L) (G := mxG (fun i => jI (c i))) (F := fun σ1 => σ1 = σ') (P := fun x k σ => P71 x (jI k) σ) (σ0 := σ') rfl ?_ ?_
    · intro k kL x σ1 f1 ih
      subst f1
      refine c71 _ _ _ ?_
      unfold wp_X3_length
      rw [J.2.2.2.2.2.1.2.1]
      dsimp only
      rw [jI_le (by omega) (by omega) (by omega) (by omega)]
      refine ⟨fun q => absurd q (by omega), fun _ => L_codeAt J.2.2.2.2.2.1 (by omega) (by omega) (fun x5 e5 => ?_)⟩
      rw [jI_n, jI_add] at e5
      rw [e5, show ((k : Int)).toNat = k by omega]
      exact ih _ rfl
    · intro σ1 f1
      subst f1
      refine c71 _ _ _ ?_
      unfold wp_X3_length
      rw [J.2.2.2.2.2.1.2.1]
      dsimp only
      rw [jI_le (by omega) (by omega) (by omega) (by omega)]
      refine ⟨fun _ => ?_, fun q => absurd (by omega) q⟩
      refine gsl (N := 6) (G := mxG (fun i => CT n L d t u g i)) (F := fun σ2 => σ2 = σ1) (P := fun x k σ => P103 x (jI k) σ) (σ0 := σ1) rfl ?_ ?_
      · intro k k6 x σ2 f2 ih
        subst f2
        refine c103 _ _ _ ?_
        rw [jI_n, jI_lt (by omega) (by omega) (by omega) (by omega)]
        refine ⟨fun q => absurd q (by omega), fun _ => C_count J ⟨by omega, by omega⟩ (fun x5 e5 => ?_)⟩
        rw [jI_n, jI_add] at e5
        rw [e5]
        exact ih _ rfl
      · intro σ2 f2
        subst f2
        refine c103 _ _ _ ?_
        rw [jI_n, jI_lt (by omega) (by omega) (by omega) (by omega)]
        exact ⟨fun _ => hQ _ f, fun q => absurd (by omega) q⟩
end DC
