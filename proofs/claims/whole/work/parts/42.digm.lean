/-! THE DIGEST, by the reference: it is kept in a field. -/
def frN (σ σ' : cdS) : Prop := (∀ a, a ≠ 19 → a ≠ 23 → σ'.1 a = σ.1 a) ∧ (∀ j, j ≠ 11 → j ≠ 12 → j ≠ 14 → j ≠ 15 → j ≠ 16 → σ'.1 19 j = σ.1 19 j)
theorem frN_rf {σ : cdS} : frN σ σ := ⟨fun _ _ _ => rfl, fun _ _ _ _ _ _ => rfl⟩
theorem frN_M {a b : cdS} (h : frM a b) : frN a b := ⟨h.1, h.2.1⟩
theorem frN_t {a b c : cdS} (h : frN a b) (k : frN b c) : frN a c := ⟨fun i u v => by rw [k.1 i u v, h.1 i u v], fun i u v w x y => by rw [k.2 i u v w x y, h.2 i u v w x y]⟩
theorem frN_J {a b : cdS} {v : Int64} (h : frN a b) : frN a (cdJ b 19 v) := h
theorem mOK_N {σ σ' : cdS} {k r : Int} {d : Int → Int → Int} (H : mOK σ k r d) (f : frN σ σ') : mOK σ' k r d := by
  obtain ⟨a, b, c, e, g⟩ := H
  exact ⟨a, b, c, by rw [f.1 21 (by decide) (by decide)]; exact e, by rw [f.1 22 (by decide) (by decide)]; exact g⟩
theorem IM_N {σ σ' : cdS} {n : Nat} {c : Nat → Int} {L : Nat} {r : Nat → Int} {d : Nat → Int → Int → Int} {t u g : Int32} (h : IM σ n c L r d t u g) (f : frN σ σ') : IM σ' n c L r d t u g := IM_e h (fun a a1 a2 => f.1 a (by omega) (by omega)) (f.2 0 (by decide) (by decide) (by decide) (by decide) (by decide)) (f.2 2 (by decide) (by decide) (by decide) (by decide) (by decide)) (f.2 5 (by decide) (by decide) (by decide) (by decide) (by decide)) (f.2 6 (by decide) (by decide) (by decide) (by decide) (by decide)) (f.2 7 (by decide) (by decide) (by decide) (by decide) (by decide))
theorem mB_J {σ : cdS} {p : cdB} {v : Int64} (h : mB σ p) : mB (cdJ σ 19 v) p := by
  obtain ⟨a, b⟩ := h
  refine ⟨a, fun q => ?_⟩
  obtain ⟨c, d, e, f⟩ := b q
  exact ⟨c, d, by rw [cdJ_n (by decide)]; exact e, by rw [cdJ_n (by decide)]; exact f⟩
theorem M_mixHead {σ : cdS} {z r : Int} {d : Int → Int → Int} (H : mOK σ z r d) {x : Int64} (hx : σ.2 19 = x) {Q : cdS → Prop} (hQ : ∀ σ', frN σ σ' → σ'.2 19 = dgB d (gs (dgT d) (dgH r d x) 2) → Q σ') : wp_X6_mixHead (jI z) σ Q := by
  obtain ⟨z0, z5, D, hs, _⟩ := id H
  obtain ⟨r1, r3, _, _⟩ := id D
  intro P2 P37 P47 P80 P96 P134 c2 c37 c47 c80 c96 c134
  -- what is best
  have best : ∀ σ', frN σ σ' → σ'.2 19 = gs (dgT d) (dgH r d x) 2 → P80 (jI (2 : Nat)) σ' := by
    intro σ' f e
    refine c80 _ _ ⟨fun _ => ?_, fun q => absurd (show (2 : Int32) ≤ jI ((2 : Nat) : Int) from by decide) q⟩
    refine M_layBest (mOK_N H f) (need := 1) (by omega) (by omega) (fun σ1 f1 mb => ?_)
    refine gsl (N := 5) (G := mxG (fun i => jI (BT d 1 i))) (h := gs (dgT d) (dgH r d x) 2) (F := fun σ2 => frN σ σ2 ∧ mB σ2 (bs d 1 128)) (P := fun x i σ => σ.2 19 = x → P134 (jI i) σ) (σ0 := σ1) ⟨frN_t f (frN_M f1), mb⟩ ?_ ?_ (by rw [f1.2.2, e])
    · intro i i5 y σ2 f2 ih ey
      refine c134 _ _ ?_
      rw [jI_n, jI_le (by omega) (by omega) (by omega) (by omega)]
      refine ⟨fun q => absurd q (by omega), fun _ => M_bestNow D f2.2 (by omega) (by omega) (fun σ3 e3 x5 e5 => ?_)⟩
      rw [jI_n, jI_add] at e5
      rw [e5]
      refine ih σ3 (by rw [e3]; exact ⟨frN_J f2.1, mB_J f2.2⟩) ?_
      rw [e3, cdJ_s, ey]
      rfl
    · intro σ2 f2 ey
      refine c134 _ _ ?_
      rw [jI_n, jI_le (by omega) (by omega) (by omega) (by omega)]
      exact ⟨fun _ => hQ σ2 f2.1 ey, fun q => absurd (by omega) q⟩
  -- the two tiles
  have tiles : ∀ σ', frN σ σ' → σ'.2 19 = dgH r d x → P80 (jI (0 : Nat)) σ' := by
    intro σ' f e
    refine gsl (N := 2) (G := dgT d) (h := dgH r d x) (F := fun σ2 => frN σ σ2) (P := fun x i σ => σ.2 19 = x → P80 (jI i) σ) (σ0 := σ') f ?_ (fun σ2 f2 => best σ2 f2) e
    intro k k2 y σ2 f2 ih ey
    refine c80 _ _ ?_
    rw [jI_n, jI_le (by omega) (by omega) (by omega) (by omega)]
    refine ⟨fun q => absurd q (by omega), fun _ => ?_⟩
    have hb := hh_b (lay := k) (b := 3) (by omega) (by omega)
    have B := FT_R (d1 := d) (d2 := d) D D (lay := k) (a := 4) (b := 3) (w := 4) (h := hh k 3) (by omega) (by omega) (by omega) (by omega) (by omega) (by omega) (by omega) (by omega)
    refine M_layLayout (mOK_N H f2) (lay := k) (a := 4) (b := 3) (by omega) (by omega) (by omega) (by omega) (by omega) (fun σ3 f3 K3 => ?_)
    refine gsl (N := 8) (G := mxG (fun i => jI (TL (4 * hh k 3).toNat (FT d d k 4 3 4) i))) (h := y) (F := fun σ4 => frN σ σ4 ∧ lOK σ4 (4 * hh k 3).toNat (FT d d k 4 3 4)) (P := fun x i σ => σ.2 19 = x → P96 (jI k) (jI i) σ) (σ0 := σ3) ⟨frN_t f2 (frN_M (frM_L f3)), K3⟩ ?_ ?_ (by rw [f3.2.2, ey])
    · intro i i8 v σ4 f4 ih2 ev
      refine c96 _ _ _ ?_
      rw [jI_n, jI_le (by omega) (by omega) (by omega) (by omega)]
      refine ⟨fun q => absurd q (by omega), fun _ => M_laidNow f4.2 B (by omega) (by omega) (fun σ5 e5 x5 e6 => ?_)⟩
      rw [jI_n, jI_add] at e6
      rw [e6]
      refine ih2 σ5 (by rw [e5]; exact ⟨frN_J f4.1, f4.2⟩) ?_
      rw [e5, cdJ_s, ev]
      rfl
    · intro σ4 f4 ev
      refine c96 _ _ _ ?_
      rw [jI_n, jI_le (by omega) (by omega) (by omega) (by omega)]
      refine ⟨fun _ x5 e6 => ?_, fun q => absurd (by omega) q⟩
      rw [jI_n, jI_add] at e6
      rw [e6]
      exact ih σ4 f4.1 ev
  -- the depths
  have rows : ∀ σ', frN σ σ' → σ'.2 19 = gs (mxG (fun i => jI (HT r d i))) x 5 → P37 (jI r) (jI (r - (0 : Nat))) σ' := by
    intro σ' f e
    refine gsl (N := (2 * r + 1).toNat) (G := dgR r d) (h := gs (mxG (fun i => jI (HT r d i))) x 5) (F := fun σ2 => frN σ σ2) (P := fun x k σ => σ.2 19 = x → P37 (jI r) (jI (r - k)) σ) (σ0 := σ') f ?_ ?_ e
    · intro k k7 y σ2 f2 ih ey
      refine c37 _ _ _ ?_
      rw [jI_neg, jI_lt (by omega) (by omega) (by omega) (by omega)]
      refine ⟨fun q => absurd q (by omega), fun _ x5 e5 => ?_⟩
      rw [e5, show -r = ((0 : Nat) : Int) - r by omega]
      refine gsl (N := (2 * r + 1).toNat) (G := mxG (fun i => jI (d (i - r) (r - k)))) (h := y) (F := fun σ2 => frN σ σ2) (P := fun x i σ => σ.2 19 = x → P47 (jI r) (jI (r - k)) (jI (i - r)) σ) (σ0 := σ2) f2 ?_ ?_ ey
      · intro i i7 v σ3 f3 ih2 ev
        refine c47 _ _ _ _ ?_
        rw [jI_lt (by omega) (by omega) (by omega) (by omega)]
        refine ⟨fun q => absurd q (by omega), fun _ => M_depthAt (mOK_N H f3) (by omega) (by omega) (by omega) (by omega) (fun σ4 e4 x6 e6 => ?_)⟩
        rw [jI_n, jI_add, show (i : Int) - r + 1 = ((i + 1 : Nat) : Int) - r by omega] at e6
        rw [e6]
        refine ih2 σ4 (by rw [e4]; exact frN_J f3) ?_
        rw [e4, cdJ_s, ev]
        rfl
      · intro σ3 f3 ev
        refine c47 _ _ _ _ ?_
        rw [jI_lt (by omega) (by omega) (by omega) (by omega)]
        refine ⟨fun _ x4 e4 => ?_, fun q => absurd (by omega) q⟩
        rw [show (-1 : Int32) = jI (-1) from rfl, jI_add, show r - (k : Int) + -1 = r - ((k + 1 : Nat) : Int) by omega] at e4
        rw [e4]
        exact ih σ3 f3 ev
    · intro σ2 f2 ey
      refine c37 _ _ _ ?_
      rw [jI_neg, jI_lt (by omega) (by omega) (by omega) (by omega)]
      exact ⟨fun _ => tiles σ2 f2 ey, fun q => absurd (by omega) q⟩
  refine gsl (N := 5) (G := mxG (fun i => jI (HT r d i))) (h := x) (F := fun σ2 => frN σ σ2) (P := fun x k σ => σ.2 19 = x → P2 (jI k) σ) (σ0 := σ) frN_rf ?_ ?_ hx
  · intro k k5 y σ2 f2 ih ey
    refine c2 _ _ ?_
    rw [jI_n, jI_le (by omega) (by omega) (by omega) (by omega)]
    refine ⟨fun q => absurd q (by omega), fun _ => M_headNow (mOK_N H f2) (by omega) (by omega) (fun σ3 e3 x5 e5 => ?_)⟩
    rw [jI_n, jI_add] at e5
    rw [e5]
    refine ih σ3 (by rw [e3]; exact frN_J f2) ?_
    rw [e3, cdJ_s, ey]
    rfl
  · intro σ2 f2 ey
    refine c2 _ _ ?_
    rw [jI_n, jI_le (by omega) (by omega) (by omega) (by omega)]
    refine ⟨fun _ => ⟨(jI_in (by omega) (by omega)).mpr (by omega), fun x5 e5 => ?_⟩, fun q => absurd (by omega) q⟩
    have hs2 := (mOK_N H f2).2.2.2.1
    rw [jI_cl (by omega) (by omega), hs2, jI_n, jI_sub, jI_n, jI_divP (by omega) (by omega) (by omega) (by omega), show (2 * r + 1 - 1) / 2 = r - ((0 : Nat) : Int) by omega] at e5
    have := rows σ2 f2 ey
    rw [e5]
    rw [show jI (r - ((0 : Nat) : Int)) = jI r by rw [show r - ((0 : Nat) : Int) = r by omega]] at this ⊢
    exact this
section DM
variable {σ : cdS} {n : Nat} {c : Nat → Int} {L : Nat} {r : Nat → Int} {d : Nat → Int → Int → Int} {t u g : Int32}
theorem R_digest (I : IM σ n c L r d t u g) {Q : Int64 → cdS → Prop} (hQ : ∀ σ', frN σ σ' → Q (DG n c L r d t u g) σ') : wp_X6_digest σ Q := by
  have n4 := I.1
  have l60 := I.2.2.2.2.2.1.1
  intro P9 P30 P57 c9 c30 c57 σ1 e1
  refine gsl (N := n) (G := dg1 r d) (h := (1621 : Int64)) (F := fun σ' => frN σ σ') (P := fun x k σ => σ.2 19 = x → P9 (jI k) σ) (σ0 := σ1) (by rw [e1]; exact frN_J frN_rf) ?_ ?_ (by rw [e1, cdJ_s])
  · intro k kn x σ' f ih ex
    have J := IM_N I f
    refine c9 _ _ ?_
    rw [J.2.1, jI_le (by omega) (by omega) (by omega) (by omega)]
    refine ⟨fun q => absurd q (by omega), fun _ => M_mixHead (J.2.2.2.2.2.2 k kn) ex (fun σ4 f4 e4 x5 e5 => ?_)⟩
    rw [jI_n, jI_add] at e5
    rw [e5]
    exact ih σ4 (frN_t f f4) e4
  · intro σ' f ex
    have J := IM_N I f
    refine c9 _ _ ?_
    rw [J.2.1, jI_le (by omega) (by omega) (by omega) (by omega)]
    refine ⟨fun _ => ?_, fun q => absurd (by omega) q⟩
    refine gsl (N := L) (G := mxG (fun i => jI (c i))) (h := gs (dg1 r d) (1621 : Int64) n) (F := fun σ1 => frN σ σ1) (P := fun x k σ => σ.2 19 = x → P30 (jI k) σ) (σ0 := σ') f ?_ ?_ ex
    · intro k kL x σ1 f1 ih ex
      have J1 := IM_N I f1
      refine c30 _ _ ?_
      rw [J1.2.2.2.2.2.1.2.1, jI_le (by omega) (by omega) (by omega) (by omega)]
      refine ⟨fun q => absurd q (by omega), fun _ => ⟨(jI_in (by omega) (by omega)).mpr (by omega), fun σ9 e9 x5 e5 => ?_⟩⟩
      rw [jI_cl (by omega) (by omega), show ((k : Int)).toNat = k by omega, (J1.2.2.2.2.2.1.2.2 k kL).1] at e9
      rw [jI_n, jI_add] at e5
      rw [e5]
      refine ih σ9 (by rw [e9]; exact frN_J f1) ?_
      rw [e9, cdJ_s, ex]
      rfl
    · intro σ1 f1 ex
      have J1 := IM_N I f1
      refine c30 _ _ ?_
      rw [J1.2.2.2.2.2.1.2.1, jI_le (by omega) (by omega) (by omega) (by omega)]
      refine ⟨fun _ => ?_, fun q => absurd (by omega) q⟩
      refine gsl (N := 6) (G := mxG (fun i => CT n L d t u g i)) (h := gs (mxG (fun i => jI (c i))) (gs (dg1 r d) (1621 : Int64) n) L) (F := fun σ1 => frN σ σ1) (P := fun x k σ => σ.2 19 = x → P57 (jI k) σ) (σ0 := σ1) f1 ?_ ?_ ex
      · intro k k6 x σ2 f2 ih ex
        refine c57 _ _ ?_
        rw [jI_n, jI_le (by omega) (by omega) (by omega) (by omega)]
        refine ⟨fun q => absurd q (by omega), fun _ => R_howMany (IM_N I f2) ⟨by omega, by omega⟩ (fun σ9 e9 x5 e5 => ?_)⟩
        rw [jI_n, jI_add] at e5
        rw [e5]
        refine ih σ9 (by rw [e9]; exact frN_J f2) ?_
        rw [e9, cdJ_s, ex]
        rfl
      · intro σ2 f2 ex
        refine c57 _ _ ?_
        rw [jI_n, jI_le (by omega) (by omega) (by omega) (by omega)]
        refine ⟨fun _ => ?_, fun q => absurd (by omega) q⟩
        rw [ex]
        exact hQ σ2 f2
end DM
