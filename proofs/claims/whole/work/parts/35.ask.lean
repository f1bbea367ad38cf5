/-! WHAT IS ASKED: an answer v, or OUTSIDE, or UNKNOWN. -/
noncomputable def rs (kn ok : Prop) (v : Int) : Int := cIf kn (cIf ok v (-1000003)) (-1000002)
theorem rs_v {kn ok : Prop} {v : Int} (h : kn) (k : ok) : rs kn ok v = v := by unfold rs; rw [cIf_p h, cIf_p k]
theorem rs_o {kn ok : Prop} {v : Int} (h : kn) (k : ¬ ok) : rs kn ok v = -1000003 := by unfold rs; rw [cIf_p h, cIf_n k]
theorem rs_u {kn ok : Prop} {v : Int} (h : ¬ kn) : rs kn ok v = -1000002 := by unfold rs; rw [cIf_n h]
def rI (z : Int) : Prop := -2147483648 ≤ z ∧ z < 2147483648
theorem rI_ex (x : Int32) : ∃ z : Int, x = jI z ∧ rI z := by
  obtain ⟨z, h1, h2, h3⟩ := jI_ex x
  exact ⟨z, h1, h2, h3⟩
section AS
variable {σ : cdS} {n : Nat} {c : Nat → Int} {L : Nat} {r : Nat → Int} {d : Nat → Int → Int → Int} {t u g : Int32}
theorem C_head (I : IC σ n c L r d t u g) {z w : Int} (hz : rI z) (hw : rI w) {Q : Int32 → Prop} (hQ : Q (jI (rs (0 ≤ z ∧ z < n) (0 ≤ w ∧ w ≤ 4) (HT (r z.toNat) (d z.toNat) w)))) : wp_X5_head (jI z) (jI w) σ Q := by
  unfold wp_X5_head
  refine L_isKnown I hz.1 hz.2 (fun kn => ⟨fun _ => ?_, fun q => absurd q (by decide)⟩) (fun kn => ⟨fun q => absurd rfl q, fun _ => by rw [rs_u kn] at hQ; exact hQ⟩)
  simp only [jI_n]
  refine L_isWithin hw.1 hw.2 (by decide) (by decide) (by decide) (by decide) (fun ok => ⟨fun q => absurd q (by decide), fun _ => ?_⟩) (fun ok => ⟨fun _ => by rw [rs_o kn ok] at hQ; exact hQ, fun q => absurd rfl q⟩)
  rw [rs_v kn ok] at hQ
  obtain ⟨v1, v2⟩ := IC_at I kn
  exact ⟨v1, v2.1, L_headtell v2 ok.1 ok.2 hQ⟩
theorem R_head (I : IM σ n c L r d t u g) {z w : Int} (hz : rI z) (hw : rI w) {Q : Int32 → Prop} (hQ : Q (jI (rs (0 ≤ z ∧ z < n) (0 ≤ w ∧ w ≤ 4) (HT (r z.toNat) (d z.toNat) w)))) : wp_X6_head (jI z) (jI w) σ Q := by
  unfold wp_X6_head
  refine M_isHead I hz.1 hz.2 (fun kn => ⟨fun _ => ?_, fun q => absurd q (by decide)⟩) (fun kn => ⟨fun q => absurd rfl q, fun _ => by rw [rs_u kn] at hQ; exact hQ⟩)
  simp only [jI_n]
  refine M_within hw.1 hw.2 (by decide) (by decide) (by decide) (by decide) (fun ok => ⟨fun q => absurd q (by decide), fun _ => ?_⟩) (fun ok => ⟨fun _ => by rw [rs_o kn ok] at hQ; exact hQ, fun q => absurd rfl q⟩)
  rw [rs_v kn ok] at hQ
  exact M_headNow (IM_at I kn) ok.1 ok.2 hQ
theorem C_depth (I : IC σ n c L r d t u g) {z x y : Int} (hz : rI z) (hx : rI x) (hy : rI y) {Q : Int32 → Prop} (hQ : Q (jI (rs (0 ≤ z ∧ z < n) ((-3 ≤ x ∧ x ≤ 3) ∧ (-3 ≤ y ∧ y ≤ 3)) (d z.toNat x y)))) : wp_X5_depth (jI z) (jI x) (jI y) σ Q := by
  unfold wp_X5_depth
  refine L_isKnown I hz.1 hz.2 (fun kn => ⟨fun _ => ?_, fun q => absurd q (by decide)⟩) (fun kn => ⟨fun q => absurd rfl q, fun _ => by rw [rs_u kn] at hQ; exact hQ⟩)
  simp only [jI_n, jI_neg]
  refine L_isWithin hx.1 hx.2 (by decide) (by decide) (by decide) (by decide) (fun ok => ⟨fun q => absurd q (by decide), fun _ => ?_⟩) (fun ok => ⟨fun _ => by rw [rs_o kn (fun q => ok q.1)] at hQ; exact hQ, fun q => absurd rfl q⟩)
  refine L_isWithin hy.1 hy.2 (by decide) (by decide) (by decide) (by decide) (fun ok2 => ⟨fun _ => ?_, fun q => absurd q (by decide)⟩) (fun ok2 => ⟨fun q => absurd rfl q, fun _ => by rw [rs_o kn (fun q => ok2 q.2)] at hQ; exact hQ⟩)
  rw [rs_v kn ⟨ok, ok2⟩] at hQ
  obtain ⟨v1, v2⟩ := IC_at I kn
  exact ⟨v1, v2.1, L_depthAt v2 (by omega) (by omega) (by omega) (by omega) hQ⟩
theorem R_depth (I : IM σ n c L r d t u g) {z x y : Int} (hz : rI z) (hx : rI x) (hy : rI y) {Q : Int32 → Prop} (hQ : Q (jI (rs (0 ≤ z ∧ z < n) ((-3 ≤ x ∧ x ≤ 3) ∧ (-3 ≤ y ∧ y ≤ 3)) (d z.toNat x y)))) : wp_X6_depth (jI z) (jI x) (jI y) σ Q := by
  unfold wp_X6_depth
  refine M_isHead I hz.1 hz.2 (fun kn => ⟨fun _ => ?_, fun q => absurd q (by decide)⟩) (fun kn => ⟨fun q => absurd rfl q, fun _ => by rw [rs_u kn] at hQ; exact hQ⟩)
  simp only [jI_n, jI_neg]
  refine M_within hx.1 hx.2 (by decide) (by decide) (by decide) (by decide) (fun ok => ⟨fun q => absurd q (by decide), fun _ => ?_⟩) (fun ok => ⟨fun _ => by rw [rs_o kn (fun q => ok q.1)] at hQ; exact hQ, fun q => absurd rfl q⟩)
  refine M_within hy.1 hy.2 (by decide) (by decide) (by decide) (by decide) (fun ok2 => ⟨fun q => absurd q (by decide), fun _ => ?_⟩) (fun ok2 => ⟨fun _ => by rw [rs_o kn (fun q => ok2 q.2)] at hQ; exact hQ, fun q => absurd rfl q⟩)
  rw [rs_v kn ⟨ok, ok2⟩] at hQ
  exact M_depthAt (IM_at I kn) (by omega) (by omega) (by omega) (by omega) hQ
theorem C_ground (I : IC σ n c L r d t u g) {z lay a b x y : Int} (hz : rI z) (hl : rI lay) (ha : rI a) (hb : rI b) (hx : rI x) (hy : rI y) {Q : Int32 → cdS → Prop} (hQ : ∀ σ', frS σ σ' → Q (jI (rs (0 ≤ z ∧ z < n) (laid lay a b ∧ (-50 ≤ x ∧ x ≤ 50) ∧ (-50 ≤ y ∧ y ≤ 50)) (GR (d z.toNat) (d z.toNat) lay a b x y))) σ') : wp_X5_ground (jI z) (jI lay) (jI a) (jI b) (jI x) (jI y) σ Q := by
  unfold wp_X5_ground
  have hQ0 := hQ σ frS_rf
  refine L_isKnown I hz.1 hz.2 (fun kn => ⟨fun _ => ?_, fun q => absurd q (by decide)⟩) (fun kn => ⟨fun q => absurd rfl q, fun _ => by rw [rs_u kn] at hQ0; exact hQ0⟩)
  refine L_isLaidOut hl.1 hl.2 ha.1 ha.2 hb.1 hb.2 (fun k1 => ⟨fun q => absurd q (by decide), fun _ => ?_⟩) (fun k1 => ⟨fun _ => by rw [rs_o kn (fun q => k1 q.1)] at hQ0; exact hQ0, fun q => absurd rfl q⟩)
  simp only [jI_n, jI_neg]
  refine L_isWithin hx.1 hx.2 (by decide) (by decide) (by decide) (by decide) (fun k2 => ⟨fun q => absurd q (by decide), fun _ => ?_⟩) (fun k2 => ⟨fun _ => by rw [rs_o kn (fun q => k2 q.2.1)] at hQ0; exact hQ0, fun q => absurd rfl q⟩)
  refine L_isWithin hy.1 hy.2 (by decide) (by decide) (by decide) (by decide) (fun k3 => ⟨fun _ => ?_, fun q => absurd q (by decide)⟩) (fun k3 => ⟨fun q => absurd rfl q, fun _ => by rw [rs_o kn (fun q => k3 q.2.2)] at hQ0; exact hQ0⟩)
  rw [rs_v kn ⟨k1, k2, k3⟩] at hQ
  obtain ⟨v1, v2⟩ := IC_at I kn
  obtain ⟨l1, a1, b1⟩ := k1
  refine ⟨v1, L_layTile2 v2 (by omega) a1.1 a1.2 b1.1 b1.2 (fun σ1 f1 G1 at' => ?_)⟩
  have hb := hh_b (lay := lay) b1.1 b1.2
  have hp := pl_b (w := a) (h := hh lay b) (by omega) (by omega) x y
  have bb := wh_b (w := a) (h := hh lay b) (by omega) (by omega) (by omega) (by omega)
  refine L_wrappedPlace (w := a) (h := hh lay b) (by omega) (by omega) (by omega) (by omega) G1.2.2.2.2.1 G1.2.2.2.2.2.1 (by omega) (by omega) (by omega) (by omega) ⟨(jI_in (by omega) (by omega)).mpr (by omega), ?_⟩
  rw [jI_cl (by omega) (by omega), at' x y]
  exact hQ σ1 (frS_G f1)
theorem R_ground (I : IM σ n c L r d t u g) {z lay a b x y : Int} (hz : rI z) (hl : rI lay) (ha : rI a) (hb : rI b) (hx : rI x) (hy : rI y) {Q : Int32 → Prop} (hQ : Q (jI (rs (0 ≤ z ∧ z < n) (laid lay a b ∧ (-50 ≤ x ∧ x ≤ 50) ∧ (-50 ≤ y ∧ y ≤ 50)) (GR (d z.toNat) (d z.toNat) lay a b x y)))) : wp_X6_ground (jI z) (jI lay) (jI a) (jI b) (jI x) (jI y) σ Q := by
  intro P49 P50 c49 c50
  refine M_isHead I hz.1 hz.2 (fun kn => ⟨fun _ => ?_, fun q => absurd q (by decide)⟩) (fun kn => ⟨fun q => absurd rfl q, fun _ => by rw [rs_u kn] at hQ; exact hQ⟩)
  have out : ¬ (laid lay a b ∧ (-50 ≤ x ∧ x ≤ 50) ∧ (-50 ≤ y ∧ y ≤ 50)) → P49 := fun ko => c49 (c50 _ ⟨fun _ => by rw [rs_o kn ko] at hQ; exact hQ, fun q => absurd rfl q⟩)
  refine M_isLaid hl.1 hl.2 ha.1 ha.2 hb.1 hb.2 (fun k1 => ⟨fun q => absurd q (by decide), fun _ => ?_⟩) (fun k1 => ⟨fun _ => out (fun q => k1 q.1), fun q => absurd rfl q⟩)
  simp only [jI_n, jI_neg]
  refine M_within hx.1 hx.2 (by decide) (by decide) (by decide) (by decide) (fun k2 => ⟨fun q => absurd q (by decide), fun _ => ?_⟩) (fun k2 => ⟨fun _ => out (fun q => k2 q.2.1), fun q => absurd rfl q⟩)
  refine M_within hy.1 hy.2 (by decide) (by decide) (by decide) (by decide) (fun k3 => ⟨fun q => absurd q (by decide), fun _ => ?_⟩) (fun k3 => ⟨fun _ => out (fun q => k3 q.2.2), fun q => absurd rfl q⟩)
  rw [rs_v kn ⟨k1, k2, k3⟩] at hQ
  obtain ⟨l1, a1, b1⟩ := k1
  exact c50 _ ⟨fun q => absurd q (by decide), fun _ => M_groundAt (IM_at I kn) (IM_at I kn) (by omega) a1.1 a1.2 b1.1 b1.2 (by omega) (by omega) (by omega) (by omega) hQ⟩
theorem C_tile (I : IC σ n c L r d t u g) {z lay a b w : Int} (hz : rI z) (hl : rI lay) (ha : rI a) (hb : rI b) (hw : rI w) {Q : Int32 → cdS → Prop} (hQ : ∀ σ', frS σ σ' → Q (jI (rs (0 ≤ z ∧ z < n) (laid lay a b ∧ (0 ≤ w ∧ w ≤ 7)) (TL (a * hh lay b).toNat (FT (d z.toNat) (d z.toNat) lay a b a) w))) σ') : wp_X5_tile (jI z) (jI lay) (jI a) (jI b) (jI w) σ Q := by
  unfold wp_X5_tile
  have hQ0 := hQ σ frS_rf
  refine L_isKnown I hz.1 hz.2 (fun kn => ⟨fun _ => ?_, fun q => absurd q (by decide)⟩) (fun kn => ⟨fun q => absurd rfl q, fun _ => by rw [rs_u kn] at hQ0; exact hQ0⟩)
  refine L_isLaidOut hl.1 hl.2 ha.1 ha.2 hb.1 hb.2 (fun k1 => ⟨fun q => absurd q (by decide), fun _ => ?_⟩) (fun k1 => ⟨fun _ => by rw [rs_o kn (fun q => k1 q.1)] at hQ0; exact hQ0, fun q => absurd rfl q⟩)
  simp only [jI_n, jI_neg]
  refine L_isWithin hw.1 hw.2 (by decide) (by decide) (by decide) (by decide) (fun k3 => ⟨fun _ => ?_, fun q => absurd q (by decide)⟩) (fun k3 => ⟨fun q => absurd rfl q, fun _ => by rw [rs_o kn (fun q => k3 q.2)] at hQ0; exact hQ0⟩)
  rw [rs_v kn ⟨k1, k3⟩] at hQ
  obtain ⟨v1, v2⟩ := IC_at I kn
  obtain ⟨l1, a1, b1⟩ := k1
  have hb := hh_b (lay := lay) b1.1 b1.2
  refine ⟨v1, L_layTile2 v2 (by omega) a1.1 a1.2 b1.1 b1.2 (fun σ1 f1 G1 _ => L_gtell G1 (FT_R v2.2.1 v2.2.1 a1.1 a1.2 b1.1 b1.2 (by omega) (by omega) (by omega) (by omega)) k3.1 k3.2 (fun σ2 f2 => hQ σ2 (frS_t (frS_G f1) (frS_K f2))))⟩
theorem R_tile (I : IM σ n c L r d t u g) {z lay a b w : Int} (hz : rI z) (hl : rI lay) (ha : rI a) (hb : rI b) (hw : rI w) {Q : Int32 → cdS → Prop} (hQ : ∀ σ', frM σ σ' → Q (jI (rs (0 ≤ z ∧ z < n) (laid lay a b ∧ (0 ≤ w ∧ w ≤ 7)) (TL (a * hh lay b).toNat (FT (d z.toNat) (d z.toNat) lay a b a) w))) σ') : wp_X6_tile (jI z) (jI lay) (jI a) (jI b) (jI w) σ Q := by
  unfold wp_X6_tile
  have hQ0 := hQ σ frM_rf
  refine M_isHead I hz.1 hz.2 (fun kn => ⟨fun _ => ?_, fun q => absurd q (by decide)⟩) (fun kn => ⟨fun q => absurd rfl q, fun _ => by rw [rs_u kn] at hQ0; exact hQ0⟩)
  refine M_isLaid hl.1 hl.2 ha.1 ha.2 hb.1 hb.2 (fun k1 => ⟨fun q => absurd q (by decide), fun _ => ?_⟩) (fun k1 => ⟨fun _ => by rw [rs_o kn (fun q => k1 q.1)] at hQ0; exact hQ0, fun q => absurd rfl q⟩)
  simp only [jI_n, jI_neg]
  refine M_within hw.1 hw.2 (by decide) (by decide) (by decide) (by decide) (fun k3 => ⟨fun q => absurd q (by decide), fun _ => ?_⟩) (fun k3 => ⟨fun _ => by rw [rs_o kn (fun q => k3 q.2)] at hQ0; exact hQ0, fun q => absurd rfl q⟩)
  rw [rs_v kn ⟨k1, k3⟩] at hQ
  have v2 := IM_at I kn
  obtain ⟨l1, a1, b1⟩ := k1
  have hb := hh_b (lay := lay) b1.1 b1.2
  exact M_layLayout v2 (by omega) a1.1 a1.2 b1.1 b1.2 (fun σ1 f1 K1 => M_laidNow K1 (FT_R v2.2.2.1 v2.2.2.1 a1.1 a1.2 b1.1 b1.2 (by omega) (by omega) (by omega) (by omega)) k3.1 k3.2 (hQ σ1 (frM_L f1)))
theorem C_byTurns (I : IC σ n c L r d t u g) {z y a b w : Int} (hz : rI z) (hy : rI y) (ha : rI a) (hb : rI b) (hw : rI w) {Q : Int32 → cdS → Prop} (hQ : ∀ σ', frS σ σ' → Q (jI (rs ((0 ≤ z ∧ z < n) ∧ (0 ≤ y ∧ y < n)) (laid 0 a b ∧ (0 ≤ w ∧ w ≤ 7)) (TL (2 * a * (2 * b)).toNat (FT (d z.toNat) (d y.toNat) 0 a b (2 * a)) w))) σ') : wp_X5_byTurns (jI z) (jI y) (jI a) (jI b) (jI w) σ Q := by
  unfold wp_X5_byTurns
  have hQ0 := hQ σ frS_rf
  refine L_isKnown I hz.1 hz.2 (fun kn => ⟨fun q => absurd q (by decide), fun _ => ?_⟩) (fun kn => ⟨fun _ => by rw [rs_u (fun q => kn q.1)] at hQ0; exact hQ0, fun q => absurd rfl q⟩)
  refine L_isKnown I hy.1 hy.2 (fun kn2 => ⟨fun _ => ?_, fun q => absurd q (by decide)⟩) (fun kn2 => ⟨fun q => absurd rfl q, fun _ => by rw [rs_u (fun q => kn2 q.2)] at hQ0; exact hQ0⟩)
  refine L_isSpacing ha.1 ha.2 (fun k1 => ⟨fun q => absurd q (by decide), fun _ => ?_⟩) (fun k1 => ⟨fun _ => by rw [rs_o ⟨kn, kn2⟩ (fun q => k1 q.1.2.1)] at hQ0; exact hQ0, fun q => absurd rfl q⟩)
  refine L_isSpacing hb.1 hb.2 (fun k2 => ⟨fun q => absurd q (by decide), fun _ => ?_⟩) (fun k2 => ⟨fun _ => by rw [rs_o ⟨kn, kn2⟩ (fun q => k2 q.1.2.2)] at hQ0; exact hQ0, fun q => absurd rfl q⟩)
  simp only [jI_n, jI_neg]
  refine L_isWithin hw.1 hw.2 (by decide) (by decide) (by decide) (by decide) (fun k3 => ⟨fun _ => ?_, fun q => absurd q (by decide)⟩) (fun k3 => ⟨fun q => absurd rfl q, fun _ => by rw [rs_o ⟨kn, kn2⟩ (fun q => k3 q.2)] at hQ0; exact hQ0⟩)
  rw [rs_v ⟨kn, kn2⟩ ⟨⟨by omega, k1, k2⟩, k3⟩] at hQ
  obtain ⟨v1, v2⟩ := IC_at I kn
  obtain ⟨w1, w2⟩ := IC_at I kn2
  refine ⟨v1, w1, L_layInTurns2 v2 w2 k1.1 k1.2 k2.1 k2.2 (fun σ1 f1 G1 => L_gtell G1 (FT_R v2.2.1 w2.2.1 k1.1 k1.2 k2.1 k2.2 (by omega) (by omega) (by omega) (by omega)) k3.1 k3.2 (fun σ2 f2 => hQ σ2 (frS_t (frS_G f1) (frS_K f2))))⟩
theorem R_byTurns (I : IM σ n c L r d t u g) {z y a b w : Int} (hz : rI z) (hy : rI y) (ha : rI a) (hb : rI b) (hw : rI w) {Q : Int32 → cdS → Prop} (hQ : ∀ σ', frM σ σ' → Q (jI (rs ((0 ≤ z ∧ z < n) ∧ (0 ≤ y ∧ y < n)) (laid 0 a b ∧ (0 ≤ w ∧ w ≤ 7)) (TL (2 * a * (2 * b)).toNat (FT (d z.toNat) (d y.toNat) 0 a b (2 * a)) w))) σ') : wp_X6_byTurns (jI z) (jI y) (jI a) (jI b) (jI w) σ Q := by
  unfold wp_X6_byTurns
  have hQ0 := hQ σ frM_rf
  refine M_isHead I hz.1 hz.2 (fun kn => ⟨fun q => absurd q (by decide), fun _ => ?_⟩) (fun kn => ⟨fun _ => by rw [rs_u (fun q => kn q.1)] at hQ0; exact hQ0, fun q => absurd rfl q⟩)
  refine M_isHead I hy.1 hy.2 (fun kn2 => ⟨fun _ => ?_, fun q => absurd q (by decide)⟩) (fun kn2 => ⟨fun q => absurd rfl q, fun _ => by rw [rs_u (fun q => kn2 q.2)] at hQ0; exact hQ0⟩)
  refine M_isLaid (lay := 0) (by decide) (by decide) ha.1 ha.2 hb.1 hb.2 (fun k1 => ⟨fun q => absurd q (by decide), fun _ => ?_⟩) (fun k1 => ⟨fun _ => by rw [rs_o ⟨kn, kn2⟩ (fun q => k1 q.1)] at hQ0; exact hQ0, fun q => absurd rfl q⟩)
  simp only [jI_n, jI_neg]
  refine M_within hw.1 hw.2 (by decide) (by decide) (by decide) (by decide) (fun k3 => ⟨fun q => absurd q (by decide), fun _ => ?_⟩) (fun k3 => ⟨fun _ => by rw [rs_o ⟨kn, kn2⟩ (fun q => k3 q.2)] at hQ0; exact hQ0, fun q => absurd rfl q⟩)
  rw [rs_v ⟨kn, kn2⟩ ⟨k1, k3⟩] at hQ
  have v2 := IM_at I kn
  have w2 := IM_at I kn2
  obtain ⟨l1, a1, b1⟩ := k1
  unfold wp_X6_turnsNow
  simp only [jI_n, jI_mul]
  exact M_layTile v2 w2 (Or.inl rfl) a1.1 a1.2 b1.1 b1.2 (by omega) (by omega) (by omega) (by omega) (fun σ1 f1 K1 => M_laidNow K1 (FT_R v2.2.2.1 w2.2.2.1 a1.1 a1.2 b1.1 b1.2 (by omega) (by omega) (by omega) (by omega)) k3.1 k3.2 (hQ σ1 (frM_L f1)))
theorem C_best (I : IC σ n c L r d t u g) {z m w : Int} (hz : rI z) (hm : rI m) (hw : rI w) {Q : Int32 → cdS → Prop} (hQ : ∀ σ', frS σ σ' → Q (jI (rs (0 ≤ z ∧ z < n) ((0 ≤ m ∧ m ≤ 99) ∧ (0 ≤ w ∧ w ≤ 4)) (BT (d z.toNat) m w))) σ') : wp_X5_best (jI z) (jI m) (jI w) σ Q := by
  unfold wp_X5_best
  have hQ0 := hQ σ frS_rf
  refine L_isKnown I hz.1 hz.2 (fun kn => ⟨fun _ => ?_, fun q => absurd q (by decide)⟩) (fun kn => ⟨fun q => absurd rfl q, fun _ => by rw [rs_u kn] at hQ0; exact hQ0⟩)
  simp only [jI_n, jI_neg]
  refine L_isWithin hm.1 hm.2 (by decide) (by decide) (by decide) (by decide) (fun k1 => ⟨fun q => absurd q (by decide), fun _ => ?_⟩) (fun k1 => ⟨fun _ => by rw [rs_o kn (fun q => k1 q.1)] at hQ0; exact hQ0, fun q => absurd rfl q⟩)
  refine L_isWithin hw.1 hw.2 (by decide) (by decide) (by decide) (by decide) (fun k3 => ⟨fun _ => ?_, fun q => absurd q (by decide)⟩) (fun k3 => ⟨fun q => absurd rfl q, fun _ => by rw [rs_o kn (fun q => k3 q.2)] at hQ0; exact hQ0⟩)
  rw [rs_v kn ⟨k1, k3⟩] at hQ
  obtain ⟨v1, v2⟩ := IC_at I kn
  exact ⟨v1, L_findBest v2 k1.1 k1.2 (fun σ1 f1 c1 => L_btell c1 k3.1 k3.2 (hQ σ1 f1))⟩
theorem R_best (I : IM σ n c L r d t u g) {z m w : Int} (hz : rI z) (hm : rI m) (hw : rI w) {Q : Int32 → cdS → Prop} (hQ : ∀ σ', frM σ σ' → Q (jI (rs (0 ≤ z ∧ z < n) ((0 ≤ m ∧ m ≤ 99) ∧ (0 ≤ w ∧ w ≤ 4)) (BT (d z.toNat) m w))) σ') : wp_X6_best (jI z) (jI m) (jI w) σ Q := by
  unfold wp_X6_best
  have hQ0 := hQ σ frM_rf
  refine M_isHead I hz.1 hz.2 (fun kn => ⟨fun _ => ?_, fun q => absurd q (by decide)⟩) (fun kn => ⟨fun q => absurd rfl q, fun _ => by rw [rs_u kn] at hQ0; exact hQ0⟩)
  simp only [jI_n, jI_neg]
  refine M_within hm.1 hm.2 (by decide) (by decide) (by decide) (by decide) (fun k1 => ⟨fun q => absurd q (by decide), fun _ => ?_⟩) (fun k1 => ⟨fun _ => by rw [rs_o kn (fun q => k1 q.1)] at hQ0; exact hQ0, fun q => absurd rfl q⟩)
  refine M_within hw.1 hw.2 (by decide) (by decide) (by decide) (by decide) (fun k3 => ⟨fun _ => ?_, fun q => absurd q (by decide)⟩) (fun k3 => ⟨fun q => absurd rfl q, fun _ => by rw [rs_o kn (fun q => k3 q.2)] at hQ0; exact hQ0⟩)
  rw [rs_v kn ⟨k1, k3⟩] at hQ
  have v2 := IM_at I kn
  exact M_layBest v2 k1.1 k1.2 (fun σ1 f1 c1 => M_bestNow v2.2.2.1 c1 k3.1 k3.2 (hQ σ1 f1))
end AS
