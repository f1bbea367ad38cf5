/-! A FIELD is asked. -/
def fW (a m : Int) : Int := (m - 1) * a + 1
def FD (d : Int → Int → Int) (a b m n : Int) (s : Nat → Bool) (w : Int) : Int :=
  if w ≤ 7 then TL (fW a m * fW b n).toNat (FF d a b (fW a m) s) w else if w = 8 then (am (FF d a b (fW a m) s) (fW a m * fW b n).toNat : Nat) % fW a m else if w = 9 then (am (FF d a b (fW a m) s) (fW a m * fW b n).toNat : Nat) / fW a m
  else MS d a b (fW a m) (fW b n) s (sm (fW a m * fW b n).toNat (FF d a b (fW a m) s)) w
theorem fW_b {a m : Int} (a1 : 2 ≤ a) (a2 : a ≤ 9) (m1 : m = 2 ∨ m = 3) : 3 ≤ fW a m ∧ fW a m ≤ 19 := by
  unfold fW
  rcases m1 with rfl | rfl <;> omega
theorem FF_c {d : Int → Int → Int} {a b w : Int} {s s' : Nat → Bool} (h : ∀ k, k < 9 → s k = s' k) : FF d a b w s = FF d a b w s' := by
  funext i
  unfold FF ff
  exact sm_c (fun k hk => by rw [h k hk])
theorem mm_c {d : Int → Int → Int} {a b w h' : Int} {s s' : Nat → Bool} (h : ∀ k, k < 9 → s k = s' k) : ∀ k, k ≤ 9 → mm d a b w h' s k = mm d a b w h' s' k := by
  intro k
  induction k with
  | zero => intro _; rfl
  | succ k ih =>
    intro hk
    simp only [mm]
    rw [ih (by omega), h k (by omega)]
theorem MS_c {d : Int → Int → Int} {a b w h' T q : Int} {s s' : Nat → Bool} (h : ∀ k, k < 9 → s k = s' k) : MS d a b w h' s T q = MS d a b w h' s' T q := by
  unfold MS
  rw [mm_c h 9 (by omega)]
theorem FD_c {d : Int → Int → Int} {a b m n w : Int} {s s' : Nat → Bool} (h : ∀ k, k < 9 → s k = s' k) : FD d a b m n s w = FD d a b m n s' w := by
  unfold FD
  rw [FF_c h, MS_c h]
theorem st_std {m n : Int} (m1 : m = 2 ∨ m = 3) (n1 : n = 2 ∨ n = 3) (f : Int32) : ∀ k, k < 9 → gb (al m n &&& (f ^^^ (-1))) k = std m n f k := by
  intro k hk
  unfold std
  rw [gb_and, gb_xor, gb_al m1 n1 hk, gb_m1 (by omega)]
  simp
def okF (a b m n : Int) (f : Int32) (w : Int) : Prop := (2 ≤ a ∧ a ≤ 9) ∧ (2 ≤ b ∧ b ≤ 9) ∧ (2 ≤ m ∧ m ≤ 3) ∧ (2 ≤ n ∧ n ≤ 3) ∧ (f &&& (al m n ^^^ (-1))) = 0 ∧ (0 ≤ w ∧ w ≤ 11)
section AF
variable {σ : cdS} {n : Nat} {c : Nat → Int} {L : Nat} {r : Nat → Int} {d : Nat → Int → Int → Int} {t u g : Int32}
theorem C_field (I : IC σ n c L r d t u g) {z a b m k w : Int} {f : Int32} (hz : rI z) (ha : rI a) (hb : rI b) (hm : rI m) (hk : rI k) (hw : rI w) {Q : Int32 → cdS → Prop} (hQ : ∀ σ', frS σ σ' → Q (jI (rs (0 ≤ z ∧ z < n) (okF a b m k f w) (FD (d z.toNat) a b m k (std m k f) w))) σ') : wp_X5_field (jI z) (jI a) (jI b) (jI m) (jI k) f (jI w) σ Q := by
  intro P144 c144
  have hQ0 := hQ σ frS_rf
  refine L_isKnown I hz.1 hz.2 (fun kn => ⟨fun _ => ?_, fun q => absurd q (by decide)⟩) (fun kn => ⟨fun q => absurd rfl q, fun _ => by rw [rs_u kn] at hQ0; exact hQ0⟩)
  have out : ¬ okF a b m k f w → Q (-1000003) σ := fun ko => by rw [rs_o kn ko] at hQ0; exact hQ0
  refine L_isSpacing ha.1 ha.2 (fun k1 => ⟨fun q => absurd q (by decide), fun _ => ?_⟩) (fun k1 => ⟨fun _ => out (fun q => k1 q.1), fun q => absurd rfl q⟩)
  refine L_isSpacing hb.1 hb.2 (fun k2 => ⟨fun q => absurd q (by decide), fun _ => ?_⟩) (fun k2 => ⟨fun _ => out (fun q => k2 q.2.1), fun q => absurd rfl q⟩)
  refine L_isWithin (b := 2) (c := 3) hm.1 hm.2 (by decide) (by decide) (by decide) (by decide) (fun k3 => ⟨fun q => absurd q (by decide), fun _ => ?_⟩) (fun k3 => ⟨fun _ => out (fun q => k3 q.2.2.1), fun q => absurd rfl q⟩)
  refine L_isWithin (b := 2) (c := 3) hk.1 hk.2 (by decide) (by decide) (by decide) (by decide) (fun k4 => ⟨fun _ => ?_, fun q => absurd q (by decide)⟩) (fun k4 => ⟨fun q => absurd rfl q, fun _ => out (fun q => k4 q.2.2.2.1)⟩)
  have m1 : m = 2 ∨ m = 3 := by omega
  have n1 : k = 2 ∨ k = 3 := by omega
  refine L_bitsOfField m1 n1 ⟨fun k5 => out (fun q => k5 q.2.2.2.2.1), fun k5 => ?_⟩
  refine L_isWithin (b := 0) (c := 11) hw.1 hw.2 (by decide) (by decide) (by decide) (by decide) (fun k6 => ⟨fun _ => ?_, fun q => absurd q (by decide)⟩) (fun k6 => ⟨fun q => absurd rfl q, fun _ => out (fun q => k6 q.2.2.2.2.2)⟩)
  rw [rs_v kn ⟨k1, k2, k3, k4, k5, k6⟩] at hQ
  obtain ⟨v1, v2⟩ := IC_at I kn
  have wb := fW_b (a := a) k1.1 k1.2 m1
  have hb2 := fW_b (a := b) k2.1 k2.2 n1
  refine ⟨v1, L_layField v2 k1.1 k1.2 k2.1 k2.2 m1 n1 f (fun σ1 f1 G1 => ?_)⟩
  have R : bR (fW a m * fW b k).toNat (FF (d z.toNat) a b (fW a m) (std m k f)) := FF_R v2.2.1 _ (by omega) (by omega) (by omega) (by omega)
  have al' := am_lt (FF (d z.toNat) a b (fW a m) (std m k f)) R.1
  have R1 := R.2.1
  unfold FD at hQ
  have mis : (w = 10 ∨ w = 11) → P144 σ1 := by
    intro hw2
    rw [if_neg (by omega), if_neg (by omega), if_neg (by omega)] at hQ
    have e3 : σ1.1 3 = σ.1 3 := f1.1 3 (by decide) (by decide)
    refine c144 σ1 ⟨v1, ?_⟩
    rw [e3]
    exact L_tellMissed (hOK_G v2 f1) k1.1 k1.2 k2.1 k2.2 m1 n1 f hw2 G1 (hQ σ1 (frS_G f1))
  have G1 : gOK σ1 (fW a m) (fW b k) (FF (d z.toNat) a b (fW a m) (std m k f)) := G1
  simp only [jI_n]
  rw [jI_eq hw.1 hw.2 (by decide) (by decide), jI_eq hw.1 hw.2 (by decide) (by decide), jI_eq hw.1 hw.2 (by decide) (by decide), jI_eq hw.1 hw.2 (by decide) (by decide)]
  refine ⟨fun e8 => ?_, fun e8 => ⟨fun e9 => ?_, fun e9 => ⟨fun e10 => mis (Or.inl e10), fun e10 => ⟨fun e11 => mis (Or.inr e11), fun e11 => ?_⟩⟩⟩⟩
  · rw [if_neg (by omega), if_pos e8] at hQ
    refine L_driestPlace G1 R ?_
    rw [G1.2.2.2.2.1]
    exact L_floorMod (by omega) (by omega) (by omega) (by omega) (hQ σ1 (frS_G f1))
  · rw [if_neg (by omega), if_neg e8, if_pos e9] at hQ
    refine L_driestPlace G1 R ?_
    rw [G1.2.2.2.2.1]
    exact L_floorDivP (by omega) (by omega) (by omega) (by omega) (hQ σ1 (frS_G f1))
  · rw [if_pos (by omega)] at hQ
    exact L_gtell G1 R (by omega) (by omega) (fun σ2 f2 => hQ σ2 (frS_t (frS_G f1) (frS_K f2)))
theorem R_field (I : IM σ n c L r d t u g) {z a b m k w : Int} {f : Int32} (hz : rI z) (ha : rI a) (hb : rI b) (hm : rI m) (hk : rI k) (hw : rI w) {Q : Int32 → cdS → Prop} (hQ : ∀ σ', frM σ σ' → Q (jI (rs (0 ≤ z ∧ z < n) (okF a b m k f w) (FD (d z.toNat) a b m k (std m k f) w))) σ') : wp_X6_field (jI z) (jI a) (jI b) (jI m) (jI k) f (jI w) σ Q := by
  intro P55 P56 c55 c56
  have hQ0 := hQ σ frM_rf
  refine M_isHead I hz.1 hz.2 (fun kn => ⟨fun _ => ?_, fun q => absurd q (by decide)⟩) (fun kn => ⟨fun q => absurd rfl q, fun _ => by rw [rs_u kn] at hQ0; exact hQ0⟩)
  have out : ¬ okF a b m k f w → Q (-1000003) σ := fun ko => by rw [rs_o kn ko] at hQ0; exact hQ0
  have o55 : ¬ okF a b m k f w → P55 σ := fun ko => c55 _ (c56 _ _ ⟨fun _ => out ko, fun q => absurd rfl q⟩)
  refine M_isLaid (lay := 0) (by decide) (by decide) ha.1 ha.2 hb.1 hb.2 (fun k1 => ⟨fun q => absurd q (by decide), fun _ => ?_⟩) (fun k1 => ⟨fun _ => o55 (fun q => k1 ⟨by omega, q.1, q.2.1⟩), fun q => absurd rfl q⟩)
  refine M_within (b := 2) (c := 3) hm.1 hm.2 (by decide) (by decide) (by decide) (by decide) (fun k3 => ⟨fun q => absurd q (by decide), fun _ => ?_⟩) (fun k3 => ⟨fun _ => o55 (fun q => k3 q.2.2.1), fun q => absurd rfl q⟩)
  refine M_within (b := 2) (c := 3) hk.1 hk.2 (by decide) (by decide) (by decide) (by decide) (fun k4 => ⟨fun q => absurd q (by decide), fun _ => ?_⟩) (fun k4 => ⟨fun _ => o55 (fun q => k4 q.2.2.2.1), fun q => absurd rfl q⟩)
  refine M_within (b := 0) (c := 11) hw.1 hw.2 (by decide) (by decide) (by decide) (by decide) (fun k6 => ⟨fun q => absurd q (by decide), fun _ => ?_⟩) (fun k6 => ⟨fun _ => o55 (fun q => k6 q.2.2.2.2.2), fun q => absurd rfl q⟩)
  have m1 : m = 2 ∨ m = 3 := by omega
  have n1 : k = 2 ∨ k = 3 := by omega
  refine c56 _ _ ⟨fun q => absurd q (by decide), fun _ => M_allOf m1 n1 ⟨fun k5 => M_allOf m1 n1 ?_, fun k5 => out (fun q => k5 q.2.2.2.2.1)⟩⟩
  obtain ⟨l1, a1, b1⟩ := k1
  rw [rs_v kn ⟨a1, b1, k3, k4, k5, k6⟩, ← FD_c (st_std m1 n1 f)] at hQ
  have v2 := IM_at I kn
  have wb := fW_b (a := a) a1.1 a1.2 m1
  have hb2 := fW_b (a := b) b1.1 b1.2 n1
  generalize al m k &&& (f ^^^ (-1)) = st at *
  have R : bR (fW a m * fW b k).toNat (FF (d z.toNat) a b (fW a m) (gb st)) := FF_R v2.2.2.1 _ (by omega) (by omega) (by omega) (by omega)
  have al' := am_lt (FF (d z.toNat) a b (fW a m) (gb st)) R.1
  have R1 := R.2.1
  unfold FD at hQ
  intro P29 c29
  simp only [jI_n, jI_sub, jI_mul, jI_add]
  rw [jI_le hw.1 hw.2 (by decide) (by decide)]
  refine ⟨fun w9 => M_layField v2 a1.1 a1.2 b1.1 b1.2 m1 n1 st (fun σ3 f3 K3 x8 e8 => ?_), fun w9 => ?_⟩
  · have e8 : x8 = jI (fW a m) := e8
    have K3 : lOK σ3 (fW a m * fW b k).toNat (FF (d z.toNat) a b (fW a m) (gb st)) := K3
    have x0 : ¬ x8 = jI 0 := by rw [e8, jI_eq (by omega) (by omega) (by omega) (by omega)]; omega
    rw [jI_le (by decide) (by decide) hw.1 hw.2, jI_eq hw.1 hw.2 (by decide) (by decide)]
    refine ⟨fun w8 => ⟨fun w8' => M_driest K3 R ⟨x0, ?_⟩, fun w8' => M_driest K3 R ⟨x0, ?_⟩⟩, fun w8 => ?_⟩
    · rw [if_neg (by omega), if_neg w8', if_pos (by omega)] at hQ
      rw [e8, jI_divP (by omega) (by omega) (by omega) (by omega)]
      exact hQ σ3 (frM_L f3)
    · rw [if_neg (by omega), if_pos w8'] at hQ
      rw [e8, cdm_jP (by omega) (by omega) (by omega) (by omega)]
      exact hQ σ3 (frM_L f3)
    · rw [if_pos (by omega)] at hQ
      exact M_laidNow K3 R (by omega) (by omega) (hQ σ3 (frM_L f3))
  · rw [if_neg (by omega), if_neg (by omega), if_neg (by omega)] at hQ
    rw [jI_eq hw.1 hw.2 (by decide) (by decide)]
    refine ⟨fun w11 => c29 _ _ _ _ _ _ _ _ (M_missedOf v2 a1.1 a1.2 b1.1 b1.2 m1 n1 st (q := 0) (Or.inl rfl) (fun σ' f' => ?_)), fun w11 => c29 _ _ _ _ _ _ _ _ (M_missedOf v2 a1.1 a1.2 b1.1 b1.2 m1 n1 st (q := 1) (Or.inr rfl) (fun σ' f' => ?_))⟩
    · rw [show w = 10 by omega] at hQ
      exact hQ σ' (frM_L f')
    · rw [w11] at hQ
      exact hQ σ' (frM_L f')
/-- all that is thrown -/
def TA (d : Nat → Int → Int → Int) (n : Nat) : Int := sm n (fun k => TH (d k))
noncomputable def CT (n L : Nat) (d : Nat → Int → Int → Int) (t u g : Int32) (w : Int) : Int32 := if w = 0 then jI n else if w = 1 then jI L else if w = 2 then t else if w = 3 then u else if w = 4 then g else if w = 5 then jI (TA d n) else jI (-1000003)
theorem L_thrownOfAll (I : IC σ n c L r d t u g) {Q : Int32 → Prop} (hQ : Q (jI (TA d n))) : wp_X5_thrownOfAll σ Q := by
  have n4 := I.1
  intro P4 c4
  have key : ∀ (m k : Nat), k + m = n → P4 (jI (sm k (fun k => TH (d k)))) (jI k) := by
    intro m
    induction m with
    | zero =>
      intro k hk
      refine c4 _ _ ?_
      rw [I.2.1]
      refine ⟨fun _ => ?_, fun q => absurd ((jI_le (by omega) (by omega) (by omega) (by omega)).mpr (by omega)) q⟩
      rw [show k = n by omega]
      exact hQ
    | succ m ih =>
      intro k hk
      have ih := ih (k + 1) (by omega)
      refine c4 _ _ ?_
      rw [I.2.1]
      obtain ⟨v1, v2⟩ := IC_at I (z := (k : Int)) (by omega)
      rw [show ((k : Int)).toNat = k by omega] at v2
      refine ⟨fun q => absurd ((jI_le (by omega) (by omega) (by omega) (by omega)).mp q) (by omega), fun _ => ⟨v1, v2.1, L_thrown v2 (fun x1 e1 x2 e2 => ?_)⟩⟩
      rw [jI_add] at e1
      rw [jI_n, jI_add] at e2
      rw [e1, e2]
      exact ih
  exact key n 0 (by omega)
theorem M_thrownAll (I : IM σ n c L r d t u g) {Q : Int32 → Prop} (hQ : Q (jI (TA d n))) : wp_X6_thrownAll σ Q := by
  have n4 := I.1
  intro P4 c4
  have key : ∀ (m k : Nat), k + m = n → P4 (jI (sm k (fun k => TH (d k)))) (jI k) := by
    intro m
    induction m with
    | zero =>
      intro k hk
      refine c4 _ _ ?_
      rw [I.2.1]
      refine ⟨fun _ => ?_, fun q => absurd ((jI_le (by omega) (by omega) (by omega) (by omega)).mpr (by omega)) q⟩
      rw [show k = n by omega]
      exact hQ
    | succ m ih =>
      intro k hk
      have ih := ih (k + 1) (by omega)
      refine c4 _ _ ?_
      rw [I.2.1]
      refine ⟨fun q => absurd ((jI_le (by omega) (by omega) (by omega) (by omega)).mp q) (by omega), fun _ => M_thrownBy (I.2.2.2.2.2.2 k (by omega)) (fun x1 e1 x2 e2 => ?_)⟩
      rw [jI_add] at e1
      rw [jI_n, jI_add] at e2
      rw [e1, e2]
      exact ih
  exact key n 0 (by omega)
theorem C_count (I : IC σ n c L r d t u g) {w : Int} (hw : rI w) {Q : Int32 → Prop} (hQ : Q (CT n L d t u g w)) : wp_X5_count (jI w) σ Q := by
  unfold wp_X5_count
  unfold CT at hQ
  simp only [jI_n, jI_neg]
  rw [jI_eq hw.1 hw.2 (by decide) (by decide), jI_eq hw.1 hw.2 (by decide) (by decide), jI_eq hw.1 hw.2 (by decide) (by decide), jI_eq hw.1 hw.2 (by decide) (by decide), jI_eq hw.1 hw.2 (by decide) (by decide), jI_eq hw.1 hw.2 (by decide) (by decide)]
  refine ⟨fun e0 => ?_, fun e0 => ⟨fun e1 => ?_, fun e1 => ⟨fun e2 => ?_, fun e2 => ⟨fun e3 => ?_, fun e3 => ⟨fun e4 => ?_, fun e4 => ⟨fun e5 => ?_, fun e5 => ?_⟩⟩⟩⟩⟩⟩
  · rw [if_pos e0] at hQ; rw [I.2.1]; exact hQ
  · rw [if_neg e0, if_pos e1] at hQ
    unfold wp_X3_length
    rw [I.2.2.2.2.2.1.2.1]; exact hQ
  · rw [if_neg e0, if_neg e1, if_pos e2] at hQ; rw [I.2.2.1]; exact hQ
  · rw [if_neg e0, if_neg e1, if_neg e2, if_pos e3] at hQ; rw [I.2.2.2.1]; exact hQ
  · rw [if_neg e0, if_neg e1, if_neg e2, if_neg e3, if_pos e4] at hQ; rw [I.2.2.2.2.1]; exact hQ
  · rw [if_neg e0, if_neg e1, if_neg e2, if_neg e3, if_neg e4, if_pos e5] at hQ
    exact L_thrownOfAll I hQ
  · rw [if_neg e0, if_neg e1, if_neg e2, if_neg e3, if_neg e4, if_neg e5] at hQ
    exact hQ
theorem R_howMany (I : IM σ n c L r d t u g) {w : Int} (hw : rI w) {Q : Int32 → Prop} (hQ : Q (CT n L d t u g w)) : wp_X6_howMany (jI w) σ Q := by
  unfold wp_X6_howMany
  unfold CT at hQ
  simp only [jI_n, jI_neg]
  rw [jI_eq hw.1 hw.2 (by decide) (by decide), jI_eq hw.1 hw.2 (by decide) (by decide), jI_eq hw.1 hw.2 (by decide) (by decide), jI_eq hw.1 hw.2 (by decide) (by decide), jI_eq hw.1 hw.2 (by decide) (by decide), jI_eq hw.1 hw.2 (by decide) (by decide)]
  refine ⟨fun e0 => ?_, fun e0 => ⟨fun e1 => ?_, fun e1 => ⟨fun e2 => ?_, fun e2 => ⟨fun e3 => ?_, fun e3 => ⟨fun e4 => ?_, fun e4 => ⟨fun e5 => ?_, fun e5 => ?_⟩⟩⟩⟩⟩⟩
  · rw [if_pos e0] at hQ; rw [I.2.1]; exact hQ
  · rw [if_neg e0, if_pos e1] at hQ; rw [I.2.2.2.2.2.1.2.1]; exact hQ
  · rw [if_neg e0, if_neg e1, if_pos e2] at hQ; rw [I.2.2.1]; exact hQ
  · rw [if_neg e0, if_neg e1, if_neg e2, if_pos e3] at hQ; rw [I.2.2.2.1]; exact hQ
  · rw [if_neg e0, if_neg e1, if_neg e2, if_neg e3, if_pos e4] at hQ; rw [I.2.2.2.2.1]; exact hQ
  · rw [if_neg e0, if_neg e1, if_neg e2, if_neg e3, if_neg e4, if_pos e5] at hQ
    exact M_thrownAll I hQ
  · rw [if_neg e0, if_neg e1, if_neg e2, if_neg e3, if_neg e4, if_neg e5] at hQ
    exact hQ
theorem C_fault (I : IC σ n c L r d t u g) {Q : Int32 → Prop} (hQ : ∀ p, isM c L p → Q (jI (p : Nat))) : wp_X5_fault σ Q := L_firstFault I.2.2.2.2.2.1 hQ
theorem R_fault (I : IM σ n c L r d t u g) {Q : Int32 → cdS → Prop} (hQ : ∀ p σ', frP σ σ' → isM c L p → Q (jI (p : Nat)) σ') : wp_X6_fault σ Q := M_goAlong I.2.2.2.2.2.1 (fun p σ' _ _ _ f _ _ _ m => hQ p σ' f m)
end AF
