/-! GROUND of the class: how it is laid. -/
theorem sgn_xor {a b : Int} (a1 : -2147483648 ≤ a) (a2 : a < 2147483648) (b1 : 0 ≤ b) (b2 : b < 2147483648) : (0 : Int32) ≤ (jI a ^^^ jI b) ↔ 0 ≤ a := by
  have h0 : ∀ x : Int32, (0 : Int32) ≤ x ↔ x.toBitVec.msb = false := by
    intro x
    rw [Int32.le_iff_toInt_le, BitVec.msb_eq_toInt]
    show (0 : Int) ≤ x.toBitVec.toInt ↔ _
    simp
  rw [h0, Int32.toBitVec_xor, BitVec.msb_xor]
  have ha : (jI a).toBitVec.msb = decide (a < 0) := by
    rw [BitVec.msb_eq_toInt]
    show decide ((jI a).toInt < 0) = _
    rw [jI_toInt a1 a2]
  have hb : (jI b).toBitVec.msb = false := by
    rw [BitVec.msb_eq_toInt]
    show decide ((jI b).toInt < 0) = _
    rw [jI_toInt (by omega) b2]
    simp; omega
  rw [ha, hb]
  simp
/-- the rest by truncation, of a divisor above 0, and the other one -/
theorem tm_0 {a b : Int} : a.tmod b = 0 ↔ a % b = 0 := ⟨fun h => Int.emod_eq_zero_of_dvd (Int.dvd_of_tmod_eq_zero h), fun h => Int.tmod_eq_zero_of_dvd (Int.dvd_of_emod_eq_zero h)⟩
theorem tm_n {a b : Int} (a1 : a < 0) (b1 : 0 < b) (h : ¬ a.tmod b = 0) : a.tmod b + b = a % b := by
  rw [Int.tmod_eq_emod, if_neg (by
    intro q
    rcases q with q | q
    · omega
    · exact h (Int.tmod_eq_zero_of_dvd q))]
  omega
theorem td_n {a b : Int} (h : a % b = 0) : a.tdiv b = a / b := Int.tdiv_eq_ediv_of_dvd (Int.dvd_of_emod_eq_zero h)
theorem L_floorMod {a b : Int} {σ : cdS} {Q : Int32 → Prop} (a1 : -2147483648 ≤ a) (a2 : a < 2147483648) (b1 : 0 < b) (b2 : b < 2147483648) (hQ : Q (jI (a % b))) : wp_J9_floorMod_7cf53 (jI a) (jI b) σ Q := by
  refine ⟨fun h => ?_, fun x2 e2 => ?_⟩
  · rw [jI_n, jI_eq (by omega) (by omega) (by omega) (by omega)] at h
    omega
  rw [cdm_j a1 a2 (by omega) b2] at e2
  rw [e2, sgn_xor a1 a2 (by omega) b2]
  have hl := Int.tmod_lt_of_pos a b1
  have hg := Int.lt_tmod_of_pos a b1
  refine ⟨fun h => ?_, fun h => ⟨fun h2 => ?_, fun h2 => ?_⟩⟩
  · rw [Int.tmod_eq_emod_of_nonneg h]; exact hQ
  · rw [jI_n, jI_eq (by omega) (by omega) (by omega) (by omega)] at h2
    rw [h2]
    rw [tm_0.mp h2] at hQ
    exact hQ
  · rw [jI_n, jI_eq (by omega) (by omega) (by omega) (by omega)] at h2
    rw [jI_add, tm_n (by omega) b1 h2]
    exact hQ
theorem L_floorDivP {a b : Int} {σ : cdS} {Q : Int32 → Prop} (a1 : 0 ≤ a) (a2 : a < 2147483648) (b1 : 0 < b) (b2 : b < 2147483648) (hQ : Q (jI (a / b))) : wp_J9_floorDiv_7cf53 (jI a) (jI b) σ Q := by
  refine ⟨fun h => ?_, fun x2 e2 => ?_⟩
  · rw [jI_n, jI_eq (by omega) (by omega) (by omega) (by omega)] at h
    omega
  rw [jI_divP a1 a2 b1 b2] at e2
  rw [e2, sgn_xor (by omega) a2 (by omega) b2]
  exact ⟨fun _ => hQ, fun h => absurd a1 h⟩
-- the class's ground
def gOK (σ : cdS) (w h : Int) (F : Nat → Int) : Prop := 1 ≤ w ∧ w ≤ 19 ∧ 1 ≤ h ∧ h ≤ 19 ∧ σ.1 4 3 = jI w ∧ σ.1 4 4 = jI h ∧ ∀ i : Nat, (i : Int) < w * h → σ.1 5 i = jI (F i)
def frG (σ σ' : cdS) : Prop := (∀ a, a ≠ 4 → a ≠ 5 → σ'.1 a = σ.1 a) ∧ σ'.2 = σ.2
theorem frG_t {a b c : cdS} (h : frG a b) (k : frG b c) : frG a c := ⟨fun i u v => by rw [k.1 i u v, h.1 i u v], by rw [k.2, h.2]⟩
theorem frC_G {σ σ' : cdS} (h : frC 5 σ σ') : frG σ σ' := ⟨fun a _ v => h.1 a v, h.2⟩
theorem hOK_G {σ σ' : cdS} {h : Nat} {r : Int} {d : Int → Int → Int} (H : hOK σ h r d) (f : frG σ σ') : hOK σ' h r d := by
  obtain ⟨a, b, c, e⟩ := H
  exact ⟨a, b, by rw [f.1 _ (by omega) (by omega)]; exact c, by rw [f.1 _ (by omega) (by omega)]; exact e⟩
theorem wh_b {w h : Int} (w1 : 1 ≤ w) (w2 : w ≤ 19) (h1 : 1 ≤ h) (h2 : h ≤ 19) : 1 ≤ w * h ∧ w * h ≤ 361 := by
  refine ⟨?_, ?_⟩
  · have := Int.mul_le_mul w1 h1 (by omega) (by omega); omega
  · have := Int.mul_le_mul w2 h2 (by omega) (by omega); omega
theorem clamp19 {w : Int} (w1 : 1 ≤ w) (w2 : w ≤ 19) : (if jI 1 < (if jI w < jI 19 then jI w else jI 19) then (if jI w < jI 19 then jI w else jI 19) else jI 1) = jI w := by
  rw [show (if jI w < jI 19 then jI w else jI 19) = jI w by
    by_cases q : w < 19
    · rw [if_pos ((jI_lt (by omega) (by omega) (by omega) (by omega)).mpr q)]
    · rw [if_neg (fun k => q ((jI_lt (by omega) (by omega) (by omega) (by omega)).mp k)), show w = 19 by omega]]
  by_cases q : 1 < w
  · rw [if_pos ((jI_lt (by omega) (by omega) (by omega) (by omega)).mpr q)]
  · rw [if_neg (fun k => q ((jI_lt (by omega) (by omega) (by omega) (by omega)).mp k)), show w = 1 by omega]
theorem L_clear {w h : Int} {σ : cdS} {Q : cdS → Prop} (w1 : 1 ≤ w) (w2 : w ≤ 19) (h1 : 1 ≤ h) (h2 : h ≤ 19) (hQ : ∀ σ', frG σ σ' → gOK σ' w h (fun _ => 0) → Q σ') : wp_X1_clear (jI w) (jI h) σ Q := by
  intro P hP σ1 e1 σ2 e2
  have hb := wh_b w1 w2 h1 h2
  simp only [jI_n, jI_neg, jI_add, jI_sub, jI_mul] at e1 e2
  rw [clamp19 w1 w2] at e1
  rw [clamp19 h1 h2] at e2
  have f2 : frG σ σ2 := by
    rw [e2, e1]
    exact ⟨fun a u v => by rw [cdU_ne u, cdU_ne u], rfl⟩
  have s3 : σ2.1 4 3 = jI w := by rw [e2, cdU_j (by decide), e1, cdU_s]
  have s4 : σ2.1 4 4 = jI h := by rw [e2, cdU_s]
  have key : ∀ (n i : Nat) (σ' : cdS), (i : Int) + n = w * h → frC 5 σ2 σ' → (∀ j, j < i → σ'.1 5 j = jI 0) → P (jI i) σ' := by
    intro n
    induction n with
    | zero =>
      intro i σ' hi hf hB
      refine hP _ _ ?_
      unfold wp_X1_many
      rw [hf.1 4 (by decide), s3, s4, jI_mul]
      refine ⟨fun _ => hQ σ' (frG_t f2 (frC_G hf)) ⟨w1, w2, h1, h2, by rw [hf.1 4 (by decide), s3], by rw [hf.1 4 (by decide), s4], fun j hj => hB j (by omega)⟩, fun k => absurd ((jI_le (by omega) (by omega) (by omega) (by omega)).mpr (by omega)) k⟩
    | succ n ih =>
      intro i σ' hi hf hB
      refine hP _ _ ?_
      unfold wp_X1_many
      rw [hf.1 4 (by decide), s3, s4, jI_mul]
      refine ⟨fun k => absurd ((jI_le (by omega) (by omega) (by omega) (by omega)).mp k) (by omega), fun _ => ⟨(jI_in (by omega) (by omega)).mpr (by omega), fun σ7 e7 z hz => ?_⟩⟩
      rw [jI_n, jI_add] at hz
      rw [jI_cl (by omega) (by omega), show ((i : Int)).toNat = i by omega] at e7
      rw [hz, e7]
      refine ih (i + 1) _ (by omega) (frC_U hf) (fun j hj => ?_)
      by_cases hji : j = i
      · rw [hji, cdU_s]; rfl
      · rw [cdU_j hji]; exact hB j (by omega)
  exact key (w * h).toNat 0 σ2 (by omega) frC_rf (fun j hj => absurd hj (by omega))
def pl (w h x y : Int) : Int := (y % h) * w + x % w
theorem pl_b {w h : Int} (w1 : 1 ≤ w) (h1 : 1 ≤ h) (x y : Int) : 0 ≤ pl w h x y ∧ pl w h x y < w * h := by
  unfold pl
  have a := Int.emod_nonneg x (show w ≠ 0 by omega)
  have b := Int.emod_lt_of_pos x (show 0 < w by omega)
  have c := Int.emod_nonneg y (show h ≠ 0 by omega)
  have d := Int.emod_lt_of_pos y (show 0 < h by omega)
  have e : 0 ≤ (y % h) * w := Int.mul_nonneg c (by omega)
  have f : (y % h + 1) * w ≤ h * w := Int.mul_le_mul_of_nonneg_right (by omega) (by omega)
  rw [Int.add_mul, Int.one_mul, Int.mul_comm h w] at f
  omega
theorem pl_i {w h x y u v : Int} (w1 : 1 ≤ w) (h1 : 1 ≤ h) : pl w h x y = pl w h u v ↔ (x - u) % w = 0 ∧ (y - v) % h = 0 := by
  have a := Int.emod_nonneg x (show w ≠ 0 by omega)
  have b := Int.emod_lt_of_pos x (show 0 < w by omega)
  have a' := Int.emod_nonneg u (show w ≠ 0 by omega)
  have b' := Int.emod_lt_of_pos u (show 0 < w by omega)
  have k1 : (x - u) % w = 0 ↔ x % w = u % w := (Int.emod_eq_emod_iff_emod_sub_eq_zero).symm
  have k2 : (y - v) % h = 0 ↔ y % h = v % h := (Int.emod_eq_emod_iff_emod_sub_eq_zero).symm
  rw [k1, k2]
  unfold pl
  refine ⟨fun e => ?_, fun ⟨e1, e2⟩ => by rw [e1, e2]⟩
  have q1 : ((y % h) * w + x % w) % w = x % w := by rw [Int.add_comm, Int.add_mul_emod_self_right, Int.emod_emod]
  have q2 : ((v % h) * w + u % w) % w = u % w := by rw [Int.add_comm, Int.add_mul_emod_self_right, Int.emod_emod]
  have hx : x % w = u % w := by rw [← q1, ← q2, e]
  refine ⟨hx, ?_⟩
  rw [hx] at e
  have : (y % h) * w = (v % h) * w := by omega
  exact Int.eq_of_mul_eq_mul_right (by omega) this
theorem L_wrappedPlace {w h x y : Int} {σ : cdS} {Q : Int32 → Prop} (w1 : 1 ≤ w) (w2 : w ≤ 19) (h1 : 1 ≤ h) (h2 : h ≤ 19) (s3 : σ.1 4 3 = jI w) (s4 : σ.1 4 4 = jI h) (x1 : -2000000 ≤ x) (x2 : x ≤ 2000000) (y1 : -2000000 ≤ y) (y2 : y ≤ 2000000) (hQ : Q (jI (pl w h x y))) : wp_X1_wrappedPlace (jI x) (jI y) σ Q := by
  unfold wp_X1_wrappedPlace
  rw [s3, s4]
  refine L_floorMod (by omega) (by omega) (by omega) (by omega) (L_floorMod (by omega) (by omega) (by omega) (by omega) ?_)
  rw [jI_mul, jI_add]
  exact hQ
/-- what a head that stands at (X, Y) throws on the cell i of a tile -/
def aw (d : Int → Int → Int) (w h X Y : Int) (u v : Int) (i : Nat) : Int := if (i : Int) = pl w h (X + u) (Y + v) then d u v else 0
def AW (d : Int → Int → Int) (w h X Y : Int) (i : Nat) : Int := S7 (fun v => S7 (fun u => aw d w h X Y u v i))
theorem L_addWrapped {σ : cdS} {n1 : Nat} {r : Int} {d : Int → Int → Int} (H : hOK σ n1 r d) {w h : Int} {F : Nat → Int} (G : gOK σ w h F) {X Y : Int} (x1 : -1000000 ≤ X) (x2 : X ≤ 1000000) (y1 : -1000000 ≤ Y) (y2 : Y ≤ 1000000) {Q : cdS → Prop}
    (hQ : ∀ σ', frG σ σ' → gOK σ' w h (fun i => F i + AW d w h X Y i) → Q σ') : wp_X1_addWrapped n1 (jI X) (jI Y) σ Q := by
  have H0 := H
  obtain ⟨h5, ⟨r1, r3, hz, h35⟩, hs, hd⟩ := H
  obtain ⟨w1, w2, hh1, hh2, s3, s4, hF⟩ := G
  have hb := wh_b w1 w2 hh1 hh2
  intro P11 P23 c11 c23
  refine ⟨h5, L_reach H0 (fun x5 e5 => ?_)⟩
  rw [jI_neg] at e5
  have inner : ∀ (a : Nat), (a : Int) ≤ 2 * r → ∀ (F1 : Nat → Int), (∀ σ', frC 5 σ σ' → (∀ i : Nat, (i : Int) < w * h → σ'.1 5 i = jI (F1 i + sm (2 * r + 1).toNat (fun b => aw d w h X Y ((b : Int) - r) ((a : Int) - r) i))) → P11 (jI r) (jI ((a : Int) - r + 1)) σ') →
      ∀ (n b : Nat) (σ' : cdS), b + n = (2 * r + 1).toNat → frC 5 σ σ' → (∀ i : Nat, (i : Int) < w * h → σ'.1 5 i = jI (F1 i + sm b (fun b => aw d w h X Y ((b : Int) - r) ((a : Int) - r) i))) → P23 (jI r) (jI ((a : Int) - r)) (jI ((b : Int) - r)) σ' := by
    intro a ha F1 hn n
    induction n with
    | zero =>
      intro b σ' hbn hf hB
      refine c23 _ _ _ _ ⟨fun _ z hz => ?_, fun k => absurd ((jI_lt (by omega) (by omega) (by omega) (by omega)).mpr (by omega)) k⟩
      rw [jI_n, jI_add] at hz
      rw [hz]
      exact hn σ' hf (fun i hi => by rw [hB i hi, show b = (2 * r + 1).toNat by omega])
    | succ n ih =>
      intro b σ' hbn hf hB
      refine c23 _ _ _ _ ⟨fun k => absurd ((jI_lt (by omega) (by omega) (by omega) (by omega)).mp k) (by omega), fun _ => ?_⟩
      rw [jI_add, jI_add]
      have hp := pl_b w1 hh1 (X + ((b : Int) - r)) (Y + ((a : Int) - r))
      have hin : vp_in (jI (pl w h (X + ((b : Int) - r)) (Y + ((a : Int) - r)))) 361 := (jI_in (by omega) (by omega)).mpr (by omega)
      refine L_wrappedPlace w1 w2 hh1 hh2 (by rw [hf.1 4 (by decide), s3]) (by rw [hf.1 4 (by decide), s4]) (by omega) (by omega) (by omega) (by omega) ⟨hin, h5, ?_⟩
      refine L_depthAt (hOK_G H0 (frC_G hf)) (by omega) (by omega) (by omega) (by omega) ⟨hin, fun σ1 e1 z hz => ?_⟩
      rw [jI_n, jI_add] at hz
      rw [jI_cl (by omega) (by omega), hB _ (by omega), jI_add] at e1
      have := ih (b + 1) σ1 (by omega) (by rw [e1]; exact frC_U hf) (fun i hi => ?_)
      · rw [hz, show (b : Int) - r + 1 = ((b + 1 : Nat) : Int) - r by omega]
        exact this
      · rw [e1]
        simp only [sm]
        by_cases hip : (i : Int) = pl w h (X + ((b : Int) - r)) (Y + ((a : Int) - r))
        · rw [show i = (pl w h (X + ((b : Int) - r)) (Y + ((a : Int) - r))).toNat by omega, cdU_s]
          congr 1
          have e : aw d w h X Y ((b : Int) - r) ((a : Int) - r) (pl w h (X + ((b : Int) - r)) (Y + ((a : Int) - r))).toNat = d ((b : Int) - r) ((a : Int) - r) := if_pos (by omega)
          rw [e]
          omega
        · rw [cdU_j (by omega), hB i hi]
          congr 1
          have e : aw d w h X Y ((b : Int) - r) ((a : Int) - r) i = 0 := if_neg hip
          rw [e]
          omega
  have outer : ∀ (n a : Nat) (σ' : cdS), a + n = (2 * r + 1).toNat → frC 5 σ σ' → (∀ i : Nat, (i : Int) < w * h → σ'.1 5 i = jI (F i + sm a (fun a => sm (2 * r + 1).toNat (fun b => aw d w h X Y ((b : Int) - r) ((a : Int) - r) i)))) → P11 (jI r) (jI ((a : Int) - r)) σ' := by
    intro n
    induction n with
    | zero =>
      intro a σ' han hf hB
      refine c11 _ _ _ ⟨fun _ => hQ σ' (frC_G hf) ⟨w1, w2, hh1, hh2, by rw [hf.1 4 (by decide), s3], by rw [hf.1 4 (by decide), s4], fun i hi => ?_⟩, fun k => absurd ((jI_lt (by omega) (by omega) (by omega) (by omega)).mpr (by omega)) k⟩
      rw [hB i hi, show a = (2 * r + 1).toNat by omega]
      congr 1
      have zz : ∀ u v, (u < -r ∨ r < u ∨ v < -r ∨ r < v) → aw d w h X Y u v i = 0 := fun u v k => by
        unfold aw
        rw [hz u v k]
        split <;> rfl
      show _ = F i + S7 (fun v => S7 (fun u => aw d w h X Y u v i))
      rw [← S7_r (r := r) (f := fun v => S7 (fun u => aw d w h X Y u v i)) r1 r3 (fun v hv => by
        have : ∀ u, aw d w h X Y u v i = 0 := fun u => zz u v (by omega)
        simp [S7, this])]
      refine congrArg (fun z => F i + z) (sm_c (fun a ha => ?_))
      rw [← S7_r (r := r) (f := fun u => aw d w h X Y u ((a : Int) - r) i) r1 r3 (fun u hu => zz u _ (by omega))]
    | succ n ih =>
      intro a σ' han hf hB
      refine c11 _ _ _ ⟨fun k => absurd ((jI_lt (by omega) (by omega) (by omega) (by omega)).mp k) (by omega), fun _ z hz => ?_⟩
      rw [jI_neg] at hz
      rw [hz]
      have := inner a (by omega) (fun i => F i + sm a (fun a => sm (2 * r + 1).toNat (fun b => aw d w h X Y ((b : Int) - r) ((a : Int) - r) i))) (fun σ2 f2 hB2 => ?_) (2 * r + 1).toNat 0 σ' (by omega) hf (fun i hi => by rw [hB i hi]; simp [sm])
      · rw [show -r = ((0 : Nat) : Int) - r by omega]
        exact this
      · have := ih (a + 1) σ2 (by omega) f2 (fun i hi => by rw [hB2 i hi]; simp only [sm]; congr 1; omega)
        rw [show (a : Int) - r + 1 = ((a + 1 : Nat) : Int) - r by omega]
        exact this
  have := outer (2 * r + 1).toNat 0 σ (by omega) frC_rf (fun i hi => by rw [hF i hi]; simp [sm])
  rw [e5, show -r = ((0 : Nat) : Int) - r by omega]
  exact this
