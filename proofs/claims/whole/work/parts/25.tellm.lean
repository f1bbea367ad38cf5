/-! THE REFERENCE tells of its row. -/
theorem lOK_0 {σ : cdS} {n : Nat} {F : Nat → Int} (K : lOK σ n F) {i : Nat} (hi : i < n) : σ.1 23 i = jI (F i) := K.2.2.2 i hi
theorem M_least {σ : cdS} {n : Nat} {F : Nat → Int} (K : lOK σ n F) (B : bR n F) {Q : Int32 → Prop} (hQ : Q (jI (F (am F n)))) : wp_X6_least σ Q := by
  have n0 := B.1
  have n1 := B.2.1
  intro P P37 hP h37
  refine ⟨(jI_in (a := 0) (by omega) (by omega)).mpr (by omega), fun x1 e1 => ?_⟩
  have e1 : x1 = jI (F 0) := by rw [e1, show Int32.toNatClampNeg 0 = 0 from rfl]; exact lOK_0 K (by omega)
  have key : ∀ (m i : Nat), i + m = n → 1 ≤ i → P (jI (F (am F i))) (jI i) := by
    intro m
    induction m with
    | zero =>
      intro i hi i1
      refine hP _ _ ?_
      rw [K.2.1]
      refine ⟨fun _ => ?_, fun k => absurd ((jI_le (by omega) (by omega) (by omega) (by omega)).mpr (by omega)) k⟩
      rw [show i = n by omega]
      exact hQ
    | succ m ih =>
      intro i hi i1
      have ih := ih (i + 1) (by omega) (by omega)
      have hm := am_lt F i1
      have b1 := B.2.2 i (by omega)
      have b2 := B.2.2 (am F i) (by omega)
      have go : ∀ z, F (am F (i + 1)) = z → P37 (jI i) (jI z) := by
        intro z ez
        refine h37 _ _ (fun y hy => ?_)
        rw [jI_n, jI_add] at hy
        rw [hy, ← ez]
        exact ih
      refine hP _ _ ?_
      rw [K.2.1]
      refine ⟨fun k => absurd ((jI_le (by omega) (by omega) (by omega) (by omega)).mp k) (by omega), fun _ => ⟨(jI_in (by omega) (by omega)).mpr (by omega), ?_⟩⟩
      rw [jI_cl (by omega) (by omega), show ((i : Int)).toNat = i by omega, lOK_0 K (by omega), jI_le (by omega) (by omega) (by omega) (by omega)]
      exact ⟨fun k => go _ (by simp only [am]; rw [if_pos k]), fun k => ⟨(jI_in (by omega) (by omega)).mpr (by omega), go _ (by simp only [am]; rw [if_neg k])⟩⟩
  have := key (n - 1) 1 (by omega) (by omega)
  rw [show am F 1 = 0 by simp [am]] at this
  rw [e1]
  exact this
theorem M_greatest {σ : cdS} {n : Nat} {F : Nat → Int} (K : lOK σ n F) (B : bR n F) {Q : Int32 → Prop} (hQ : Q (jI (mx F n))) : wp_X6_greatest σ Q := by
  have n0 := B.1
  have n1 := B.2.1
  intro P P37 hP h37
  refine ⟨(jI_in (a := 0) (by omega) (by omega)).mpr (by omega), fun x1 e1 => ?_⟩
  have e1 : x1 = jI (F 0) := by rw [e1, show Int32.toNatClampNeg 0 = 0 from rfl]; exact lOK_0 K (by omega)
  have key : ∀ (m i : Nat), i + m = n → 1 ≤ i → P (jI (mx F i)) (jI i) := by
    intro m
    induction m with
    | zero =>
      intro i hi i1
      refine hP _ _ ?_
      rw [K.2.1]
      refine ⟨fun _ => ?_, fun k => absurd ((jI_le (by omega) (by omega) (by omega) (by omega)).mpr (by omega)) k⟩
      rw [show i = n by omega]
      exact hQ
    | succ m ih =>
      intro i hi i1
      have ih := ih (i + 1) (by omega) (by omega)
      have b1 := B.2.2 i (by omega)
      have b2 := mx_b (F := F) (n := i) (fun j hj => B.2.2 j (by omega))
      have go : ∀ z, mx F (i + 1) = z → P37 (jI i) (jI z) := by
        intro z ez
        refine h37 _ _ (fun y hy => ?_)
        rw [jI_n, jI_add] at hy
        rw [hy, ← ez]
        exact ih
      refine hP _ _ ?_
      rw [K.2.1]
      refine ⟨fun k => absurd ((jI_le (by omega) (by omega) (by omega) (by omega)).mp k) (by omega), fun _ => ⟨(jI_in (by omega) (by omega)).mpr (by omega), ?_⟩⟩
      rw [jI_cl (by omega) (by omega), show ((i : Int)).toNat = i by omega, lOK_0 K (by omega), jI_le (by omega) (by omega) (by omega) (by omega)]
      exact ⟨fun k => go _ (by simp only [mx]; rw [if_neg (by omega)]), fun k => ⟨(jI_in (by omega) (by omega)).mpr (by omega), go _ (by simp only [mx]; rw [if_pos (by omega)])⟩⟩
  have := key (n - 1) 1 (by omega) (by omega)
  have b0 := B.2.2 0 (by omega)
  rw [show mx F 1 = F 0 by
    show (if mx F 0 < F 0 then F 0 else mx F 0) = F 0
    have z : mx F 0 = 0 := rfl
    by_cases q : mx F 0 < F 0
    · rw [if_pos q]
    · rw [if_neg q]; omega] at this
  rw [e1]
  exact this
theorem M_driest {σ : cdS} {n : Nat} {F : Nat → Int} (K : lOK σ n F) (B : bR n F) {Q : Int32 → Prop} (hQ : Q (jI (am F n : Nat))) : wp_X6_driest σ Q := by
  have n0 := B.1
  have n1 := B.2.1
  intro P P37 hP h37
  have key : ∀ (m i : Nat), i + m = n → 1 ≤ i → P (jI (am F i : Nat)) (jI i) := by
    intro m
    induction m with
    | zero =>
      intro i hi i1
      refine hP _ _ ?_
      rw [K.2.1]
      refine ⟨fun _ => ?_, fun k => absurd ((jI_le (by omega) (by omega) (by omega) (by omega)).mpr (by omega)) k⟩
      rw [show i = n by omega]
      exact hQ
    | succ m ih =>
      intro i hi i1
      have ih := ih (i + 1) (by omega) (by omega)
      have hm := am_lt F i1
      have b1 := B.2.2 i (by omega)
      have b2 := B.2.2 (am F i) (by omega)
      have go : ∀ z, am F (i + 1) = z → P37 (jI i) (jI (z : Nat)) := by
        intro z ez
        refine h37 _ _ (fun y hy => ?_)
        rw [jI_n, jI_add] at hy
        rw [hy, ← ez]
        exact ih
      refine hP _ _ ?_
      rw [K.2.1]
      refine ⟨fun k => absurd ((jI_le (by omega) (by omega) (by omega) (by omega)).mp k) (by omega), fun _ => ⟨(jI_in (by omega) (by omega)).mpr (by omega), (jI_in (by omega) (by omega)).mpr (by omega), ?_⟩⟩
      rw [jI_cl (by omega) (by omega), show ((am F i : Nat) : Int).toNat = am F i by omega, lOK_0 K (by omega), jI_cl (by omega) (by omega), show ((i : Int)).toNat = i by omega, lOK_0 K (by omega), jI_le (by omega) (by omega) (by omega) (by omega)]
      exact ⟨fun k => go _ (by simp only [am]; rw [if_pos k]), fun k => go _ (by simp only [am]; rw [if_neg k])⟩
  have := key (n - 1) 1 (by omega) (by omega)
  rw [show am F 1 = 0 by simp [am]] at this
  exact this
theorem cmp_0 {a : Int} (a1 : -9223372036854775808 ≤ a) (a2 : a < 9223372036854775808) : (lg_cmp (jL a) (0 : Int64) = 0 ↔ a = 0) ∧ (0 ≤ lg_cmp (jL a) (0 : Int64) ↔ 0 ≤ a) := by
  rw [jL_n, lg_cmp_j a1 a2 (by omega) (by omega)]
  by_cases h : a > 0
  · rw [if_pos h]
    exact ⟨⟨fun k => absurd k (by decide), fun k => absurd k (by omega)⟩, ⟨fun _ => by omega, fun _ => by decide⟩⟩
  · rw [if_neg h]
    by_cases h2 : a = 0
    · rw [if_pos h2]
      exact ⟨⟨fun _ => h2, fun _ => rfl⟩, ⟨fun _ => by omega, fun _ => by decide⟩⟩
    · rw [if_neg h2]
      exact ⟨⟨fun k => absurd k (by decide), fun k => absurd k h2⟩, ⟨fun k => absurd k (by decide), fun k => absurd k (by omega)⟩⟩
theorem M_common {σ : cdS} {A B : Int} (a1 : -9223372036854775807 ≤ A) (a2 : A < 9223372036854775808) (b1 : 0 ≤ B) (b2 : B < 9223372036854775808) {Q : Int64 → Prop} (hQ : Q (jL (Int.gcd A B : Int))) : wp_X6_common (jL A) (jL B) σ Q := by
  intro P12 P17 c12 c17
  have key : ∀ (y : Nat), (y : Int) < 9223372036854775808 → ∀ (x : Nat), (x : Int) < 9223372036854775808 → Q (jL (Nat.gcd x y : Nat)) → P17 (jL x) (jL y) := by
    intro y
    induction y using Nat.strongRecOn with
    | ind y ih =>
      intro hy x hx hq
      refine c17 _ _ ?_
      rw [(cmp_0 (by omega) (by omega)).1]
      refine ⟨fun e => ?_, fun e => ⟨?_, fun z hz => ?_⟩⟩
      · rw [show y = 0 by omega, Nat.gcd_zero_right] at hq
        exact hq
      · rw [jL_n, jL_eq (by omega) (by omega) (by omega) (by omega)]; exact e
      · have ypos : 0 < y := by omega
        have r1 := Nat.mod_lt x ypos
        rw [cdmL_j (by omega) (by omega) (by omega) (by omega), Int.tmod_eq_emod_of_nonneg (by omega)] at hz
        rw [hz]
        refine ih (x % y) r1 (by omega) y hy ?_
        rw [← show Nat.gcd x y = Nat.gcd y (x % y) by rw [Nat.gcd_comm x y, Nat.gcd_rec y x, Nat.gcd_comm]]
        exact hq
  have fin : P12 (jL (A.natAbs : Nat)) := by
    refine c12 _ ?_
    have := key B.natAbs (by omega) A.natAbs (by omega) hQ
    rw [show ((B.natAbs : Nat) : Int) = B by omega] at this
    exact this
  rw [(cmp_0 (by omega) (by omega)).2]
  refine ⟨fun k => ?_, fun k => ?_⟩
  · rw [show ((A.natAbs : Nat) : Int) = A by omega] at fin
    exact fin
  · rw [jL_neg]
    rw [show ((A.natAbs : Nat) : Int) = -A by omega] at fin
    exact fin
theorem td_le {A : Int} {g : Int} (g1 : 1 ≤ g) : (A.tdiv g).natAbs ≤ A.natAbs := Int.natAbs_tdiv_le_natAbs A g
theorem M_lowest {σ : cdS} {A B p : Int} (a1 : -2147483647 ≤ A) (a2 : A < 2147483648) (b1 : 0 < B) (b2 : B < 2147483648) (p0 : 0 ≤ p) (p1 : p ≤ 1) {Q : Int32 → Prop} (hQ : Q (jI (rq A B (if p = 0 then A else B)))) : wp_X6_lowest (jL A) (jL B) (jI p) σ Q := by
  have hg := gcd_p (A := A) b1
  refine M_common (by omega) (by omega) (by omega) (by omega) ?_
  have g0 : ¬ jL (Int.gcd A B : Int) = 0 := by rw [jL_n, jL_eq (by omega) (by omega) (by omega) (by omega)]; omega
  have tA := td_le (A := A) (g := (Int.gcd A B : Int)) (by omega)
  have tB := td_le (A := B) (g := (Int.gcd A B : Int)) (by omega)
  rw [jI_n, jI_eq (by omega) (by omega) (by omega) (by omega)]
  refine ⟨fun k => ⟨g0, ?_⟩, fun k => ⟨g0, ?_⟩⟩
  · rw [jL_div (by omega) (by omega) (by omega) (by omega), jL_i (by omega) (by omega)]
    rw [if_neg k] at hQ
    exact hQ
  · rw [jL_div (by omega) (by omega) (by omega) (by omega), jL_i (by omega) (by omega)]
    rw [if_pos k] at hQ
    exact hQ
theorem M_evenAbove {σ : cdS} {n : Nat} {F : Nat → Int} (K : lOK σ n F) (B : bR n F) {Q : Int64 → Prop} (hQ : Q (jL (eA n F))) : wp_X6_evenAbove σ Q := by
  have n1 := B.2.1
  have tb := sm_bR B _ (Nat.le_refl _)
  intro P4 P49 c4 c49
  have key : ∀ (m i : Nat), i + m = n → P4 (jL (eO n F i)) (jI i) := by
    intro m
    induction m with
    | zero =>
      intro i hi
      refine c4 _ _ ?_
      rw [K.2.1, K.2.2.1]
      refine ⟨fun _ => ?_, fun k => absurd ((jI_le (by omega) (by omega) (by omega) (by omega)).mpr (by omega)) k⟩
      rw [jI_l (by omega) (by omega), jI_l (by omega) (by omega), jL_mul, jL_sub, show i = n by omega]
      exact hQ
    | succ m ih =>
      intro i hi
      have ih := ih (i + 1) (by omega)
      have at' := ab_t B i (by omega)
      have b1 := B.2.2 i (by omega)
      have go : ∀ z, ab (n * F i - sm n F) = z → P49 (jI i) (jL z) (jL (eO n F i)) := by
        intro z ez
        refine c49 _ _ _ (fun x1 e1 x3 e3 => ?_)
        rw [jL_add] at e1
        rw [jI_n, jI_add] at e3
        rw [e1, e3, ← ez]
        exact ih
      refine c4 _ _ ?_
      rw [K.2.1, K.2.2.1]
      refine ⟨fun k => absurd ((jI_le (by omega) (by omega) (by omega) (by omega)).mp k) (by omega), fun _ => ⟨(jI_in (by omega) (by omega)).mpr (by omega), fun x4 e4 => ?_⟩⟩
      rw [jI_cl (by omega) (by omega), show ((i : Int)).toNat = i by omega, lOK_0 K (by omega), jI_l (by omega) (by omega), jI_l (by omega) (by omega), jI_l (by omega) (by omega), jL_mul, jL_sub] at e4
      rw [e4, (cmp_0 (by omega) (by omega)).2]
      refine ⟨fun k => go _ (by unfold ab; rw [if_pos k]), fun k => ?_⟩
      rw [jL_neg]
      exact go _ (by unfold ab; rw [if_neg k]; omega)
  exact key n 0 (by omega)
def ge (n : Nat) (F : Nat → Int) (v : Int) : Int := sm n (fun i => if v ≤ F i then 1 else 0)
theorem ge_s (n : Nat) (F : Nat → Int) (v : Int) : ge n F v = cn n F v + ge n F (v + 1) := by
  unfold ge cn
  rw [← sm_a]
  refine sm_c (fun i _ => ?_)
  by_cases h : F i = v
  · rw [if_pos (by omega), if_pos h, if_neg (by omega)]; rfl
  · rw [if_neg h]
    by_cases h2 : v ≤ F i
    · rw [if_pos h2, if_pos (by omega)]; rfl
    · rw [if_neg h2, if_neg (by omega)]; rfl
theorem am_min {F : Nat → Int} : ∀ {n i : Nat}, i < n → F (am F n) ≤ F i := by
  intro n
  induction n with
  | zero => intro i hi; omega
  | succ n ih =>
    intro i hi
    simp only [am]
    by_cases h : F (am F n) ≤ F n
    · rw [if_pos h]
      by_cases q : i = n
      · rw [q]; exact h
      · exact ih (by omega)
    · rw [if_neg h]
      by_cases q : i = n
      · rw [q]; exact Int.le_refl _
      · have := ih (i := i) (by omega); omega
theorem ge_all {n : Nat} {F : Nat → Int} : ge n F (F (am F n)) = n := by
  unfold ge
  have : ∀ m, m ≤ n → sm m (fun i => if F (am F n) ≤ F i then (1 : Int) else 0) = m := by
    intro m
    induction m with
    | zero => intro _; rfl
    | succ m ih =>
      intro hm
      simp only [sm]
      rw [ih (by omega), if_pos (am_min (by omega))]
      omega
  exact this n (Nat.le_refl n)
/-- where no cell has the depth v, nothing is taken there -/
theorem dy_skip {n : Nat} {F : Nat → Int} : ∀ (m : Nat) (k : Nat) (v l : Int), (∀ u, v ≤ u → u < v + m → cn n F u = 0) → 0 ≤ l → dy n F (m + k) v l = dy n F k (v + m) l := by
  intro m
  induction m with
  | zero => intro k v l _ _; simp
  | succ m ih =>
    intro k v l h l0
    rw [show m + 1 + k = (m + k) + 1 by omega]
    simp only [dy]
    have h0 := h v (by omega) (by omega)
    by_cases q : l ≤ 0
    · rw [if_pos q]
      have : ∀ (j : Nat) (u : Int), dy n F j u l = 0 := by
        intro j u
        cases j with
        | zero => rfl
        | succ j => simp only [dy]; rw [if_pos q]
      rw [this]
    · rw [if_neg q, h0]
      have e : mi 0 l = 0 := by unfold mi; rw [if_pos (by omega)]
      rw [e, Int.zero_mul, Int.zero_add, Int.sub_zero, ih k (v + 1) l (fun u a b => h u (by omega) (by omega)) l0]
      congr 1
      omega
theorem cn_0 {n : Nat} {F : Nat → Int} {v : Int} (h : v < F (am F n)) : cn n F v = 0 := by
  unfold cn
  refine sm_z (fun i hi => if_neg (fun e => ?_))
  have := am_min (F := F) hi
  omega
theorem M_dry {σ : cdS} {n : Nat} {F : Nat → Int} (K : lOK σ n F) (B : bR n F) {Q : Int64 → Prop} (hQ : Q (jL (DR n F))) : wp_X6_dry σ Q := by
  have n0 := B.1
  have n1 := B.2.1
  have qb := qu_b B
  have lb := B.2.2 (am F n) (am_lt F n0)
  intro P17 P24 P58 P64 c17 c24 c58 c64 x3 e3
  rw [K.2.1, jI_n, jI_n, jI_add, jI_divP (by omega) (by omega) (by omega) (by omega)] at e3
  refine M_least K B ?_
  rw [e3]
  -- one depth: the cells that have it, as far as is left
  have inner : ∀ (v : Int), 0 ≤ v → v ≤ 560 → ∀ (s l : Int), 0 ≤ s → s ≤ 100000 → 0 ≤ l → l ≤ 91 → P64 (jL (s + mi (cn n F v) l * v)) (jI (l - mi (cn n F v) l)) (jI v) → ∀ (m i : Nat) (t : Int), i + m = n → t = mi (cn i F v) l → P24 (jL (s + t * v)) (jI (l - t)) (jI v) (jI i) := by
    intro v v0 v1 s l s0 s1 l0 l1 hfin m
    induction m with
    | zero =>
      intro i t hi ht
      refine c24 _ _ _ _ ?_
      rw [K.2.1]
      refine ⟨fun _ => ?_, fun k => absurd ((jI_le (by omega) (by omega) (by omega) (by omega)).mpr (by omega)) k⟩
      rw [ht, show i = n by omega]
      exact hfin
    | succ m ih =>
      intro i t hi ht
      have b1 := B.2.2 i (by omega)
      have cb := cn_b i F v
      have mb := mi_b (n := i) (F := F) (v := v) (l := l) l0
      have cs : cn (i + 1) F v = cn i F v + (if F i = v then 1 else 0) := rfl
      have cle : cn (i + 1) F v ≤ cn n F v := by
        have : ∀ (j : Nat), cn (i + 1) F v ≤ cn (i + 1 + j) F v := by
          intro j
          induction j with
          | zero => exact Int.le_refl _
          | succ j ihj =>
            have : cn (i + 1 + (j + 1)) F v = cn (i + 1 + j) F v + (if F (i + 1 + j) = v then 1 else 0) := rfl
            split at this <;> omega
        have := this (n - (i + 1))
        rwa [show i + 1 + (n - (i + 1)) = n by omega] at this
      have go : ∀ t', t' = mi (cn (i + 1) F v) l → P58 (jL (s + t' * v)) (jI (l - t')) (jI v) (jI i) := by
        intro t' ht'
        refine c58 _ _ _ _ (fun z hz => ?_)
        rw [jI_n, jI_add] at hz
        rw [hz]
        exact ih (i + 1) t' (by omega) ht'
      have tl : t ≤ l := by omega
      refine c24 _ _ _ _ ?_
      rw [K.2.1]
      refine ⟨fun k => absurd ((jI_le (by omega) (by omega) (by omega) (by omega)).mp k) (by omega), fun _ => ?_⟩
      rw [show (0 : Int32) = jI 0 from rfl, jI_le (by omega) (by omega) (by omega) (by omega)]
      refine ⟨fun k => ?_, fun k => ⟨(jI_in (by omega) (by omega)).mpr (by omega), ?_⟩⟩
      · -- nothing is left
        have el : t = l := by omega
        have em : mi (cn n F v) l = l := by
          unfold mi at ht ⊢
          split at ht <;> split <;> omega
        rw [em] at hfin
        rw [el]
        exact hfin
      · rw [jI_cl (by omega) (by omega), show ((i : Int)).toNat = i by omega, lOK_0 K (by omega), jI_eq (by omega) (by omega) (by omega) (by omega)]
        have tc : t = cn i F v ∧ cn i F v < l := by
          unfold mi at ht
          split at ht <;> omega
        refine ⟨fun q => go t ?_, fun q x1 e1 x3' e3' => ?_⟩
        · rw [cs, if_neg q, Int.add_zero]; exact ht
        · rw [jI_l (by omega) (by omega), jL_add] at e1
          rw [jI_n, jI_neg, jI_add] at e3'
          rw [e1, e3']
          have h2 := go (t + 1) (by rw [cs, if_pos q]; unfold mi; split <;> omega)
          rw [show s + (t + 1) * v = s + t * v + v by rw [Int.add_mul]; omega, show l - (t + 1) = l - t + -1 by omega] at h2
          exact h2
  have key : ∀ (k : Nat) (v s l : Int), v + k = 561 → 0 ≤ v → 0 ≤ s → 0 ≤ l → l ≤ 91 → l ≤ ge n F v → s + dy n F k v l = DR n F → P17 (jL s) (jI l) (jI v) := by
    intro k
    have db := DR_b B
    induction k with
    | zero =>
      intro v s l hv v0 s0 l0 l1 lg hs
      refine c17 _ _ _ ?_
      have : ge n F v = 0 := by
        unfold ge
        exact sm_z (fun i hi => if_neg (by have := B.2.2 i hi; omega))
      rw [jI_n, jI_le (by omega) (by omega) (by omega) (by omega)]
      simp only [dy, Int.add_zero] at hs
      rw [hs]
      exact ⟨fun _ => hQ, fun q => absurd (by omega) q⟩
    | succ k ih =>
      intro v s l hv v0 s0 l0 l1 lg hs
      refine c17 _ _ _ ?_
      rw [jI_n, jI_le (by omega) (by omega) (by omega) (by omega)]
      simp only [dy] at hs
      refine ⟨fun q => ?_, fun q => ?_⟩
      · rw [if_pos q, Int.add_zero] at hs
        rw [hs]
        exact hQ
      · rw [if_neg q] at hs
        have mb := mi_b (n := n) (F := F) (v := v) (l := l) l0
        have dd := dy_b n F k (v + 1) (l - mi (cn n F v) l) (by omega) (by omega)
        have mv : 0 ≤ mi (cn n F v) l * v := Int.mul_nonneg mb.1 v0
        have gs := ge_s n F v
        have cb := cn_b n F v
        have := inner v v0 (by omega) s l s0 (by omega) l0 l1 (c64 _ _ _ (fun z hz => ?_)) n 0 0 (by omega) ?_
        · rw [Int.zero_mul, Int.add_zero, Int.sub_zero] at this
          exact this
        · rw [jI_n, jI_add] at hz
          rw [hz]
          refine ih (v + 1) _ _ (by omega) (by omega) (by omega) (by omega) (by omega) ?_ (by omega)
          have g2 : 0 ≤ ge n F (v + 1) := by
            have := sm_b (n := n) (f := fun i => if v + 1 ≤ F i then (1 : Int) else 0) (lo := 0) (hi := 1) (fun i _ => by split <;> omega)
            unfold ge
            omega
          unfold mi
          split <;> omega
        · unfold mi
          rw [show cn 0 F v = 0 from rfl, if_pos (by omega)]
  have sk := dy_skip (n := n) (F := F) (F (am F n)).toNat (561 - (F (am F n)).toNat) 0 (qu n) (fun u a b => cn_0 (by omega)) (by omega)
  refine key (561 - (F (am F n)).toNat) (F (am F n)) 0 (qu n) (by omega) (by omega) (by omega) (by omega) (by omega) (by rw [ge_all]; omega) ?_
  unfold DR
  rw [show (F (am F n)).toNat + (561 - (F (am F n)).toNat) = 561 by omega] at sk
  rw [sk, Int.zero_add]
  congr 1
  omega
theorem M_lowNow {σ : cdS} {n : Nat} {F : Nat → Int} (K : lOK σ n F) (B : bR n F) (hT : ¬ sm n F = 0) {p : Int} (p0 : 0 ≤ p) (p1 : p ≤ 1) {Q : Int32 → Prop} (hQ : Q (jI (rq (n * DR n F) (qu n * sm n F) (if p = 0 then n * DR n F else qu n * sm n F)))) : wp_X6_lowNow (jI p) σ Q := by
  have n1 := B.2.1
  have tb := sm_bR B _ (Nat.le_refl _)
  have qb := qu_b B
  have db := DR_b B
  have qt := qT_b B
  have qp : 0 < qu n * sm n F := Int.mul_pos (by omega) (by omega)
  refine M_dry K B ?_
  rw [K.2.1, K.2.2.1, jI_n, jI_n, jI_add, jI_divP (by omega) (by omega) (by omega) (by omega), show ((n : Int) + 3) / 4 = qu n from rfl, jI_l (by omega) (by omega), jI_l (by omega) (by omega), jI_l (by omega) (by omega), jL_mul, jL_mul]
  exact M_lowest (by omega) (by omega) qp (by omega) p0 p1 hQ
theorem M_laidNow {σ : cdS} {n : Nat} {F : Nat → Int} (K : lOK σ n F) (B : bR n F) {q : Int} (q0 : 0 ≤ q) (q7 : q ≤ 7) {Q : Int32 → Prop} (hQ : Q (jI (TL n F q))) : wp_X6_laidNow (jI q) σ Q := by
  have n0 := B.1
  have n1 := B.2.1
  have tb := sm_bR B _ (Nat.le_refl _)
  have nt := nT_b B
  unfold TL at hQ
  unfold wp_X6_laidNow
  simp only [jI_n, jI_neg, jI_add, jI_sub, jI_mul]
  rw [jI_eq (by omega) (by omega) (by omega) (by omega), jI_eq (by omega) (by omega) (by omega) (by omega), jI_eq (by omega) (by omega) (by omega) (by omega), jI_eq (by omega) (by omega) (by omega) (by omega)]
  refine ⟨fun e0 => ?_, fun e0 => ⟨fun e1 => ?_, fun e1 => ⟨fun e2 => ?_, fun e2 => ⟨fun e3 => ?_, fun e3 => ?_⟩⟩⟩⟩
  · rw [if_pos e0] at hQ
    rw [K.2.1]; exact hQ
  · rw [if_neg e0, if_pos e1] at hQ
    rw [K.2.2.1]; exact hQ
  · rw [if_neg e0, if_neg e1, if_pos e2] at hQ
    exact M_least K B hQ
  · rw [if_neg e0, if_neg e1, if_neg e2, if_pos e3] at hQ
    exact M_greatest K B hQ
  · rw [if_neg e0, if_neg e1, if_neg e2, if_neg e3] at hQ
    rw [K.2.2.1, jI_eq (by omega) (by omega) (by omega) (by omega)]
    refine ⟨fun k => ?_, fun k => ?_⟩
    · rw [if_neg k] at hQ
      rw [jI_le (by omega) (by omega) (by omega) (by omega)]
      refine ⟨fun e6 => ?_, fun e6 => ?_⟩
      · rw [if_neg (by omega), if_neg (by omega)] at hQ
        refine M_lowNow K B k (by omega) (by omega) ?_
        by_cases e7 : q = 6
        · rw [if_pos e7] at hQ
          rw [if_pos (by omega)]; exact hQ
        · rw [if_neg e7] at hQ
          rw [if_neg (by omega)]; exact hQ
      · refine M_evenAbove K B ?_
        have ob := eO_b B n (Nat.le_refl n)
        have ntp : 0 < (n : Int) * sm n F := Int.mul_pos (by omega) (by omega)
        rw [K.2.1, jI_l (by omega) (by omega), jI_l (by omega) (by omega), jL_mul]
        refine M_lowest (A := eA n F) (B := eB n F) (by unfold eA; omega) (by unfold eA; omega) (by unfold eB; omega) (by unfold eB; omega) (by omega) (by omega) ?_
        by_cases e4 : q = 4
        · rw [if_pos e4] at hQ
          rw [if_pos (by omega)]; exact hQ
        · rw [if_neg e4, if_pos (by omega)] at hQ
          rw [if_neg (by omega)]; exact hQ
    · rw [if_pos k] at hQ
      exact hQ
