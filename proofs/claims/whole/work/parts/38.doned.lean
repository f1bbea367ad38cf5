/-! A HEAD is bent, a HEAD goes, by the class. -/
section DD
variable {σ : cdS} {n : Nat} {c : Nat → Int} {L : Nat} {r : Nat → Int} {d : Nat → Int → Int → Int} {t u g : Int32}
theorem C_bend (I : IC σ n c L r d t u g) {z p q : Int} (hz : rI z) (hp : rI p) (hq : rI q) {Q : Int32 → cdS → Prop} (h1 : (0 ≤ z ∧ z < n) → ((-2 ≤ p ∧ p ≤ 2) ∧ (-2 ≤ q ∧ q ≤ 2)) → ∀ σ1, hiE σ σ1 → IC σ1 n c L r (fun k => if k = z.toNat then bd (r z.toNat) (d z.toNat) p q else d k) t u g → Q (jI (TH (bd (r z.toNat) (d z.toNat) p q))) σ1) (hO : (0 ≤ z ∧ z < n) → ¬ ((-2 ≤ p ∧ p ≤ 2) ∧ (-2 ≤ q ∧ q ≤ 2)) → Q (jI (-1000003)) σ) (hU : ¬ (0 ≤ z ∧ z < n) → Q (jI (-1000002)) σ) : wp_X5_bend (jI z) (jI p) (jI q) σ Q := by
  have I0 := I
  obtain ⟨i1, i2, i3, i4, i5, i6, i7, i8⟩ := I
  obtain ⟨m1, m2, m3, m4⟩ := id i7
  unfold wp_X5_bend
  refine L_isKnown I0 hz.1 hz.2 (fun kn => ⟨fun _ => ?_, fun q => absurd q (by decide)⟩) (fun kn => ⟨fun q => absurd rfl q, fun _ => hU kn⟩)
  simp only [jI_n, jI_neg]
  refine L_isWithin hp.1 hp.2 (by decide) (by decide) (by decide) (by decide) (fun k1 => ⟨fun q => absurd q (by decide), fun _ => ?_⟩) (fun k1 => ⟨fun _ => hO kn (fun q => k1 q.1), fun q => absurd rfl q⟩)
  refine L_isWithin hq.1 hq.2 (by decide) (by decide) (by decide) (by decide) (fun k2 => ⟨fun _ => ?_, fun q => absurd q (by decide)⟩) (fun k2 => ⟨fun q => absurd rfl q, fun _ => hO kn (fun q => k2 q.2)⟩)
  obtain ⟨v1, v2⟩ := IC_at I0 kn
  rw [jI_cl hz.1 hz.2] at v2 ⊢
  have zs : ¬ hd σ z.toNat = cdh (σ.1 0 4) := m4 _ (by omega)
  refine ⟨v1, m2, L_copyBent v2 m2 zs k1.1 k1.2 k2.1 k2.2 (fun σ13 f13 H13 => ?_)⟩
  have s3 : σ13.1 3 = σ.1 3 := f13.1 3 (by omega) (by omega)
  have s0 : σ13.1 0 = σ.1 0 := f13.1 0 (by omega) (by omega)
  rw [s3]
  have hz5 : hd σ z.toNat < 5 := m1 _ (by omega)
  refine ⟨v1, hz5, fun σ15 e15 => ⟨v1, fun σ17 e17 => ?_⟩⟩
  have ea : ∀ a, a ≠ 0 → a ≠ 3 → σ17.1 a = σ13.1 a := fun a q1 q2 => by rw [e17, cdU_ne q2, e15, cdU_ne q1]
  have H17 := hOK_9 H13 (σ' := σ17) (fun a a1 a2 => ea a (by omega) (by omega))
  refine L_thrown H17 (h1 kn ⟨k1, k2⟩ σ17 ⟨fun a ha => ?_, by rw [e17, e15]; exact f13.2⟩ ?_)
  · rw [ea a (by omega) (by omega)]
    exact f13.1 a (by omega) (by omega)
  have e0 : ∀ j, j ≠ 4 → σ17.1 0 j = σ.1 0 j := fun j hj => by rw [e17, cdU_k (by decide), e15, cdU_j hj, s0]
  have sp : cdh (σ17.1 0 4) = hd σ z.toNat := by rw [e17, cdU_k (by decide), e15, cdU_s]; exact cdh_nI hz5
  have eh : ∀ k, hd σ17 k = if k = z.toNat then cdh (σ.1 0 4) else hd σ k := by
    intro k
    unfold hd
    by_cases e : k = z.toNat
    · rw [if_pos e, e, e17, cdU_s, cdh_nI m2]
    · rw [if_neg e, e17, cdU_j e, e15, cdU_ne (by decide), s3]
  obtain ⟨p1, p2, p3⟩ := i6
  refine ⟨i1, by rw [e0 5 (by decide)]; exact i2, by rw [e0 6 (by decide)]; exact i3, by rw [e0 7 (by decide)]; exact i4, by rw [e0 8 (by decide)]; exact i5, ⟨p1, by rw [ea 1 (by decide) (by decide), f13.1 1 (by omega) (by omega)]; exact p2, by rw [ea 2 (by decide) (by decide), f13.1 2 (by omega) (by omega)]; exact p3⟩, ⟨fun k hk => ?_, by rw [sp]; exact hz5, fun j k hj hk e => ?_, fun k hk => ?_⟩, fun k hk => ?_⟩
  · rw [eh]
    split
    · exact m2
    · exact m1 k hk
  · rw [eh, eh] at e
    by_cases a : j = z.toNat
    · by_cases b : k = z.toNat
      · omega
      · rw [if_pos a, if_neg b] at e
        exact absurd e.symm (m4 k hk)
    · by_cases b : k = z.toNat
      · rw [if_neg a, if_pos b] at e
        exact absurd e (m4 j hj)
      · rw [if_neg a, if_neg b] at e
        exact m3 j k hj hk e
  · rw [eh, sp]
    by_cases b : k = z.toNat
    · rw [if_pos b]
      exact fun e => zs e.symm
    · rw [if_neg b]
      exact fun e => b (m3 k _ hk (by omega) e)
  · rw [eh]
    dsimp only
    by_cases b : k = z.toNat
    · rw [if_pos b, if_pos b, b]
      exact H17
    · rw [if_neg b, if_neg b]
      exact hOK_9 (hOK_fr (i8 k hk) (m4 k (by omega)) m2 f13) (fun a a1 a2 => ea a (by omega) (by omega))
theorem C_drop (I : IC σ n c L r d t u g) {z : Int} (hz : rI z) {Q : Int32 → cdS → Prop} (h1 : (0 ≤ z ∧ z < n) → ∀ σ1, hiE σ σ1 → IC σ1 (n - 1) c L (fun k => if k < z.toNat then r k else r (k + 1)) (fun k => if k < z.toNat then d k else d (k + 1)) t u (g + 1) → Q (jI (n - 1 : Nat)) σ1) (hU : ¬ (0 ≤ z ∧ z < n) → Q (jI (-1000002)) σ) : wp_X5_drop (jI z) σ Q := by
  have I0 := I
  obtain ⟨i1, i2, i3, i4, i5, i6, i7, i8⟩ := I
  obtain ⟨m1, m2, m3, m4⟩ := id i7
  intro P22 c22
  refine L_isKnown I0 hz.1 hz.2 (fun kn => ⟨fun _ => ?_, fun q => absurd q (by decide)⟩) (fun kn => ⟨fun q => absurd rfl q, fun _ => hU kn⟩)
  obtain ⟨v1, v2⟩ := IC_at I0 kn
  rw [jI_cl hz.1 hz.2]
  refine ⟨v1, fun x3 e3 => ?_⟩
  rw [jI_n, jI_add] at e3
  rw [e3]
  have key : ∀ (m : Nat) (i : Int) (σ' : cdS), i + m = n → z + 1 ≤ i → frC 3 σ σ' → (∀ k : Nat, hd σ' k = if z ≤ k ∧ (k : Int) + 1 < i then hd σ (k + 1) else hd σ k) → P22 (hd σ z.toNat) (jI i) σ' := by
    intro m
    induction m with
    | zero =>
      intro i σ' hi zi f hB
      have s0 : σ'.1 0 = σ.1 0 := f.1 0 (by decide)
      refine c22 _ _ _ ?_
      rw [s0, i2]
      refine ⟨fun _ σ7 e7 => ⟨m1 _ (by omega), ?_⟩, fun k => absurd ((jI_le (by omega) (by omega) (by omega) (by omega)).mpr (by omega)) k⟩
      have s75 : σ7.1 0 5 = jI (n - 1 : Nat) := by rw [e7, cdU_s, jI_n, jI_sub, show ((n - 1 : Nat) : Int) = (n : Int) - 1 by omega]
      rw [s75]
      refine ⟨(jI_in (by omega) (by omega)).mpr (by omega), fun σ8 e8 σ11 e11 => ?_⟩
      rw [jI_cl (by omega) (by omega), show (((n - 1 : Nat) : Int)).toNat = n - 1 by omega] at e8
      have ea : ∀ a, a ≠ 0 → a ≠ 3 → σ11.1 a = σ.1 a := fun a q1 q2 => by rw [e11, cdU_ne q1, e8, cdU_ne q2, e7, cdU_ne q1, f.1 a q2]
      have s115 : σ11.1 0 5 = jI (n - 1 : Nat) := by rw [e11, cdU_j (by decide), e8, cdU_k (by decide), s75]
      have e0 : ∀ j, j ≠ 5 → j ≠ 8 → σ11.1 0 j = σ.1 0 j := fun j h5 h8 => by rw [e11, cdU_j h8, e8, cdU_k (by decide), e7, cdU_j h5, s0]
      have eh : ∀ k : Nat, hd σ11 k = hd σ (if z ≤ k ∧ (k : Int) + 1 < n then k + 1 else if (k : Int) + 1 = n then z.toNat else k) := by
        intro k
        have h8 : hd σ11 k = if k = n - 1 then hd σ z.toNat else hd σ' k := by
          unfold hd
          rw [e11, cdU_ne (by decide), e8]
          by_cases e : k = n - 1
          · rw [if_pos e, e, cdU_s, cdh_nI (m1 _ (by omega))]
            rfl
          · rw [if_neg e, cdU_j e, e7, cdU_ne (by decide)]
        rw [h8]
        by_cases e : k = n - 1
        · rw [if_pos e, if_neg (by omega), if_pos (by omega)]
        · rw [if_neg e, hB k]
          by_cases a : z ≤ k ∧ (k : Int) + 1 < i
          · rw [if_pos a, if_pos (by omega)]
          · rw [if_neg a, if_neg (by omega), if_neg (by omega)]
      rw [s115]
      obtain ⟨p1, p2, p3⟩ := i6
      refine h1 kn σ11 ⟨fun a ha => ea a (by omega) (by omega), by rw [e11, e8, e7]; exact f.2⟩ ⟨by omega, s115, by rw [e0 6 (by decide) (by decide)]; exact i3, by rw [e0 7 (by decide) (by decide)]; exact i4, ?_, ⟨p1, by rw [ea 1 (by decide) (by decide)]; exact p2, by rw [ea 2 (by decide) (by decide)]; exact p3⟩, ⟨fun k hk => ?_, by rw [e0 4 (by decide) (by decide)]; exact m2, fun j k hj hk e => ?_, fun k hk => ?_⟩, fun k hk => ?_⟩
      · rw [e11, cdU_s, e8, cdU_k (by decide), e7, cdU_j (by decide), s0, i5]
      · rw [eh]
        refine m1 _ ?_
        split
        · omega
        · split <;> omega
      · rw [eh, eh] at e
        have q := m3 _ _ (by split; omega; split <;> omega) (by split; omega; split <;> omega) e
        split at q
        · split at q
          · omega
          · split at q <;> omega
        · split at q
          · split at q
            · omega
            · split at q <;> omega
          · split at q
            · omega
            · split at q <;> omega
      · rw [eh, e0 4 (by decide) (by decide)]
        refine m4 _ ?_
        split
        · omega
        · split <;> omega
      · rw [eh]
        dsimp only
        by_cases a : k < z.toNat
        · rw [if_neg (by omega), if_neg (by omega), if_pos a, if_pos a]
          exact hOK_9 (i8 k (by omega)) (fun b b1 b2 => ea b (by omega) (by omega))
        · rw [if_pos (by omega), if_neg a, if_neg a]
          exact hOK_9 (i8 (k + 1) (by omega)) (fun b b1 b2 => ea b (by omega) (by omega))
    | succ m ih =>
      intro i σ' hi zi f hB
      have s0 : σ'.1 0 = σ.1 0 := f.1 0 (by decide)
      refine c22 _ _ _ ?_
      rw [s0, i2]
      refine ⟨fun k => absurd ((jI_le (by omega) (by omega) (by omega) (by omega)).mp k) (by omega), fun _ => ⟨(jI_in (by omega) (by omega)).mpr (by omega), ?_⟩⟩
      rw [jI_cl (by omega) (by omega), jI_n, jI_sub]
      have hi5 : hd σ' i.toNat < 5 := by
        rw [hB, if_neg (by omega)]
        exact m1 _ (by omega)
      refine ⟨hi5, (jI_in (by omega) (by omega)).mpr (by omega), fun σ13 e13 x e => ?_⟩
      rw [jI_cl (by omega) (by omega)] at e13
      rw [jI_add] at e
      rw [e]
      refine ih (i + 1) σ13 (by omega) (by omega) (by rw [e13]; exact frC_U f) (fun k => ?_)
      have h13 : hd σ13 k = if k = (i - 1).toNat then hd σ' i.toNat else hd σ' k := by
        unfold hd
        rw [e13]
        by_cases e : k = (i - 1).toNat
        · rw [if_pos e, e, cdU_s]
          exact cdh_nI hi5
        · rw [if_neg e, cdU_j e]
      rw [h13]
      by_cases e : k = (i - 1).toNat
      · rw [if_pos e, hB, if_neg (by omega), if_pos (by omega), show k + 1 = i.toNat by omega]
      · rw [if_neg e, hB]
        by_cases a : z ≤ k ∧ (k : Int) + 1 < i
        · rw [if_pos a, if_pos (by omega)]
        · rw [if_neg a, if_neg (by omega)]
  exact key (n - 1 - z.toNat) (z + 1) σ (by omega) (by omega) frC_rf (fun k => by rw [if_neg (by omega)])
end DD
