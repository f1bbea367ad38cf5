/-! THE REFERENCE goes along the page. -/
def frP (σ σ' : cdS) : Prop := (∀ a, a ≠ 19 → σ'.1 a = σ.1 a) ∧ (∀ j, j ≠ 8 → j ≠ 9 → j ≠ 10 → σ'.1 19 j = σ.1 19 j) ∧ σ'.2 = σ.2
theorem frP_t {a b c : cdS} (h : frP a b) (k : frP b c) : frP a c := ⟨fun i u => by rw [k.1 i u, h.1 i u], fun i u v w => by rw [k.2.1 i u v w, h.2.1 i u v w], by rw [k.2.2, h.2.2]⟩
def sA (σ : cdS) (sg rw ns : Int) : Prop := σ.1 19 8 = jI sg ∧ σ.1 19 9 = jI rw ∧ σ.1 19 10 = jI ns
theorem M_takes {σ : cdS} {ch sg rw ns : Int} (c1 : -1000 ≤ ch) (c2 : ch ≤ 1000) (g1 : 0 ≤ sg) (g2 : sg ≤ 100) (r1 : 0 ≤ rw) (r2 : rw ≤ 100) (n1 : 0 ≤ ns) (n2 : ns ≤ 100) (S : sA σ sg rw ns) {Q : Int32 → cdS → Prop}
    (hS : ch = 47 → ((ns = 0 ∧ 2 < sg ∧ sg % 2 = 1) ∨ (¬ ns = 0 ∧ sg = ns ∧ rw + 1 < ns)) → ∀ σ', frP σ σ' → sA σ' 0 (rw + 1) (if ns = 0 then sg else ns) → Q 1 σ')
    (hF : ¬ ch = 47 → fg ch → ((ns = 0 ∧ sg < 7) ∨ (¬ ns = 0 ∧ sg < ns)) → ∀ σ', frP σ σ' → sA σ' (sg + 1) rw ns → Q 1 σ')
    (h0 : ((ch = 47 ∧ ¬ ((ns = 0 ∧ 2 < sg ∧ sg % 2 = 1) ∨ (¬ ns = 0 ∧ sg = ns ∧ rw + 1 < ns))) ∨ (¬ ch = 47 ∧ ¬ (fg ch ∧ ((ns = 0 ∧ sg < 7) ∨ (¬ ns = 0 ∧ sg < ns))))) → ∀ σ', frP σ σ' → sA σ' sg rw ns → Q 0 σ') : wp_X6_takes (jI ch) σ Q := by
  obtain ⟨s8, s9, s10⟩ := S
  intro P35 P67 P68 P88 P92 P109 P126 P160 P167 P168 P183 c35 c67 c68 c88 c92 c109 c126 c160 c167 c168 c183
  -- a slash that is taken
  have yes : ch = 47 → ((ns = 0 ∧ 2 < sg ∧ sg % 2 = 1) ∨ (¬ ns = 0 ∧ sg = ns ∧ rw + 1 < ns)) → P68 1 σ := by
    intro hc ha
    have fin : P92 1 (jI (if ns = 0 then sg else ns)) σ := by
      refine c92 _ _ _ (fun σ15 e15 => ⟨fun k => absurd k (by decide), fun _ => c109 _ _ _ _ (fun σ19 e19 => ⟨fun k => absurd k (by decide), fun _ => c126 _ _ _ (fun σ21 e21 => ⟨Or.inr rfl, ?_⟩)⟩)⟩)
      refine hS hc ha σ21 ⟨fun a u => ?_, fun j u v w => ?_, ?_⟩ ⟨?_, ?_, ?_⟩
      · rw [e21, cdU_ne u, e19, cdU_ne u, e15, cdU_ne u]
      · rw [e21, cdU_j u, e19, cdU_j v, e15, cdU_j w]
      · rw [e21, e19, e15]; rfl
      · rw [e21, cdU_s]; rfl
      · rw [e21, cdU_j (by decide), e19, cdU_s, e15, cdU_j (by decide), s9, jI_n, jI_add]
      · rw [e21, cdU_j (by decide), e19, cdU_j (by decide), e15, cdU_s]
    refine c68 _ _ ?_
    rw [s10, s8, show (0 : Int32) = jI 0 from rfl, jI_eq (by omega) (by omega) (by omega) (by omega)]
    refine ⟨fun k => c88 _ _ ?_, fun k => ⟨fun z => absurd z (by decide), fun _ => ?_⟩⟩
    · rw [s10]
      rw [if_neg k] at fin
      exact fin
    · rw [if_pos k] at fin
      exact fin
  have no : ch = 47 → ¬ ((ns = 0 ∧ 2 < sg ∧ sg % 2 = 1) ∨ (¬ ns = 0 ∧ sg = ns ∧ rw + 1 < ns)) → P68 0 σ := by
    intro hc ha
    have fin : P92 0 (jI ns) σ := by
      refine c92 _ _ _ (fun σ15 e15 => ⟨fun _ => c109 _ _ _ _ (fun σ19 e19 => ⟨fun _ => c126 _ _ _ (fun σ21 e21 => ⟨Or.inl rfl, ?_⟩), fun k => absurd rfl k⟩), fun k => absurd rfl k⟩)
      refine h0 (Or.inl ⟨hc, ha⟩) σ21 ⟨fun a u => ?_, fun j u v w => ?_, ?_⟩ ⟨?_, ?_, ?_⟩
      · rw [e21, cdU_ne u, e19, cdU_ne u, e15, cdU_ne u]
      · rw [e21, cdU_j u, e19, cdU_j v, e15, cdU_j w]
      · rw [e21, e19, e15]; rfl
      · rw [e21, cdU_s, e19, cdU_j (by decide), e15, cdU_j (by decide), s8]
      · rw [e21, cdU_j (by decide), e19, cdU_s, e15, cdU_j (by decide), s9, jI_n, jI_add, Int.add_zero]
      · rw [e21, cdU_j (by decide), e19, cdU_j (by decide), e15, cdU_s]
    have f88 : P88 0 σ := c88 _ _ (by rw [s10]; exact fin)
    exact c68 _ _ ⟨fun _ => f88, fun _ => ⟨fun _ => f88, fun k => absurd rfl k⟩⟩
  have yesF : ¬ ch = 47 → fg ch → ((ns = 0 ∧ sg < 7) ∨ (¬ ns = 0 ∧ sg < ns)) → P168 1 σ := by
    intro hc hf ha
    refine c168 _ _ ⟨fun k => absurd k (by decide), fun _ => c183 _ _ _ _ (fun σ17 e17 => ⟨Or.inr rfl, ?_⟩)⟩
    refine hF hc hf ha σ17 ⟨fun a u => ?_, fun j u v w => ?_, ?_⟩ ⟨?_, ?_, ?_⟩
    · rw [e17, cdU_ne u]
    · rw [e17, cdU_j u]
    · rw [e17]; rfl
    · rw [e17, cdU_s, s8, jI_n, jI_add]
    · rw [e17, cdU_j (by decide), s9]
    · rw [e17, cdU_j (by decide), s10]
  have noF : ¬ ch = 47 → ¬ (fg ch ∧ ((ns = 0 ∧ sg < 7) ∨ (¬ ns = 0 ∧ sg < ns))) → P167 σ := by
    intro hc ha
    refine c167 _ (c168 _ _ ⟨fun _ => c183 _ _ _ _ (fun σ17 e17 => ⟨Or.inl rfl, ?_⟩), fun k => absurd rfl k⟩)
    refine h0 (Or.inr ⟨hc, ha⟩) σ17 ⟨fun a u => ?_, fun j u v w => ?_, ?_⟩ ⟨?_, ?_, ?_⟩
    · rw [e17, cdU_ne u]
    · rw [e17, cdU_j u]
    · rw [e17]; rfl
    · rw [e17, cdU_s, s8, jI_n, jI_add, Int.add_zero]
    · rw [e17, cdU_j (by decide), s9]
    · rw [e17, cdU_j (by decide), s10]
  rw [s8, s9, s10]
  simp only [jI_n, jI_neg, jI_add, jI_sub, jI_mul]
  rw [jI_eq (by omega) (by omega) (by omega) (by omega), jI_eq (by omega) (by omega) (by omega) (by omega), jI_eq (by omega) (by omega) (by omega) (by omega), jI_le (by omega) (by omega) (by omega) (by omega), jI_le (by omega) (by omega) (by omega) (by omega)]
  refine ⟨fun hc => M_depthOf c1 c2 (fun hf => ?_) (fun hf => ⟨fun _ => noF hc (fun z => hf z.1), fun k => absurd rfl k⟩), fun hc => ⟨fun k => ⟨fun u => c67 _ (no hc (by omega)), fun u => ⟨fun v => c67 _ (no hc (by omega)), fun v => yes hc (by omega)⟩⟩, fun k => ⟨fun u => c35 _ (no hc (by omega)), fun u => ?_⟩⟩⟩
  · have fb : 0 ≤ fv ch ∧ fv ch ≤ 35 := by unfold fg at hf; unfold fv; split <;> omega
    rw [jI_eq (by omega) (by omega) (by omega) (by omega)]
    refine ⟨fun z => absurd z (by omega), fun _ => ⟨fun k => c160 _ _ _ ?_, fun k => c160 _ _ _ ?_⟩⟩
    · rw [jI_le (by omega) (by omega) (by omega) (by omega)]
      exact ⟨fun u => noF hc (by omega), fun u => yesF hc hf (by omega)⟩
    · rw [jI_le (by omega) (by omega) (by omega) (by omega)]
      exact ⟨fun u => noF hc (by omega), fun u => yesF hc hf (by omega)⟩
  · rw [cdm_jP (by omega) (by omega) (by omega) (by omega), jI_eq (by omega) (by omega) (by omega) (by omega)]
    exact ⟨fun v => c35 _ (no hc (by omega)), fun v => yes hc (by omega)⟩
/-- where the reference stands behind p letters that it has taken -/
def aJ (c : Nat → Int) (p : Nat) (sg rw ns : Int) : Prop :=
  (ns = 0 ∧ rw = 0 ∧ sg = p ∧ p ≤ 7 ∧ ∀ j, j < p → fg (c j)) ∨
  ∃ s : Nat, isS s ∧ ns = s ∧ rw = ((p / (s + 1) : Nat) : Int) ∧ sg = ((p % (s + 1) : Nat) : Int) ∧ s + 1 ≤ p ∧ p ≤ s * (s + 1) - 1 ∧ ∀ j, j < p → ft c s j
theorem fg47 {x : Int} (h : fg x) : ¬ x = 47 := by unfold fg at h; omega
theorem dm {p s : Nat} (hs : isS s) : p = (s + 1) * (p / (s + 1)) + p % (s + 1) ∧ p % (s + 1) ≤ s := by
  have := Nat.div_add_mod p (s + 1)
  have := Nat.mod_lt p (show 0 < s + 1 by omega)
  omega
theorem aJ_b {c : Nat → Int} {p : Nat} {sg rw ns : Int} (h : aJ c p sg rw ns) : 0 ≤ sg ∧ sg ≤ 100 ∧ 0 ≤ rw ∧ rw ≤ 100 ∧ 0 ≤ ns ∧ ns ≤ 100 ∧ p ≤ 55 := by
  rcases h with ⟨a, b, d, e, _⟩ | ⟨s, hs, a, b, d, e, f, _⟩
  · omega
  · have q := dm (p := p) hs
    rcases hs with rfl | rfl | rfl <;> omega
theorem aJ_S {c : Nat → Int} {p : Nat} {sg rw ns : Int} (h : aJ c p sg rw ns) (hc : c p = 47) (ha : (ns = 0 ∧ 2 < sg ∧ sg % 2 = 1) ∨ (¬ ns = 0 ∧ sg = ns ∧ rw + 1 < ns)) : aJ c (p + 1) 0 (rw + 1) (if ns = 0 then sg else ns) := by
  rcases h with ⟨a, b, d, e, f⟩ | ⟨s, hs, a, b, d, e, f, g⟩
  · rw [if_pos a]
    have hp : isS p := by
      unfold isS
      omega
    refine Or.inr ⟨p, hp, d, ?_, ?_, by omega, ?_, fun j hj => ?_⟩
    · rw [Nat.div_self (by omega)]; omega
    · rw [Nat.mod_self]; rfl
    · rcases hp with rfl | rfl | rfl <;> omega
    · by_cases q : j = p
      · subst q
        have m : j % (j + 1) = j := Nat.mod_eq_of_lt (by omega)
        exact ⟨fun _ => hc, fun k => absurd m k⟩
      · have m : j % (p + 1) = j := Nat.mod_eq_of_lt (by omega)
        exact ⟨fun k => absurd k (by omega), fun _ => f j (by omega)⟩
  · have n0 : ¬ ns = 0 := by rcases hs with rfl | rfl | rfl <;> omega
    rw [if_neg n0]
    have q := dm (p := p) hs
    have pm : p % (s + 1) = s := by omega
    have dv : (p + 1) / (s + 1) = p / (s + 1) + 1 := by
      rw [show p + 1 = (s + 1) * (p / (s + 1) + 1) by rw [Nat.mul_add]; omega, Nat.mul_div_cancel_left _ (by omega)]
    have md : (p + 1) % (s + 1) = 0 := by
      rw [show p + 1 = (s + 1) * (p / (s + 1) + 1) by rw [Nat.mul_add]; omega, Nat.mul_mod_right]
    refine Or.inr ⟨s, hs, a, by omega, by omega, by omega, ?_, fun j hj => ?_⟩
    · have : p / (s + 1) + 1 < s := by omega
      rcases hs with rfl | rfl | rfl <;> omega
    · by_cases z : j = p
      · rw [z]; exact ⟨fun _ => hc, fun k => absurd pm k⟩
      · exact g j (by omega)
theorem aJ_F {c : Nat → Int} {p : Nat} {sg rw ns : Int} (h : aJ c p sg rw ns) (hc : fg (c p)) (ha : (ns = 0 ∧ sg < 7) ∨ (¬ ns = 0 ∧ sg < ns)) : aJ c (p + 1) (sg + 1) rw ns := by
  rcases h with ⟨a, b, d, e, f⟩ | ⟨s, hs, a, b, d, e, f, g⟩
  · refine Or.inl ⟨a, b, by omega, by omega, fun j hj => ?_⟩
    by_cases q : j = p
    · rw [q]; exact hc
    · exact f j (by omega)
  · have q := dm (p := p) hs
    have pm : p % (s + 1) < s := by
      rcases hs with rfl | rfl | rfl <;> omega
    have dv : (p + 1) / (s + 1) = p / (s + 1) ∧ (p + 1) % (s + 1) = p % (s + 1) + 1 := by
      have e1 : p + 1 = (s + 1) * (p / (s + 1)) + (p % (s + 1) + 1) := by omega
      refine ⟨?_, ?_⟩
      · rw [e1, Nat.mul_add_div (by omega), Nat.div_eq_of_lt (a := p % (s + 1) + 1) (b := s + 1) (by omega), Nat.add_zero]
      · rw [e1, Nat.mul_add_mod, Nat.mod_eq_of_lt (by omega)]
    refine Or.inr ⟨s, hs, a, by omega, by omega, by omega, ?_, fun j hj => ?_⟩
    · have l1 : p / (s + 1) < s := by
        rcases hs with rfl | rfl | rfl <;> omega
      rcases hs with rfl | rfl | rfl <;> omega
    · by_cases z : j = p
      · rw [z]; exact ⟨fun k => absurd k (by omega), fun _ => hc⟩
      · exact g j (by omega)
/-- where it stops: the farthest of all -/
theorem aJ_M {c : Nat → Int} {L p : Nat} {sg rw ns : Int} (h : aJ c p sg rw ns) (hp : p ≤ L) (hstop : p = L ∨ ((c p = 47 ∧ ¬ ((ns = 0 ∧ 2 < sg ∧ sg % 2 = 1) ∨ (¬ ns = 0 ∧ sg = ns ∧ rw + 1 < ns))) ∨ (¬ c p = 47 ∧ ¬ (fg (c p) ∧ ((ns = 0 ∧ sg < 7) ∨ (¬ ns = 0 ∧ sg < ns)))))) : isM c L p := by
  have eb : ∀ s, eF L s ≤ L ∧ eF L s ≤ s * (s + 1) - 1 := fun s => by unfold eF; split <;> omega
  -- nobody goes farther
  have up : ∀ t, isS t → ∀ R, isF c L t R → R ≤ p := by
    intro t ht R F
    rcases Nat.lt_or_ge p R with q | q
    · exfalso
      have f1 := F.1
      have e1 := eb t
      have pl : ¬ p = L := by omega
      have ftp := F.2.1 p q
      have hst := hstop.resolve_left pl
      rcases h with ⟨a, b, d, e, f⟩ | ⟨s, hs, a, b, d, e, f, g⟩
      · -- no slash yet: p letters, all figures
        have tp : ¬ t < p := fun k => by
          have := (F.2.1 t (by omega)).1 (Nat.mod_eq_of_lt (by omega))
          exact fg47 (f t k) this
        have pm : p % (t + 1) = p := Nat.mod_eq_of_lt (by omega)
        by_cases z : p = t
        · have c47 : c p = 47 := ftp.1 (by omega)
          rcases hst with ⟨_, h2⟩ | ⟨h1, _⟩
          · rcases ht with rfl | rfl | rfl <;> omega
          · exact h1 c47
        · have cf : fg (c p) := ftp.2 (by omega)
          rcases hst with ⟨h1, _⟩ | ⟨_, h2⟩
          · exact fg47 cf h1
          · refine h2 ⟨cf, Or.inl ⟨a, ?_⟩⟩
            rcases ht with rfl | rfl | rfl <;> omega
      · have sm' : s % (s + 1) = s := Nat.mod_eq_of_lt (by omega)
        have cs : c s = 47 := (g s (by omega)).1 sm'
        have st : s = t := by
          rcases Nat.lt_trichotomy s t with z | z | z
          · exfalso
            have := (F.2.1 s (by omega)).2 (by rw [Nat.mod_eq_of_lt (by omega)]; omega)
            exact fg47 this cs
          · exact z
          · exfalso
            have c1 := (F.2.1 t (by omega)).1 (Nat.mod_eq_of_lt (by omega))
            have c2 := (g t (by omega)).2 (by rw [Nat.mod_eq_of_lt (by omega)]; omega)
            exact fg47 c2 c1
        subst st
        have qd := dm (p := p) hs
        by_cases z : p % (s + 1) = s
        · have c47 : c p = 47 := ftp.1 z
          rcases hst with ⟨_, h2⟩ | ⟨h1, _⟩
          · refine h2 (Or.inr ⟨?_, ?_, ?_⟩)
            · rcases hs with rfl | rfl | rfl <;> omega
            · omega
            · have : p < s * (s + 1) - 1 := by omega
              rcases hs with rfl | rfl | rfl <;> omega
          · exact h1 c47
        · have cf : fg (c p) := ftp.2 z
          rcases hst with ⟨h1, _⟩ | ⟨_, h2⟩
          · exact fg47 cf h1
          · refine h2 ⟨cf, Or.inr ⟨?_, ?_⟩⟩
            · rcases hs with rfl | rfl | rfl <;> omega
            · omega
    · exact q
  refine ⟨up, ?_⟩
  -- one goes as far
  have reach : ∀ s, isS s → p ≤ eF L s → (∀ j, j < p → ft c s j) → ∃ s, isS s ∧ isF c L s p := by
    intro s hs h1 h2
    refine isF_ex (c := c) (L := L) (s := s) (fun R F => ?_)
    have a := up s hs R F
    have b : p ≤ R := by
      rcases F.2.2 with z | z
      · omega
      · rcases Nat.lt_or_ge R p with y | y
        · exact absurd (h2 R y) z
        · exact y
    have : R = p := by omega
    subst this
    exact ⟨s, hs, F⟩
  rcases h with ⟨a, b, d, e, f⟩ | ⟨s, hs, a, b, d, e, f, g⟩
  · refine reach 7 (Or.inr (Or.inr rfl)) ?_ (fun j hj => ?_)
    · unfold eF; split <;> omega
    · have m : j % (7 + 1) = j := Nat.mod_eq_of_lt (by omega)
      exact ⟨fun k => absurd k (by omega), fun _ => f j hj⟩
  · refine reach s hs ?_ g
    unfold eF
    split <;> omega
theorem M_goAlong {σ : cdS} {c : Nat → Int} {L : Nat} (H : pgM σ c L) {Q : Int32 → cdS → Prop} (hQ : ∀ (p : Nat) (σ' : cdS) (sg rw ns : Int), frP σ σ' → p ≤ L → aJ c p sg rw ns → sA σ' sg rw ns → isM c L p → Q (jI p) σ') : wp_X6_goAlong σ Q := by
  obtain ⟨l60, hl, hc⟩ := H
  intro P17 c17 σ1 e1 σ2 e2 σ3 e3
  have f3 : frP σ σ3 := by
    refine ⟨fun a u => ?_, fun j u v w => ?_, ?_⟩
    · rw [e3, cdU_ne u, e2, cdU_ne u, e1, cdU_ne u]
    · rw [e3, cdU_j w, e2, cdU_j v, e1, cdU_j u]
    · rw [e3, e2, e1]; rfl
  have S3 : sA σ3 0 0 0 := by
    refine ⟨?_, ?_, ?_⟩
    · rw [e3, cdU_j (by decide), e2, cdU_j (by decide), e1, cdU_s]; rfl
    · rw [e3, cdU_j (by decide), e2, cdU_s]; rfl
    · rw [e3, cdU_s]; rfl
  have key : ∀ (t p : Nat) (σ' : cdS) (sg rw ns : Int), p + t = L → frP σ σ' → aJ c p sg rw ns → sA σ' sg rw ns → P17 (jI p) σ' := by
    intro t
    induction t with
    | zero =>
      intro p σ' sg rw ns hp f A S
      refine c17 _ _ ?_
      rw [f.2.1 0 (by decide) (by decide) (by decide), hl]
      exact ⟨fun _ => hQ p σ' sg rw ns f (by omega) A S (aJ_M A (by omega) (Or.inl (by omega))), fun k => absurd ((jI_le (by omega) (by omega) (by omega) (by omega)).mpr (by omega)) k⟩
    | succ t ih =>
      intro p σ' sg rw ns hp f A S
      have ab := aJ_b A
      have hcp := hc p (by omega)
      refine c17 _ _ ?_
      rw [f.2.1 0 (by decide) (by decide) (by decide), hl]
      refine ⟨fun k => absurd ((jI_le (by omega) (by omega) (by omega) (by omega)).mp k) (by omega), fun _ => ⟨(jI_in (by omega) (by omega)).mpr (by omega), ?_⟩⟩
      rw [jI_cl (by omega) (by omega), show ((p : Int)).toNat = p by omega, f.1 20 (by decide), hcp.1]
      refine M_takes (by omega) (by omega) (by omega) (by omega) (by omega) (by omega) (by omega) (by omega) S (fun h1 h2 σ7 f7 S7' => ⟨fun k => absurd k (by decide), fun _ z hz => ?_⟩) (fun h1 h2 h3 σ7 f7 S7' => ⟨fun k => absurd k (by decide), fun _ z hz => ?_⟩) (fun h σ7 f7 S7' => ⟨fun _ => hQ p σ7 sg rw ns (frP_t f f7) (by omega) A S7' (aJ_M A (by omega) (Or.inr h)), fun k => absurd rfl k⟩)
      · rw [jI_n, jI_add] at hz
        rw [hz]
        exact ih (p + 1) σ7 _ _ _ (by omega) (frP_t f f7) (aJ_S A h1 h2) S7'
      · rw [jI_n, jI_add] at hz
        rw [hz]
        exact ih (p + 1) σ7 _ _ _ (by omega) (frP_t f f7) (aJ_F A h2 h3) S7'
  exact key L 0 σ3 0 0 0 (by omega) f3 (Or.inl ⟨rfl, rfl, rfl, by omega, fun j hj => absurd hj (by omega)⟩) S3
/-- the end of a head: all of the page, and its last row full -/
theorem aJ_D {c : Nat → Int} {L p : Nat} {sg rw ns : Int} (h : aJ c p sg rw ns) (hp : p ≤ L) (M : isM c L p) : (∀ s : Nat, ns = s → p = L → ¬ ns = 0 → sg = ns → rw + 1 = ns → isD c L s) ∧ (∀ s, isD c L s → p = L ∧ ns = s ∧ sg = s ∧ rw + 1 = s) := by
  refine ⟨fun t e1 e2 e3 e4 e5 => ?_, fun t D => ?_⟩
  · rcases h with ⟨a, b, d, e, f⟩ | ⟨s, hs, a, b, d, e, f, g⟩
    · exact absurd a e3
    · have : t = s := by omega
      subst this
      have q := dm (p := p) hs
      refine ⟨hs, ?_, fun j hj => g j (by omega)⟩
      have h1 : p % (t + 1) = t := by omega
      have h2 : p / (t + 1) + 1 = t := by omega
      rcases hs with rfl | rfl | rfl <;> omega
  · have hs := D.1
    have hl := D.2.1
    have eL : eF L t = L := by unfold eF; rw [if_neg (by omega)]
    have F : isF c L t L := ⟨by omega, D.2.2, Or.inl (by omega)⟩
    have pL : p = L := by
      have := M.1 t hs L F
      omega
    rcases h with ⟨a, b, d, e, f⟩ | ⟨s, hs', a, b, d, e, f, g⟩
    · exfalso
      rcases hs with rfl | rfl | rfl <;> omega
    · have st : s = t := by
        have cs : c s = 47 := (g s (by omega)).1 (Nat.mod_eq_of_lt (by omega))
        have t1 : t + 1 ≤ L := by rcases hs with rfl | rfl | rfl <;> omega
        have ct : c t = 47 := (D.2.2 t (by omega)).1 (Nat.mod_eq_of_lt (by omega))
        rcases Nat.lt_trichotomy s t with z | z | z
        · exfalso
          have := (D.2.2 s (by omega)).2 (by rw [Nat.mod_eq_of_lt (by omega)]; omega)
          exact fg47 this cs
        · exact z
        · exfalso
          have := (g t (by omega)).2 (by rw [Nat.mod_eq_of_lt (by omega)]; omega)
          exact fg47 this ct
      subst st
      have q := dm (p := p) hs
      refine ⟨pL, a, ?_, ?_⟩
      · rcases hs with rfl | rfl | rfl <;> omega
      · rcases hs with rfl | rfl | rfl <;> omega
