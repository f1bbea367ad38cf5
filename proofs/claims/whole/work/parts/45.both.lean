/-! BOTH, one behind the other: the same answer, and the same state again. -/
def cdI2 (σ : cdS) : Prop := ∃ (n : Nat) (c : Nat → Int) (L : Nat) (r : Nat → Int) (d : Nat → Int → Int → Int) (t u g : Int32), IC σ n c L r d t u g ∧ IM σ n c L r d t u g
theorem I2 {σ : cdS} {n : Nat} {c : Nat → Int} {L : Nat} {r : Nat → Int} {d : Nat → Int → Int → Int} {t u g : Int32} (h : IC σ n c L r d t u g) (k : IM σ n c L r d t u g) : cdI2 σ := ⟨n, c, L, r, d, t, u, g, h, k⟩
theorem frM_lo {σ σ' : cdS} (f : frM σ σ') : ∀ a, a < 19 → σ'.1 a = σ.1 a := fun a h => f.1 a (by omega) (by omega)
theorem frN_lo {σ σ' : cdS} (f : frN σ σ') : ∀ a, a < 19 → σ'.1 a = σ.1 a := fun a h => f.1 a (by omega) (by omega)
theorem frP_lo {σ σ' : cdS} (f : frP σ σ') : ∀ a, a < 19 → σ'.1 a = σ.1 a := fun a h => f.1 a (by omega)
theorem b_letter {σ : cdS} (J : cdI2 σ) (v : Int32) : wp_X5_letter v σ (fun r σ1 => wp_X6_letter v σ1 (fun r2 σ2 => r2 = r ∧ cdI2 σ2)) := by
  obtain ⟨n, c, L, r, d, t, u, g, I, M⟩ := J
  obtain ⟨z, rfl, hz⟩ := rI_ex v
  refine C_letter I hz (fun k1 k2 σ1 e1 I1 => ?_) (fun k1 k2 => ?_) (fun k1 => ?_)
  · exact R_letter (IM_lo M e1.1) hz (fun _ _ σ2 e2 M2 => ⟨rfl, I2 (IC_hi I1 e2) M2⟩) (fun _ k => absurd k2 k) (fun k => absurd k1 k)
  · exact R_letter M hz (fun _ k => absurd k k2) (fun _ _ => ⟨rfl, I2 I M⟩) (fun k => absurd k1 k)
  · exact R_letter M hz (fun k => absurd k k1) (fun k => absurd k k1) (fun _ => ⟨rfl, I2 I M⟩)
theorem b_blank {σ : cdS} (J : cdI2 σ) : wp_X5_blank σ (fun r σ1 => wp_X6_blank σ1 (fun r2 σ2 => r2 = r ∧ cdI2 σ2)) := by
  obtain ⟨n, c, L, r, d, t, u, g, I, M⟩ := J
  exact C_blank I (fun σ1 e1 I1 => R_blank (IM_lo M e1.1) (fun σ2 e2 M2 => ⟨rfl, I2 (IC_hi I1 e2) M2⟩))
theorem b_fault {σ : cdS} (J : cdI2 σ) : wp_X5_fault σ (fun r => wp_X6_fault σ (fun r2 σ2 => r2 = r ∧ cdI2 σ2)) := by
  obtain ⟨n, c, L, r, d, t, u, g, I, M⟩ := J
  exact C_fault I (fun p hp => R_fault M (fun p2 σ2 f2 hp2 => ⟨by rw [isM_u hp hp2], I2 (IC_hi I (frP_lo f2)) (IM_P M f2)⟩))
theorem isD_u {c : Nat → Int} {L s t : Nat} (h : isD c L s) (k : isD c L t) : s = t := by
  have h1 := h.2.1
  have k1 := k.2.1
  rcases h.1 with rfl | rfl | rfl <;> rcases k.1 with rfl | rfl | rfl <;> omega
theorem b_take {σ : cdS} (J : cdI2 σ) : wp_X5_take σ (fun r σ1 => wp_X6_take σ1 (fun r2 σ2 => r2 = r ∧ cdI2 σ2)) := by
  obtain ⟨n, c, L, r, d, t, u, g, I, M⟩ := J
  refine C_take I (fun s q D hq n4 σ1 e1 I1 => ?_) (fun D n4 => ?_) (fun D => ?_)
  · refine R_take (IM_lo M e1.1) (fun s2 q2 D2 hq2 _ σ2 e2 M2 => ⟨rfl, ?_⟩) (fun _ k => absurd n4 k) (fun k => absurd D (k s))
    have e := isD_u D D2
    have eq : q2 = q := by omega
    subst eq
    exact I2 (IC_hi I1 e2) M2
  · exact R_take M (fun _ _ _ _ k => absurd k n4) (fun _ _ σ2 f2 => ⟨rfl, I2 (IC_hi I (frP_lo f2)) (IM_P M f2)⟩) (fun k => by obtain ⟨s, D⟩ := D; exact absurd D (k s))
  · exact R_take M (fun s _ D2 => absurd D2 (D s)) (fun D2 => by obtain ⟨s, D2⟩ := D2; exact absurd D2 (D s)) (fun _ σ2 f2 => ⟨rfl, I2 (IC_hi I (frP_lo f2)) (IM_P M f2)⟩)
theorem b_drop {σ : cdS} (J : cdI2 σ) (v : Int32) : wp_X5_drop v σ (fun r σ1 => wp_X6_drop v σ1 (fun r2 σ2 => r2 = r ∧ cdI2 σ2)) := by
  obtain ⟨n, c, L, r, d, t, u, g, I, M⟩ := J
  obtain ⟨z, rfl, hz⟩ := rI_ex v
  refine C_drop I hz (fun kn σ1 e1 I1 => ?_) (fun kn => ?_)
  · exact R_drop (IM_lo M e1.1) hz (fun _ σ2 e2 M2 => ⟨rfl, I2 (IC_hi I1 e2) M2⟩) (fun k => absurd kn k)
  · exact R_drop M hz (fun k => absurd k kn) (fun _ => ⟨rfl, I2 I M⟩)
theorem b_turn {σ : cdS} (J : cdI2 σ) (v w m : Int32) : wp_X5_turn v w m σ (fun r σ1 => wp_X6_turn v w m σ1 (fun r2 σ2 => r2 = r ∧ cdI2 σ2)) := by
  obtain ⟨n, c, L, r, d, t, u, g, I, M⟩ := J
  obtain ⟨z, rfl, hz⟩ := rI_ex v
  obtain ⟨q, rfl, hq⟩ := rI_ex w
  refine C_turn I hz hq (fun kn ok n4 σ1 e1 I1 => ?_) (fun kn ok n4 => ?_) (fun kn ok => ?_) (fun kn => ?_)
  · exact R_turn (IM_lo M e1.1) hz hq (fun _ _ _ σ2 e2 M2 => ⟨rfl, I2 (IC_hi I1 e2) M2⟩) (fun _ _ k => absurd n4 k) (fun _ k => absurd ok k) (fun k => absurd kn k)
  · exact R_turn M hz hq (fun _ _ k => absurd k n4) (fun _ _ _ => ⟨rfl, I2 I M⟩) (fun _ k => absurd ok k) (fun k => absurd kn k)
  · exact R_turn M hz hq (fun _ k => absurd k ok) (fun _ k => absurd k ok) (fun _ _ => ⟨rfl, I2 I M⟩) (fun k => absurd kn k)
  · exact R_turn M hz hq (fun k => absurd k kn) (fun k => absurd k kn) (fun k => absurd k kn) (fun _ => ⟨rfl, I2 I M⟩)
theorem b_bend {σ : cdS} (J : cdI2 σ) (v w m : Int32) : wp_X5_bend v w m σ (fun r σ1 => wp_X6_bend v w m σ1 (fun r2 σ2 => r2 = r ∧ cdI2 σ2)) := by
  obtain ⟨n, c, L, r, d, t, u, g, I, M⟩ := J
  obtain ⟨z, rfl, hz⟩ := rI_ex v
  obtain ⟨p, rfl, hp⟩ := rI_ex w
  obtain ⟨q, rfl, hq⟩ := rI_ex m
  refine C_bend I hz hp hq (fun kn ok σ1 e1 I1 => ?_) (fun kn ok => ?_) (fun kn => ?_)
  · exact R_bend (IM_lo M e1.1) hz hp hq (fun _ _ σ2 e2 M2 => ⟨rfl, I2 (IC_hi I1 e2) M2⟩) (fun _ k => absurd ok k) (fun k => absurd kn k)
  · exact R_bend M hz hp hq (fun _ k => absurd k ok) (fun _ _ => ⟨rfl, I2 I M⟩) (fun k => absurd kn k)
  · exact R_bend M hz hp hq (fun k => absurd k kn) (fun k => absurd k kn) (fun _ => ⟨rfl, I2 I M⟩)
theorem b_head {σ : cdS} (J : cdI2 σ) (v w : Int32) : wp_X5_head v w σ (fun r => wp_X6_head v w σ (fun r2 => r2 = r)) := by
  obtain ⟨n, c, L, r, d, t, u, g, I, M⟩ := J
  obtain ⟨z, rfl, hz⟩ := rI_ex v
  obtain ⟨q, rfl, hq⟩ := rI_ex w
  exact C_head I hz hq (R_head M hz hq rfl)
theorem b_depth {σ : cdS} (J : cdI2 σ) (v w m : Int32) : wp_X5_depth v w m σ (fun r => wp_X6_depth v w m σ (fun r2 => r2 = r)) := by
  obtain ⟨n, c, L, r, d, t, u, g, I, M⟩ := J
  obtain ⟨z, rfl, hz⟩ := rI_ex v
  obtain ⟨p, rfl, hp⟩ := rI_ex w
  obtain ⟨q, rfl, hq⟩ := rI_ex m
  exact C_depth I hz hp hq (R_depth M hz hp hq rfl)
theorem b_ground {σ : cdS} (J : cdI2 σ) (v1 v2 v3 v4 v5 v6 : Int32) : wp_X5_ground v1 v2 v3 v4 v5 v6 σ (fun r σ1 => cdI2 σ1 ∧ wp_X6_ground v1 v2 v3 v4 v5 v6 σ1 (fun r2 => r2 = r)) := by
  obtain ⟨n, c, L, r, d, t, u, g, I, M⟩ := J
  obtain ⟨z1, rfl, h1⟩ := rI_ex v1
  obtain ⟨z2, rfl, h2⟩ := rI_ex v2
  obtain ⟨z3, rfl, h3⟩ := rI_ex v3
  obtain ⟨z4, rfl, h4⟩ := rI_ex v4
  obtain ⟨z5, rfl, h5⟩ := rI_ex v5
  obtain ⟨z6, rfl, h6⟩ := rI_ex v6
  exact C_ground I h1 h2 h3 h4 h5 h6 (fun σ1 f1 => ⟨I2 (IC_S I f1) (IM_lo M (hiE_S f1).1), R_ground (IM_lo M (hiE_S f1).1) h1 h2 h3 h4 h5 h6 rfl⟩)
theorem b_tile {σ : cdS} (J : cdI2 σ) (v1 v2 v3 v4 v5 : Int32) : wp_X5_tile v1 v2 v3 v4 v5 σ (fun r σ1 => wp_X6_tile v1 v2 v3 v4 v5 σ1 (fun r2 σ2 => r2 = r ∧ cdI2 σ2)) := by
  obtain ⟨n, c, L, r, d, t, u, g, I, M⟩ := J
  obtain ⟨z1, rfl, h1⟩ := rI_ex v1
  obtain ⟨z2, rfl, h2⟩ := rI_ex v2
  obtain ⟨z3, rfl, h3⟩ := rI_ex v3
  obtain ⟨z4, rfl, h4⟩ := rI_ex v4
  obtain ⟨z5, rfl, h5⟩ := rI_ex v5
  exact C_tile I h1 h2 h3 h4 h5 (fun σ1 f1 => R_tile (IM_lo M (hiE_S f1).1) h1 h2 h3 h4 h5 (fun σ2 f2 => ⟨rfl, I2 (IC_hi (IC_S I f1) (frM_lo f2)) (IM_M (IM_lo M (hiE_S f1).1) f2)⟩))
theorem b_byTurns {σ : cdS} (J : cdI2 σ) (v1 v2 v3 v4 v5 : Int32) : wp_X5_byTurns v1 v2 v3 v4 v5 σ (fun r σ1 => wp_X6_byTurns v1 v2 v3 v4 v5 σ1 (fun r2 σ2 => r2 = r ∧ cdI2 σ2)) := by
  obtain ⟨n, c, L, r, d, t, u, g, I, M⟩ := J
  obtain ⟨z1, rfl, h1⟩ := rI_ex v1
  obtain ⟨z2, rfl, h2⟩ := rI_ex v2
  obtain ⟨z3, rfl, h3⟩ := rI_ex v3
  obtain ⟨z4, rfl, h4⟩ := rI_ex v4
  obtain ⟨z5, rfl, h5⟩ := rI_ex v5
  exact C_byTurns I h1 h2 h3 h4 h5 (fun σ1 f1 => R_byTurns (IM_lo M (hiE_S f1).1) h1 h2 h3 h4 h5 (fun σ2 f2 => ⟨rfl, I2 (IC_hi (IC_S I f1) (frM_lo f2)) (IM_M (IM_lo M (hiE_S f1).1) f2)⟩))
theorem b_best {σ : cdS} (J : cdI2 σ) (v1 v2 v3 : Int32) : wp_X5_best v1 v2 v3 σ (fun r σ1 => wp_X6_best v1 v2 v3 σ1 (fun r2 σ2 => r2 = r ∧ cdI2 σ2)) := by
  obtain ⟨n, c, L, r, d, t, u, g, I, M⟩ := J
  obtain ⟨z1, rfl, h1⟩ := rI_ex v1
  obtain ⟨z2, rfl, h2⟩ := rI_ex v2
  obtain ⟨z3, rfl, h3⟩ := rI_ex v3
  exact C_best I h1 h2 h3 (fun σ1 f1 => R_best (IM_lo M (hiE_S f1).1) h1 h2 h3 (fun σ2 f2 => ⟨rfl, I2 (IC_hi (IC_S I f1) (frM_lo f2)) (IM_M (IM_lo M (hiE_S f1).1) f2)⟩))
theorem b_field {σ : cdS} (J : cdI2 σ) (v1 v2 v3 v4 v5 v6 v7 : Int32) : wp_X5_field v1 v2 v3 v4 v5 v6 v7 σ (fun r σ1 => wp_X6_field v1 v2 v3 v4 v5 v6 v7 σ1 (fun r2 σ2 => r2 = r ∧ cdI2 σ2)) := by
  obtain ⟨n, c, L, r, d, t, u, g, I, M⟩ := J
  obtain ⟨z1, rfl, h1⟩ := rI_ex v1
  obtain ⟨z2, rfl, h2⟩ := rI_ex v2
  obtain ⟨z3, rfl, h3⟩ := rI_ex v3
  obtain ⟨z4, rfl, h4⟩ := rI_ex v4
  obtain ⟨z5, rfl, h5⟩ := rI_ex v5
  obtain ⟨z7, rfl, h7⟩ := rI_ex v7
  exact C_field I h1 h2 h3 h4 h5 h7 (fun σ1 f1 => R_field (IM_lo M (hiE_S f1).1) h1 h2 h3 h4 h5 h7 (fun σ2 f2 => ⟨rfl, I2 (IC_hi (IC_S I f1) (frM_lo f2)) (IM_M (IM_lo M (hiE_S f1).1) f2)⟩))
theorem b_count {σ : cdS} (J : cdI2 σ) (v : Int32) : wp_X5_count v σ (fun r => wp_X6_count v σ (fun r2 => r2 = r)) := by
  obtain ⟨n, c, L, r, d, t, u, g, I, M⟩ := J
  obtain ⟨z, rfl, hz⟩ := rI_ex v
  exact C_count I hz (R_howMany M hz rfl)
theorem b_digest {σ : cdS} (J : cdI2 σ) : wp_X5_digest σ (fun r σ1 => wp_X6_digest σ1 (fun r2 σ2 => r2 = r ∧ cdI2 σ2)) := by
  obtain ⟨n, c, L, r, d, t, u, g, I, M⟩ := J
  exact C_digest I (fun σ1 f1 => R_digest (IM_lo M (hiE_S f1).1) (fun σ2 f2 => ⟨rfl, I2 (IC_hi (IC_S I f1) (frN_lo f2)) (IM_N (IM_lo M (hiE_S f1).1) f2)⟩))
