/-! WHAT IS DONE, by the class. -/
def hiE (σ σ' : cdS) : Prop := (∀ a, 19 ≤ a → σ'.1 a = σ.1 a) ∧ σ'.2 = σ.2
theorem hiE_S {σ σ' : cdS} (f : frS σ σ') : hiE σ σ' := ⟨fun a ha => f.1 a (by omega), f.2⟩
theorem hOK_9 {σ σ' : cdS} {h : Nat} {r : Int} {d : Int → Int → Int} (H : hOK σ h r d) (e : ∀ a, 9 ≤ a → a ≤ 18 → σ'.1 a = σ.1 a) : hOK σ' h r d := by
  obtain ⟨a, b, c, k⟩ := H
  exact ⟨a, b, by rw [e _ (by omega) (by omega)]; exact c, by rw [e _ (by omega) (by omega)]; exact k⟩
/-- the head that a page tells -/
def dT (c : Nat → Int) (q : Int) : Int → Int → Int := fun x y => if -q ≤ x ∧ x ≤ q ∧ -q ≤ y ∧ y ≤ q then fv (c ((q - y) * (2 * q + 2) + q + x).toNat) else 0
theorem fv_b {x : Int} (h : fg x) : 0 ≤ fv x ∧ fv x ≤ 35 := by unfold fg at h; unfold fv; split <;> omega
theorem dT_at {c : Nat → Int} {L s : Nat} (D : isD c L s) {q : Int} (hq : (s : Int) = 2 * q + 1) {x y : Int} (x1 : -q ≤ x) (x2 : x ≤ q) (y1 : -q ≤ y) (y2 : y ≤ q) : ((q - y) * (2 * q + 2) + q + x).toNat < L ∧ fg (c ((q - y) * (2 * q + 2) + q + x).toNat) := by
  have hl := D.2.1
  have q3 : q = 1 ∨ q = 2 ∨ q = 3 := by rcases D.1 with rfl | rfl | rfl <;> omega
  have lt : ((q - y) * (2 * q + 2) + q + x).toNat < L := by
    rcases q3 with rfl | rfl | rfl
    · have : s = 3 := by omega
      subst this; omega
    · have : s = 5 := by omega
      subst this; omega
    · have : s = 7 := by omega
      subst this; omega
  refine ⟨lt, (D.2.2 _ lt).2 ?_⟩
  rcases q3 with rfl | rfl | rfl
  · have : s = 3 := by omega
    subst this; omega
  · have : s = 5 := by omega
    subst this; omega
  · have : s = 7 := by omega
    subst this; omega
theorem dT_ok {c : Nat → Int} {L s : Nat} (D : isD c L s) {q : Int} (hq : (s : Int) = 2 * q + 1) : dOK q (dT c q) := by
  have q3 : q = 1 ∨ q = 2 ∨ q = 3 := by rcases D.1 with rfl | rfl | rfl <;> omega
  refine ⟨by omega, by omega, fun x y h => if_neg (by omega), fun x y => ?_⟩
  unfold dT
  split
  · rename_i h
    exact fv_b (dT_at D hq h.1 h.2.1 h.2.2.1 h.2.2.2).2
  · omega
theorem L_codeAt {σ : cdS} {c : Nat → Int} {L : Nat} (H : pgC σ c L) {i : Int} (i0 : 0 ≤ i) (i1 : i < L) {Q : Int32 → Prop} (hQ : Q (jI (c i.toNat))) : wp_X3_codeAt (jI i) σ Q := by
  have l60 := H.1
  unfold wp_X3_codeAt
  rw [H.2.1, show (0 : Int32) = jI 0 from rfl, jI_lt (by omega) (by omega) (by omega) (by omega), jI_le (by omega) (by omega) (by omega) (by omega)]
  refine ⟨fun k => absurd k (by omega), fun _ => ⟨fun k => absurd k (by omega), fun _ => ⟨(jI_in (by omega) (by omega)).mpr (by omega), ?_⟩⟩⟩
  rw [jI_cl (by omega) (by omega), (H.2.2 i.toNat (by omega)).1]
  exact hQ
theorem L_read {σ : cdS} {c : Nat → Int} {L s : Nat} (H : pgC σ c L) (D : isD c L s) {q : Int} (hq : (s : Int) = 2 * q + 1) {n0 : Nat} (h5 : n0 < 5) {Q : cdS → Prop} (hQ : ∀ σ', frH n0 σ σ' → hOK σ' n0 q (dT c q) → Q σ') : wp_X2_read n0 (jI s) σ Q := by
  have q3 : q = 1 ∨ q = 2 ∨ q = 3 := by rcases D.1 with rfl | rfl | rfl <;> omega
  intro P7 P18 c7 c18
  rw [hq]
  refine ⟨h5, L_resize h5 (by omega) (by omega) ?_⟩
  have sd : ∀ {σ' : cdS}, frC (14 + n0) (cdU σ (9 + n0) 1 (jI (2 * q + 1))) σ' → σ'.1 (9 + n0) 1 = jI (2 * q + 1) := fun f => by rw [f.1 _ (by omega), cdU_s]
  have pg : ∀ {σ' : cdS}, frC (14 + n0) (cdU σ (9 + n0) 1 (jI (2 * q + 1))) σ' → pgC σ' c L := fun {σ'} f => by
    obtain ⟨a, b, e⟩ := H
    exact ⟨a, by rw [f.1 1 (by omega), cdU_ne (by omega)]; exact b, by rw [f.1 2 (by omega), cdU_ne (by omega)]; exact e⟩
  -- by rows from the top: y = q - row
  have inner : ∀ (row : Int), 0 ≤ row → row ≤ 2 * q → (∀ σ', frC (14 + n0) (cdU σ (9 + n0) 1 (jI (2 * q + 1))) σ' → (∀ x y, -q ≤ x → x ≤ q → -q ≤ y → y ≤ q → q - row ≤ y → σ'.1 (14 + n0) (ix q x y) = jI (dT c q x y)) → P7 (jI (row + 1)) σ') →
      ∀ (t : Nat) (col : Int) (σ' : cdS), col + t = 2 * q + 1 → 0 ≤ col → frC (14 + n0) (cdU σ (9 + n0) 1 (jI (2 * q + 1))) σ' → (∀ x y, -q ≤ x → x ≤ q → -q ≤ y → y ≤ q → (q - row < y ∨ (y = q - row ∧ x < col - q)) → σ'.1 (14 + n0) (ix q x y) = jI (dT c q x y)) → P18 (jI row) (jI col) σ' := by
    intro row r0 r1 hn t
    induction t with
    | zero =>
      intro col σ' hc c0 f hB
      refine c18 _ _ _ ⟨h5, ?_⟩
      rw [sd f]
      refine ⟨fun _ z hz => ?_, fun k => absurd ((jI_le (by omega) (by omega) (by omega) (by omega)).mpr (by omega)) k⟩
      rw [jI_n, jI_add] at hz
      rw [hz]
      exact hn σ' f (fun x y a b e g k => hB x y a b e g (by omega))
    | succ t ih =>
      intro col σ' hc c0 f hB
      have at' := dT_at D hq (x := col - q) (y := q - row) (by omega) (by omega) (by omega) (by omega)
      have pe : (q - (q - row)) * (2 * q + 2) + q + (col - q) = row * (2 * q + 2) + col := by
        rcases q3 with rfl | rfl | rfl <;> omega
      have ie : ix q (col - q) (q - row) = (row * (2 * q + 1) + col).toNat := by
        unfold ix
        rcases q3 with rfl | rfl | rfl <;> omega
      have ib : 0 ≤ row * (2 * q + 1) + col ∧ row * (2 * q + 1) + col < 49 := by
        rcases q3 with rfl | rfl | rfl <;> omega
      have pb : 0 ≤ row * (2 * q + 2) + col := by
        rcases q3 with rfl | rfl | rfl <;> omega
      rw [pe] at at'
      have l60 := H.1
      refine c18 _ _ _ ⟨h5, ?_⟩
      rw [sd f]
      simp only [jI_n, jI_add, jI_mul]
      refine ⟨fun k => absurd ((jI_le (by omega) (by omega) (by omega) (by omega)).mp k) (by omega), fun _ => ?_⟩
      rw [show 2 * q + 1 + 1 = 2 * q + 2 by omega]
      refine L_codeAt (pg f) pb (by omega) ?_
      have cb := (H.2.2 (row * (2 * q + 2) + col).toNat at'.1).2
      refine L_figure (by omega) (by omega) (fun hf => ⟨(jI_in (by omega) (by omega)).mpr (by omega), fun σ14 e14 z hz => ?_⟩) (fun hf => absurd at'.2 hf)
      have fb := fv_b hf
      rw [jI_cl (by omega) (by omega), ← ie] at e14
      rw [show (if jI 0 < jI (fv (c (row * (2 * q + 2) + col).toNat)) then jI (fv (c (row * (2 * q + 2) + col).toNat)) else jI 0) = jI (dT c q (col - q) (q - row)) by
        have : dT c q (col - q) (q - row) = fv (c (row * (2 * q + 2) + col).toNat) := by
          unfold dT
          rw [if_pos (by omega), pe]
        rw [this]
        by_cases k : 0 < fv (c (row * (2 * q + 2) + col).toNat)
        · rw [if_pos ((jI_lt (by omega) (by omega) (by omega) (by omega)).mpr k)]
        · rw [if_neg (fun k2 => k ((jI_lt (by omega) (by omega) (by omega) (by omega)).mp k2)), show fv (c (row * (2 * q + 2) + col).toNat) = 0 by omega]] at e14
      rw [hz]
      refine ih (col + 1) σ14 (by omega) (by omega) (by rw [e14]; exact frC_U f) (fun x y a b e g k => ?_)
      rw [e14]
      by_cases hp : ix q x y = ix q (col - q) (q - row)
      · obtain ⟨rfl, rfl⟩ := ix_i (by omega) (by omega) a b e g (by omega) (by omega) (by omega) (by omega) hp
        rw [cdU_s]
      · rw [cdU_j hp]
        refine hB x y a b e g ?_
        by_cases hxx : x = col - q
        · by_cases hyy : y = q - row
          · exact absurd (by rw [hxx, hyy]) hp
          · omega
        · omega
  have outer : ∀ (t : Nat) (row : Int) (σ' : cdS), row + t = 2 * q + 1 → 0 ≤ row → frC (14 + n0) (cdU σ (9 + n0) 1 (jI (2 * q + 1))) σ' → (∀ x y, -q ≤ x → x ≤ q → -q ≤ y → y ≤ q → q - row < y → σ'.1 (14 + n0) (ix q x y) = jI (dT c q x y)) → P7 (jI row) σ' := by
    intro t
    induction t with
    | zero =>
      intro row σ' hr r0 f hB
      refine c7 _ _ ⟨h5, ?_⟩
      rw [sd f]
      exact ⟨fun _ => hQ σ' (frH_of f) ⟨h5, dT_ok D hq, sd f, fun x y a b e g => hB x y a b e g (by omega)⟩, fun k => absurd ((jI_le (by omega) (by omega) (by omega) (by omega)).mpr (by omega)) k⟩
    | succ t ih =>
      intro row σ' hr r0 f hB
      refine c7 _ _ ⟨h5, ?_⟩
      rw [sd f]
      refine ⟨fun k => absurd ((jI_le (by omega) (by omega) (by omega) (by omega)).mp k) (by omega), fun _ => ?_⟩
      exact inner row r0 (by omega) (fun σ2 f2 B2 => ih (row + 1) σ2 (by omega) (by omega) f2 (fun x y a b e g k => B2 x y a b e g (by omega))) (2 * q + 1).toNat 0 σ' (by omega) (by omega) f (fun x y a b e g k => hB x y a b e g (by omega))
  exact outer (2 * q + 1).toNat 0 _ (by omega) (by omega) frC_rf (fun x y a b e g k => absurd g (by omega))
section DC
variable {σ : cdS} {n : Nat} {c : Nat → Int} {L : Nat} {r : Nat → Int} {d : Nat → Int → Int → Int} {t u g : Int32}
theorem C_letter (I : IC σ n c L r d t u g) {z : Int} (hz : rI z) {Q : Int32 → cdS → Prop} (h1 : (32 ≤ z ∧ z ≤ 126) → L < 60 → ∀ σ1, hiE σ σ1 → IC σ1 n (fun j => if j = L then z else c j) (L + 1) r d t u g → Q (jI (L + 1 : Nat)) σ1) (hF : (32 ≤ z ∧ z ≤ 126) → ¬ L < 60 → Q (jI (-1000005)) σ) (hO : ¬ (32 ≤ z ∧ z ≤ 126) → Q (jI (-1000003)) σ) : wp_X5_letter (jI z) σ Q := by
  obtain ⟨i1, i2, i3, i4, i5, ⟨p1, p2, p3⟩, i7, i8⟩ := I
  unfold wp_X5_letter
  refine L_isWithin (b := 32) (c := 126) hz.1 hz.2 (by decide) (by decide) (by decide) (by decide) (fun k => ⟨fun _ => ?_, fun q => absurd q (by decide)⟩) (fun k => ⟨fun q => absurd rfl q, fun _ => hO k⟩)
  unfold wp_X3_append
  rw [p2, jI_n, jI_lt (by omega) (by omega) (by omega) (by omega)]
  refine ⟨fun l => ⟨(jI_in (by omega) (by omega)).mpr (by omega), fun σ3 e3 σ4 e4 => ⟨fun q => absurd q (by decide), fun _ => ?_⟩⟩, fun l => ⟨fun _ => hF k (by omega), fun q => absurd rfl q⟩⟩
  rw [jI_cl (by omega) (by omega), show ((L : Int)).toNat = L by omega] at e3
  have s11 : σ4.1 1 1 = jI (L + 1 : Nat) := by rw [e4, cdU_s, e3, cdU_k (by decide), p2, jI_n, jI_add]; rfl
  unfold wp_X3_length
  rw [s11]
  have ea : ∀ a, a ≠ 1 → a ≠ 2 → σ4.1 a = σ.1 a := fun a q1 q2 => by rw [e4, cdU_ne q1, e3, cdU_ne q2]
  refine h1 k (by omega) σ4 ⟨fun a ha => ea a (by omega) (by omega), by rw [e4, e3]; rfl⟩ ⟨i1, by rw [ea 0 (by decide) (by decide)]; exact i2, by rw [ea 0 (by decide) (by decide)]; exact i3, by rw [ea 0 (by decide) (by decide)]; exact i4, by rw [ea 0 (by decide) (by decide)]; exact i5, ⟨by omega, s11, fun j hj => ?_⟩, ?_, fun k hk => ?_⟩
  · rw [e4, cdU_k (by decide), e3]
    dsimp only
    by_cases q : j = L
    · rw [q, cdU_s, if_pos rfl]
      exact ⟨rfl, k.1, k.2⟩
    · rw [cdU_j q, if_neg q]
      exact p3 j (by omega)
  · have eh : ∀ k, hd σ4 k = hd σ k := fun k => by unfold hd; rw [ea 3 (by decide) (by decide)]
    obtain ⟨m1, m2, m3, m4⟩ := i7
    exact ⟨fun k hk => by rw [eh]; exact m1 k hk, by rw [ea 0 (by decide) (by decide)]; exact m2, fun j k hj hk q => m3 j k hj hk (by rw [eh, eh] at q; exact q), fun k hk => by rw [eh, ea 0 (by decide) (by decide)]; exact m4 k hk⟩
  · have eh : hd σ4 k = hd σ k := by unfold hd; rw [ea 3 (by decide) (by decide)]
    rw [eh]
    exact hOK_9 (i8 k hk) (fun a a1 a2 => ea a (by omega) (by omega))
theorem IC_pm {σ σ' : cdS} (h : pm σ) (e0 : σ'.1 0 4 = σ.1 0 4) (e3 : σ'.1 3 = σ.1 3) : pm σ' := by
  have eh : ∀ k, hd σ' k = hd σ k := fun k => by unfold hd; rw [e3]
  obtain ⟨m1, m2, m3, m4⟩ := h
  exact ⟨fun k hk => by rw [eh]; exact m1 k hk, by rw [e0]; exact m2, fun j k hj hk q => m3 j k hj hk (by rw [eh, eh] at q; exact q), fun k hk => by rw [eh, e0]; exact m4 k hk⟩
theorem C_blank (I : IC σ n c L r d t u g) {Q : Int32 → cdS → Prop} (hQ : ∀ σ1, hiE σ σ1 → IC σ1 n c 0 r d t u g → Q (jI L) σ1) : wp_X5_blank σ Q := by
  obtain ⟨i1, i2, i3, i4, i5, ⟨p1, p2, p3⟩, i7, i8⟩ := I
  show ∀ σ1 : cdS, σ1 = cdU σ 1 1 0 → Q (σ.1 1 1) σ1
  intro σ1 e1
  rw [p2]
  have ea : ∀ a, a ≠ 1 → σ1.1 a = σ.1 a := fun a q1 => by rw [e1, cdU_ne q1]
  have e0 := ea 0 (by decide)
  refine hQ σ1 ⟨fun a ha => ea a (by omega), by rw [e1]; rfl⟩ ⟨i1, by rw [e0]; exact i2, by rw [e0]; exact i3, by rw [e0]; exact i4, by rw [e0]; exact i5, ⟨by omega, by rw [e1, cdU_s]; rfl, fun j hj => absurd hj (by omega)⟩, IC_pm i7 (by rw [e0]) (ea 3 (by decide)), fun k hk => ?_⟩
  have eh : hd σ1 k = hd σ k := by unfold hd; rw [ea 3 (by decide)]
  rw [eh]
  exact hOK_9 (i8 k hk) (fun a a1 a2 => ea a (by omega))
theorem L_isCrowded (I : IC σ n c L r d t u g) {Q : Int32 → Prop} (h1 : n < 4 → Q 0) (h0 : ¬ n < 4 → Q 1) : wp_X5_isCrowded σ Q := by
  have n4 := I.1
  unfold wp_X5_isCrowded
  rw [I.2.1, jI_n, jI_lt (by omega) (by omega) (by omega) (by omega)]
  exact ⟨fun k => h1 (by omega), fun k => h0 (by omega)⟩
/-- a head is written where none stood: it comes -/
theorem IC_come (I : IC σ n c L r d t u g) (n4 : n < 4) {σ1 σ2 : cdS} {rn : Int} {dn : Int → Int → Int} (f : frH (hd σ n) σ σ1) (hn : hOK σ1 (hd σ n) rn dn) {L' : Nat} {t' u' : Int32} (e3 : σ2.1 3 = σ1.1 3) (e04 : σ2.1 0 4 = σ1.1 0 4) (e05 : σ2.1 0 5 = jI (n + 1 : Nat)) (e06 : σ2.1 0 6 = t') (e07 : σ2.1 0 7 = u') (e08 : σ2.1 0 8 = g) (ep : pgC σ2 c L') (e9 : ∀ a, 9 ≤ a → a ≤ 18 → σ2.1 a = σ1.1 a) :
    IC σ2 (n + 1) c L' (fun k => if k = n then rn else r k) (fun k => if k = n then dn else d k) t' u' g := by
  obtain ⟨i1, i2, i3, i4, i5, i6, i7, i8⟩ := I
  obtain ⟨m1, m2, m3, m4⟩ := id i7
  have s3 : σ1.1 3 = σ.1 3 := f.1 3 (by omega) (by omega)
  have s0 : σ1.1 0 = σ.1 0 := f.1 0 (by omega) (by omega)
  have eh : ∀ k, hd σ2 k = hd σ k := fun k => by unfold hd; rw [e3, s3]
  refine ⟨by omega, e05, e06, e07, e08, ep, IC_pm i7 (by rw [e04, s0]) (by rw [e3, s3]), fun k hk => ?_⟩
  rw [eh]
  dsimp only
  by_cases q : k = n
  · subst q
    rw [if_pos rfl, if_pos rfl]
    exact hOK_9 hn e9
  · rw [if_neg q, if_neg q]
    exact hOK_9 (hOK_fr (i8 k (by omega)) (fun e => q (m3 k n (by omega) n4 e)) (m1 n n4) f) e9
theorem C_take (I : IC σ n c L r d t u g) {Q : Int32 → cdS → Prop} (h1 : ∀ (s : Nat) (q : Int), isD c L s → (s : Int) = 2 * q + 1 → n < 4 → ∀ σ1, hiE σ σ1 → IC σ1 (n + 1) c 0 (fun k => if k = n then q else r k) (fun k => if k = n then dT c q else d k) (t + 1) u g → Q (jI n) σ1) (hF : (∃ s, isD c L s) → ¬ n < 4 → Q (jI (-1000005)) σ) (hS : (∀ s, ¬ isD c L s) → Q (jI (-1000004)) σ) : wp_X5_take σ Q := by
  have I0 := I
  obtain ⟨i1, i2, i3, i4, i5, i6, i7, i8⟩ := I
  refine L_sideOfHead i6 (fun s D => ⟨fun _ => ?_, fun q => ?_⟩) (fun hn => ⟨fun q => absurd rfl q, fun _ => hS hn⟩)
  · refine L_isCrowded I0 (fun n4 => ⟨fun _ => ?_, fun q => absurd rfl q⟩) (fun n4 => ⟨fun q => absurd q (by decide), fun _ => hF ⟨s, D⟩ n4⟩)
    obtain ⟨q, hq⟩ : ∃ q : Int, (s : Int) = 2 * q + 1 := by
      rcases D.1 with rfl | rfl | rfl
      · exact ⟨1, rfl⟩
      · exact ⟨2, rfl⟩
      · exact ⟨3, rfl⟩
    rw [i2]
    refine ⟨(jI_in (by omega) (by omega)).mpr (by omega), ?_⟩
    rw [jI_cl (by omega) (by omega), show ((n : Int)).toNat = n by omega]
    have h5 := i7.1 n n4
    refine ⟨h5, L_read i6 D hq h5 (fun σ10 f10 H10 => ?_)⟩
    intro σ12 e12 σ13 e13 σ14 e14
    have s0 : σ10.1 0 = σ.1 0 := f10.1 0 (by omega) (by omega)
    have e135 : σ13.1 0 5 = jI n := by rw [e13, cdU_j (by decide), e12, cdU_k (by decide), s0, i2]
    rw [e135]
    refine h1 s q D hq n4 σ14 ⟨fun a ha => ?_, by rw [e14, e13, e12]; exact f10.2⟩ (IC_come I0 n4 f10 H10 ?_ ?_ ?_ ?_ ?_ ?_ ?_ ?_)
    · rw [e14, cdU_ne (by omega), e13, cdU_ne (by omega), e12, cdU_ne (by omega)]
      unfold hd at f10
      exact f10.1 a (by unfold hd at h5; omega) (by unfold hd at h5; omega)
    · rw [e14, cdU_ne (by decide), e13, cdU_ne (by decide), e12, cdU_ne (by decide)]
    · rw [e14, cdU_j (by decide), e13, cdU_j (by decide), e12, cdU_k (by decide)]
    · rw [e14, cdU_s, e135, jI_n, jI_add]; rfl
    · rw [e14, cdU_j (by decide), e13, cdU_s, e12, cdU_k (by decide), s0, i3]
    · rw [e14, cdU_j (by decide), e13, cdU_j (by decide), e12, cdU_k (by decide), s0, i4]
    · rw [e14, cdU_j (by decide), e13, cdU_j (by decide), e12, cdU_k (by decide), s0, i5]
    · refine ⟨by omega, ?_, fun j hj => absurd hj (by omega)⟩
      rw [e14, cdU_k (by decide), e13, cdU_k (by decide), e12, cdU_s]; rfl
    · intro a a1 a2
      rw [e14, cdU_ne (by omega), e13, cdU_ne (by omega), e12, cdU_ne (by omega)]
  · have : s ≤ 7 ∧ 3 ≤ s := by rcases D.1 with rfl | rfl | rfl <;> omega
    rw [show (0 : Int32) = jI 0 from rfl, jI_eq (by omega) (by omega) (by omega) (by omega)] at q
    omega
theorem C_turn (I : IC σ n c L r d t u g) {z q : Int} {m : Int32} (hz : rI z) (hq : rI q) {Q : Int32 → cdS → Prop} (h1 : (0 ≤ z ∧ z < n) → (0 ≤ q ∧ q ≤ 3) → n < 4 → ∀ σ1, hiE σ σ1 → IC σ1 (n + 1) c L (fun k => if k = n then r z.toNat else r k) (fun k => if k = n then (fun x y => tq (d z.toNat) q (if m = 0 then x else -x) y) else d k) t (u + 1) g → Q (jI n) σ1) (hF : (0 ≤ z ∧ z < n) → (0 ≤ q ∧ q ≤ 3) → ¬ n < 4 → Q (jI (-1000005)) σ) (hO : (0 ≤ z ∧ z < n) → ¬ (0 ≤ q ∧ q ≤ 3) → Q (jI (-1000003)) σ) (hU : ¬ (0 ≤ z ∧ z < n) → Q (jI (-1000002)) σ) : wp_X5_turn (jI z) (jI q) m σ Q := by
  have I0 := I
  obtain ⟨i1, i2, i3, i4, i5, i6, i7, i8⟩ := I
  unfold wp_X5_turn
  refine L_isKnown I0 hz.1 hz.2 (fun kn => ⟨fun _ => ?_, fun q => absurd q (by decide)⟩) (fun kn => ⟨fun q => absurd rfl q, fun _ => hU kn⟩)
  refine L_isWithin (b := 0) (c := 3) hq.1 hq.2 (by decide) (by decide) (by decide) (by decide) (fun ok => ⟨fun _ => ?_, fun q => absurd q (by decide)⟩) (fun ok => ⟨fun q => absurd rfl q, fun _ => hO kn ok⟩)
  refine L_isCrowded I0 (fun n4 => ⟨fun _ => ?_, fun q => absurd rfl q⟩) (fun n4 => ⟨fun q => absurd q (by decide), fun _ => hF kn ok n4⟩)
  obtain ⟨v1, v2⟩ := IC_at I0 kn
  rw [i2]
  refine ⟨(jI_in (by omega) (by omega)).mpr (by omega), v1, ?_⟩
  rw [jI_cl (by omega) (by omega), jI_cl hz.1 hz.2, show ((n : Int)).toNat = n by omega]
  rw [jI_cl hz.1 hz.2] at v2
  have h5 := i7.1 n n4
  have zn : ¬ hd σ z.toNat = hd σ n := fun e => by have := i7.2.2.1 _ _ (by omega) n4 e; omega
  refine ⟨h5, L_copyTurned v2 h5 zn ok.1 ok.2 (fun σ14 f14 H14 => ?_)⟩
  intro σ15 e15 σ16 e16
  have s0 : σ14.1 0 = σ.1 0 := f14.1 0 (by omega) (by omega)
  have e155 : σ15.1 0 5 = jI n := by rw [e15, cdU_j (by decide), s0, i2]
  rw [e155]
  refine h1 kn ok n4 σ16 ⟨fun a ha => ?_, by rw [e16, e15]; exact f14.2⟩ (IC_come I0 n4 f14 H14 ?_ ?_ ?_ ?_ ?_ ?_ ?_ ?_)
  · rw [e16, cdU_ne (by omega), e15, cdU_ne (by omega)]
    have h5' : cdh (σ.1 3 n) < 5 := h5
    exact f14.1 a (show a ≠ 9 + cdh (σ.1 3 n) by omega) (show a ≠ 14 + cdh (σ.1 3 n) by omega)
  · rw [e16, cdU_ne (by decide), e15, cdU_ne (by decide)]
  · rw [e16, cdU_j (by decide), e15, cdU_j (by decide)]
  · rw [e16, cdU_s, e155, jI_n, jI_add]; rfl
  · rw [e16, cdU_j (by decide), e15, cdU_j (by decide), s0, i3]
  · rw [e16, cdU_j (by decide), e15, cdU_s, s0, i4]
  · rw [e16, cdU_j (by decide), e15, cdU_j (by decide), s0, i5]
  · obtain ⟨p1, p2, p3⟩ := i6
    have s1 : σ16.1 1 = σ.1 1 := by rw [e16, cdU_ne (by decide), e15, cdU_ne (by decide), f14.1 1 (by omega) (by omega)]
    have s2 : σ16.1 2 = σ.1 2 := by rw [e16, cdU_ne (by decide), e15, cdU_ne (by decide), f14.1 2 (by omega) (by omega)]
    exact ⟨p1, by rw [s1]; exact p2, by rw [s2]; exact p3⟩
  · intro a a1 a2
    rw [e16, cdU_ne (by omega), e15, cdU_ne (by omega)]
end DC
