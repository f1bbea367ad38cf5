/-! BITS of an int. -/
def gb (x : Int32) (k : Nat) : Bool := x.toBitVec.getLsbD k
theorem gb_and (x y : Int32) (k : Nat) : gb (x &&& y) k = (gb x k && gb y k) := by unfold gb; rw [Int32.toBitVec_and, BitVec.getLsbD_and]
theorem gb_or (x y : Int32) (k : Nat) : gb (x ||| y) k = (gb x k || gb y k) := by unfold gb; rw [Int32.toBitVec_or, BitVec.getLsbD_or]
theorem gb_xor (x y : Int32) (k : Nat) : gb (x ^^^ y) k = Bool.xor (gb x k) (gb y k) := by unfold gb; rw [Int32.toBitVec_xor, BitVec.getLsbD_xor]
theorem gb_m1 {k : Nat} (h : k < 32) : gb (-1) k = true := by
  unfold gb
  rw [show (-1 : Int32).toBitVec = BitVec.allOnes 32 from rfl, BitVec.getLsbD_allOnes]
  simp [h]
theorem gb_ext {x y : Int32} (h : ∀ k, k < 32 → gb x k = gb y k) : x = y := by
  apply Int32.toBitVec.inj
  exact BitVec.eq_of_getLsbD_eq (fun i hi => h i hi)
theorem gb_0 (k : Nat) : gb 0 k = false := by
  unfold gb
  rw [show (0 : Int32).toBitVec = 0#32 from rfl]
  simp
/-- one bit, shifted down and masked -/
theorem bit_t (x : Int32) {k : Nat} (h : k < 9) : ((x >>> (jI k &&& 31)) &&& 1) = if gb x k then 1 else 0 := by
  have e : ∀ (m : Nat), m < 32 → (x >>> (jI k &&& 31)).toBitVec.getLsbD 0 = gb x k := by
    intro m _
    rw [Int32.toBitVec_shiftRight]
    have q : ((jI k &&& 31).toBitVec.smod 32).toNat = k := by
      rcases (show k = 0 ∨ k = 1 ∨ k = 2 ∨ k = 3 ∨ k = 4 ∨ k = 5 ∨ k = 6 ∨ k = 7 ∨ k = 8 by omega) with rfl | rfl | rfl | rfl | rfl | rfl | rfl | rfl | rfl <;> decide
    rw [BitVec.sshiftRight', q, BitVec.getLsbD_sshiftRight]
    unfold gb
    simp
    omega
  refine gb_ext (fun j hj => ?_)
  rw [gb_and]
  have one : gb (1 : Int32) j = decide (j = 0) := by
    unfold gb
    rw [show (1 : Int32).toBitVec = 1#32 from rfl, BitVec.getLsbD_one]
    simp
  rw [one]
  by_cases j0 : j = 0
  · subst j0
    have e0 : gb (x >>> (jI k &&& 31)) 0 = gb x k := e 0 (by omega)
    rw [e0]
    cases hb : gb x k
    · simp [gb_0]
    · simp only [if_true]
      rw [show gb (1 : Int32) 0 = true from rfl]
      rfl
  · cases hb : gb x k
    · simp [j0, gb_0]
    · simp only [if_true]
      rw [show gb (1 : Int32) j = false by
        unfold gb
        rw [show (1 : Int32).toBitVec = 1#32 from rfl, BitVec.getLsbD_one]
        simp [j0]]
      simp [j0]
theorem bit_1 (x : Int32) {k : Nat} (h : k < 9) : (((x >>> (jI k &&& 31)) &&& 1) = 1 ↔ gb x k = true) ∧ (((x >>> (jI k &&& 31)) &&& 1) = 0 ↔ gb x k = false) := by
  rw [bit_t x h]
  cases gb x k
  · exact ⟨⟨fun k => absurd k (by decide), fun k => absurd k (by decide)⟩, ⟨fun _ => rfl, fun _ => rfl⟩⟩
  · exact ⟨⟨fun _ => rfl, fun _ => rfl⟩, ⟨fun k => absurd k (by decide), fun k => absurd k (by decide)⟩⟩
theorem gb_sh {k j : Nat} (hk : k < 9) (hj : j < 9) : gb ((1 : Int32) <<< (jI k &&& 31)) j = decide (j = k) := by
  rcases (show k = 0 ∨ k = 1 ∨ k = 2 ∨ k = 3 ∨ k = 4 ∨ k = 5 ∨ k = 6 ∨ k = 7 ∨ k = 8 by omega) with rfl | rfl | rfl | rfl | rfl | rfl | rfl | rfl | rfl <;> rcases (show j = 0 ∨ j = 1 ∨ j = 2 ∨ j = 3 ∨ j = 4 ∨ j = 5 ∨ j = 6 ∨ j = 7 ∨ j = 8 by omega) with rfl | rfl | rfl | rfl | rfl | rfl | rfl | rfl | rfl <;> decide
/-- a field's heads, as bits -/
def al (m n : Int) : Int32 := if m = 2 then (if n = 2 then 27 else 219) else (if n = 2 then 63 else 511)
theorem gb_al {m n : Int} (m1 : m = 2 ∨ m = 3) (n1 : n = 2 ∨ n = 3) {k : Nat} (hk : k < 9) : gb (al m n) k = decide ((k : Int) % 3 < m ∧ (k : Int) / 3 < n) := by
  rcases m1 with rfl | rfl <;> rcases n1 with rfl | rfl <;> rcases (show k = 0 ∨ k = 1 ∨ k = 2 ∨ k = 3 ∨ k = 4 ∨ k = 5 ∨ k = 6 ∨ k = 7 ∨ k = 8 by omega) with rfl | rfl | rfl | rfl | rfl | rfl | rfl | rfl | rfl <;> decide
theorem gb_sub {x y : Int32} (h : (x &&& (y ^^^ -1)) = 0) {k : Nat} (hk : k < 32) (hx : gb x k = true) : gb y k = true := by
  have := congrArg (fun z => gb z k) h
  simp only [gb_and, gb_xor, gb_m1 hk, gb_0, hx] at this
  cases hy : gb y k
  · rw [hy] at this; exact absurd this (by decide)
  · rfl
theorem L_hasFailed {σ : cdS} {f : Int32} {k : Nat} (hk : k < 9) {Q : Int32 → Prop} (h1 : gb f k = true → Q 1) (h0 : gb f k = false → Q 0) : wp_X5_hasFailed f (jI k) σ Q := by
  unfold wp_X5_hasFailed
  rw [(bit_1 f hk).2]
  exact ⟨h0, fun e => h1 (by cases q : gb f k; exact absurd q e; rfl)⟩
theorem L_bitsOfField {σ : cdS} {m n : Int} (m1 : m = 2 ∨ m = 3) (n1 : n = 2 ∨ n = 3) {Q : Int32 → Prop} (hQ : Q (al m n)) : wp_X5_bitsOfField (jI m) (jI n) σ Q := by
  intro P4 P12 c4 c12
  rcases m1 with rfl | rfl <;> rcases n1 with rfl | rfl <;>
  · repeat (first
      | (refine c4 _ _ ⟨fun k => absurd k (by decide), fun _ => ?_⟩)
      | (refine c12 _ _ _ ⟨fun k => absurd k (by decide), fun _ => ?_⟩; intro z hz w hw; subst hz; subst hw)
      | (refine c12 _ _ _ ⟨fun _ => ?_, fun k => absurd (by decide) k⟩; intro z hz; subst hz))
    refine c4 _ _ ⟨fun _ => ?_, fun k => absurd (by decide) k⟩
    exact hQ
