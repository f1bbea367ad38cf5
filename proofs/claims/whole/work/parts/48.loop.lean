/-! THE LAW'S LOOP. -/
theorem lw_and (v : Int32) : 0 ≤ (v &&& 15).toInt ∧ (v &&& 15).toInt ≤ 15 := by
  have h : (v &&& 15).toBitVec.toNat ≤ 15 := by
    rw [Int32.toBitVec_and, BitVec.toNat_and]
    exact Nat.and_le_right
  have e : (v &&& 15).toInt = ((v &&& 15).toBitVec.toNat : Int) := by
    show (v &&& 15).toBitVec.toInt = _
    exact BitVec.toInt_eq_toNat_of_lt (by omega)
  omega
theorem lw_i0 {i : Int} {L : Nat} (i0 : 0 ≤ i) (i8 : i + 8 ≤ L) (hL : L ≤ 4096) : vp_in (jI i) L := (jI_in (by omega) (by omega)).mpr (by omega)
section LP
variable {p : Program} {l : Launch} {e : Env} {s : State} {m : MethodId} {below : List Frame} {meth : Method} {c : Code} {b L : Nat} {xs : Nat → Int32} {g : cdG} {Q : State → Prop}
set_option maxHeartbeats 1000000 in
set_option maxRecDepth 100000 in
theorem lw_it {i : Int} (Y : lwX p s m c b L xs g) (i0 : 0 ≤ i) (i1 : i ≤ 5000) (hend : ∀ (H : Heap) (locs : List Loc) (ls : Array Slot), va_S (cdZ g s.heap.size) s.heap H locs → W p l e room_1 s m #[Value.ref b] below meth c H locs 24 1956 Q (F0 m 749 ls [])) (N : i + 8 ≤ L → lwN p l e s m below meth c b g Q (i + 8) 18) : lwN p l e s m below meth c b g Q i 18 := by
  have Y0 := Y
  obtain ⟨X, hX, hbl, hbA, hL⟩ := Y
  have hx := X.1
  have hb := X.2.1
  intro σ H locs ls J hP hS hl
  refine lv_iload_n hx hb dL_law_18 rfl (lv_at hl 3 rfl) ?_
  refine lv_aload_n hx hb dL_law_19 rfl (lv_at hl 0 rfl) ?_
  refine va_slen hx hb hX hbl hbA hS dL_law_20 ?_
  refine lv_bipush (v := 8) hx hb dL_law_21 (by decide) ?_
  refine lv_isub hx hb dL_law_23 ?_
  refine lv_icmp_gt (tgt := 749) hx hb dL_law_24 (by decide) (fun _ => hend H locs ls hS) (fun k => ?_)
  have i8 : i + 8 ≤ L := by
    rw [show Int32.ofNat L = jI L from (Int32.ofInt_eq_ofNat (n := L)).symm, jI_n, jI_sub, jI_lt (by omega) (by omega) (by omega) (by omega)] at k
    omega
  refine lv_aload_n hx hb dL_law_27 rfl (lv_at hl 0 rfl) ?_
  refine lv_iload_n hx hb dL_law_28 rfl (lv_at hl 3 rfl) ?_
  refine va_sld hx hb hX hbl hbA hS (lw_i0 i0 i8 hL) dL_law_29 ?_
  refine lv_bipush (v := 15) hx hb dL_law_30 (by decide) ?_
  refine lv_iand hx hb dL_law_32 ?_
  have N743 : lwN p l e s m below meth c b g Q i 743 := by
    intro σ H locs ls J hP hS hl
    refine lv_iinc (v := jI (i + 8)) (lv' := [(3, .int (jI (i + 8))), (0, .ref b), (1, .ref (cdA g 0)), (2, .ref (cdA g 19))]) hx hb dL_law_743 hl (k := 3) rfl (by rw [← jI_add]; rfl) (by decide) rfl (fun ls hl => ?_)
    refine lv_goto (tgt := 18) hx hb dL_law_746 (by decide) ?_
    exact N i8 σ H locs ls J hP hS (lv_sub hl [1, 2, 3, 0] rfl)
  obtain ⟨v, ev⟩ : ∃ v : Int32, v = xs (jI i).toNatClampNeg &&& 15 := ⟨_, rfl⟩
  have hv := lw_and (xs (jI i).toNatClampNeg)
  rw [← ev] at hv ⊢
  clear ev
  rcases (show v.toInt = 0 ∨ v.toInt = 1 ∨ v.toInt = 2 ∨ v.toInt = 3 ∨ v.toInt = 4 ∨ v.toInt = 5 ∨ v.toInt = 6 ∨ v.toInt = 7 ∨ v.toInt = 8 ∨ v.toInt = 9 ∨ v.toInt = 10 ∨ v.toInt = 11 ∨ v.toInt = 12 ∨ v.toInt = 13 ∨ v.toInt = 14 ∨ v.toInt = 15 by omega) with h | h | h | h | h | h | h | h | h | h | h | h | h | h | h | h
  · exact lv_tableIn (off := 79) (tgt := 112) hx hb dL_law_33 (by rw [h]; decide) (by rw [h]; decide) (by rw [h]; rfl) (by decide) (lw_c0 Y0 i0 i8 N743 σ H locs ls J hP hS hl)
  · exact lv_tableIn (off := 102) (tgt := 135) hx hb dL_law_33 (by rw [h]; decide) (by rw [h]; decide) (by rw [h]; rfl) (by decide) (lw_c1 Y0 i0 i8 N743 σ H locs ls J hP hS hl)
  · exact lv_tableIn (off := 115) (tgt := 148) hx hb dL_law_33 (by rw [h]; decide) (by rw [h]; decide) (by rw [h]; rfl) (by decide) (lw_c2 Y0 i0 i8 N743 σ H locs ls J hP hS hl)
  · exact lv_tableIn (off := 128) (tgt := 161) hx hb dL_law_33 (by rw [h]; decide) (by rw [h]; decide) (by rw [h]; rfl) (by decide) (lw_c3 Y0 i0 i8 N743 σ H locs ls J hP hS hl)
  · exact lv_tableIn (off := 141) (tgt := 174) hx hb dL_law_33 (by rw [h]; decide) (by rw [h]; decide) (by rw [h]; rfl) (by decide) (lw_c4 Y0 i0 i8 N743 σ H locs ls J hP hS hl)
  · exact lv_tableIn (off := 164) (tgt := 197) hx hb dL_law_33 (by rw [h]; decide) (by rw [h]; decide) (by rw [h]; rfl) (by decide) (lw_c5 Y0 i0 i8 N743 σ H locs ls J hP hS hl)
  · exact lv_tableIn (off := 223) (tgt := 256) hx hb dL_law_33 (by rw [h]; decide) (by rw [h]; decide) (by rw [h]; rfl) (by decide) (lw_c6 Y0 i0 i8 N743 σ H locs ls J hP hS hl)
  · exact lv_tableIn (off := 266) (tgt := 299) hx hb dL_law_33 (by rw [h]; decide) (by rw [h]; decide) (by rw [h]; rfl) (by decide) (lw_c7 Y0 i0 i8 N743 σ H locs ls J hP hS hl)
  · exact lv_tableIn (off := 299) (tgt := 332) hx hb dL_law_33 (by rw [h]; decide) (by rw [h]; decide) (by rw [h]; rfl) (by decide) (lw_c8 Y0 i0 i8 N743 σ H locs ls J hP hS hl)
  · exact lv_tableIn (off := 342) (tgt := 375) hx hb dL_law_33 (by rw [h]; decide) (by rw [h]; decide) (by rw [h]; rfl) (by decide) (lw_c9 Y0 i0 i8 N743 σ H locs ls J hP hS hl)
  · exact lv_tableIn (off := 417) (tgt := 450) hx hb dL_law_33 (by rw [h]; decide) (by rw [h]; decide) (by rw [h]; rfl) (by decide) (lw_c10 Y0 i0 i8 N743 σ H locs ls J hP hS hl)
  · exact lv_tableIn (off := 480) (tgt := 513) hx hb dL_law_33 (by rw [h]; decide) (by rw [h]; decide) (by rw [h]; rfl) (by decide) (lw_c11 Y0 i0 i8 N743 σ H locs ls J hP hS hl)
  · exact lv_tableIn (off := 543) (tgt := 576) hx hb dL_law_33 (by rw [h]; decide) (by rw [h]; decide) (by rw [h]; rfl) (by decide) (lw_c12 Y0 i0 i8 N743 σ H locs ls J hP hS hl)
  · exact lv_tableIn (off := 586) (tgt := 619) hx hb dL_law_33 (by rw [h]; decide) (by rw [h]; decide) (by rw [h]; rfl) (by decide) (lw_c13 Y0 i0 i8 N743 σ H locs ls J hP hS hl)
  · exact lv_tableIn (off := 673) (tgt := 706) hx hb dL_law_33 (by rw [h]; decide) (by rw [h]; decide) (by rw [h]; rfl) (by decide) (lw_c14 Y0 i0 i8 N743 σ H locs ls J hP hS hl)
  · exact lv_tableIn (off := 696) (tgt := 729) hx hb dL_law_33 (by rw [h]; decide) (by rw [h]; decide) (by rw [h]; rfl) (by decide) (lw_c15 Y0 i0 i8 N743 σ H locs ls J hP hS hl)
theorem lw_loop (Y : lwX p s m c b L xs g) (hend : ∀ (H : Heap) (locs : List Loc) (ls : Array Slot), va_S (cdZ g s.heap.size) s.heap H locs → W p l e room_1 s m #[Value.ref b] below meth c H locs 24 1956 Q (F0 m 749 ls [])) : ∀ (k : Nat) (i : Int), 0 ≤ i → i ≤ L → (L : Int) - i ≤ k → lwN p l e s m below meth c b g Q i 18 := by
  have hL := Y.2.2.2.2
  intro k
  induction k with
  | zero =>
    intro i i0 i1 ik
    exact lw_it Y i0 (by omega) hend (fun h => absurd h (by omega))
  | succ k ih =>
    intro i i0 i1 ik
    exact lw_it Y i0 (by omega) hend (fun h => ih (i + 8) (by omega) (by omega) (by omega))
end LP
