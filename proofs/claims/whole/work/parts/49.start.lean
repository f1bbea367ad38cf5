/-! THE LAW'S START: both are new. -/
def lwA (as : List Nat) (k : Nat) : Nat := as.getD k 0
/-- what a new object holds -/
def lwF (k : Nat) : Nat → Int32 := match k with
  | 3 => fun j => match j with
    | 0 => 1
    | 1 => 2
    | 2 => 3
    | _ => 4
  | 4 => fun j => match j with
    | 3 => 1
    | 4 => 1
    | _ => 0
  | 7 => fun j => match j with
    | 1 => 1
    | _ => 0
  | 9 => fun j => match j with
    | 1 => 3
    | _ => 0
  | 10 => fun j => match j with
    | 1 => 3
    | _ => 0
  | 11 => fun j => match j with
    | 1 => 3
    | _ => 0
  | 12 => fun j => match j with
    | 1 => 3
    | _ => 0
  | 13 => fun j => match j with
    | 1 => 3
    | _ => 0
  | _ => fun _ => 0
def lwS : cdS := (lwF, fun _ => 0)
theorem lwS_I2 : cdI2 lwS := by
  refine ⟨0, fun _ => 0, 0, fun _ => 0, fun _ _ _ => 0, 0, 0, 0, ⟨by omega, rfl, rfl, rfl, rfl, ⟨by omega, rfl, fun j hj => absurd hj (by omega)⟩, ⟨fun k hk => ?_, ?_, fun j k hj hk h => ?_, fun k hk => ?_⟩, fun k hk => absurd hk (by omega)⟩, ⟨by omega, rfl, rfl, rfl, rfl, ⟨by omega, rfl, fun j hj => absurd hj (by omega)⟩, fun k hk => absurd hk (by omega)⟩⟩
  · rcases (show k = 0 ∨ k = 1 ∨ k = 2 ∨ k = 3 by omega) with rfl | rfl | rfl | rfl <;> decide
  · decide
  · rcases (show j = 0 ∨ j = 1 ∨ j = 2 ∨ j = 3 by omega) with rfl | rfl | rfl | rfl <;> rcases (show k = 0 ∨ k = 1 ∨ k = 2 ∨ k = 3 by omega) with rfl | rfl | rfl | rfl <;> first | rfl | exact absurd h (by decide)
  · rcases (show k = 0 ∨ k = 1 ∨ k = 2 ∨ k = 3 by omega) with rfl | rfl | rfl | rfl <;> decide
/-- the world as it came, and as it is kept -/
def lwE (g : cdG) (f : Nat → Option Nat) (k : Nat) : va_E := if k = 3 then .inl (cdH g, 4, .inr (.inr (.inr (.inr f)))) else cdE g lwS k
def lwW (g : cdG) (f : Nat → Option Nat) : va_W := (List.range 24).map (fun k => (cdA g k, lwE g f k))
theorem lwW_at (g : cdG) (f : Nat → Option Nat) {k : Nat} (h : k < 24) : (lwW g f)[k]? = some (cdA g k, lwE g f k) := by
  unfold lwW
  rw [List.getElem?_map, List.getElem?_range h]
  rfl
theorem lwW_P {g : cdG} {f : Nat → Option Nat} {H : Heap} (hf : f 0 = some (cdA g 10) ∧ f 1 = some (cdA g 11) ∧ f 2 = some (cdA g 12) ∧ f 3 = some (cdA g 13)) (hP : va_P (cdD g) vwCl (lwW g f) H) : va_P (cdD g) vwCl (cdW g lwS) H := by
  intro k q hq
  have hk := cdW_lt hq
  rw [cdW_at g lwS hk] at hq
  cases hq
  have h1 := hP k _ (lwW_at g f hk)
  unfold lwE at h1
  by_cases h3 : k = 3
  · rw [if_pos h3] at h1
    subst h3
    show H[cdA g 3]? = some (vp_cell (cdH g) (4, .inr (.inr (.inr (.inr (fun j => some (cdA g (9 + cdh (lwF 3 j)))))))))
    rw [show H[cdA g 3]? = some (vp_cell (cdH g) (4, .inr (.inr (.inr (.inr f))))) from h1, vp_cell_q, vp_cell_q]
    unfold arrV
    congr 2
    congr 1
    funext j
    obtain ⟨f0, f1, f2, f3⟩ := hf
    have hj := j.2
    have e : f j.1 = some (cdA g (9 + cdh (lwF 3 j.1))) := by
      rcases (show j.1 = 0 ∨ j.1 = 1 ∨ j.1 = 2 ∨ j.1 = 3 by omega) with h | h | h | h
      · rw [h, f0]; rfl
      · rw [h, f1]; rfl
      · rw [h, f2]; rfl
      · rw [h, f3]; rfl
    dsimp only
    rw [e]
  · rw [if_neg h3] at h1
    exact h1
theorem lwW_D {g : cdG} {f : Nat → Option Nat} {A : Nat → Prop} (hD : va_D A (lwW g f)) : cdDi g ∧ ∀ k, k < 24 → A (cdA g k) :=
  ⟨fun i j hi hj h => hD.1 i j _ _ (lwW_at g f hi) (lwW_at g f hj) h, fun k hk => hD.2 k _ (lwW_at g f hk)⟩
theorem lw_small {args : Array Value} {s : State} {tm : Term} {v : Value} {t : Nat} {cell : Cell} (hlen : (Term.length tm).eval args s none [] s = some v) (ht : tm.eval args s none [] s = some (.ref t)) (hat : s.arrayAt? t = some cell) : cell.slots.size < 2 ^ 31 := by
  simp only [Term.eval, ht, hat, Option.bind_eq_bind, Option.bind_some] at hlen
  by_cases hlt : cell.slots.size < 2147483648
  · exact hlt
  · simp [hlt] at hlen
/-- the static row of sides -/
theorem lw_sd {args : Array Value} {s : State} (hgv : (Jvm.Cond.and given_1 narrow_1).before args s = true) : ∃ t : Nat, (Term.static "CanDepths$Page" "SIDES" "[I").eval args s none [] s = some (.ref t) ∧ va_X t 3 cdSides s s.heap ∧ t < s.heap.size := by
  have hs := flat_of_before _ hgv
  have harr : (Cond.arrayOf (.static "CanDepths$Page" "SIDES" "[I") .int).before args s = true := hs _ (by decide +kernel)
  have hlen := va_eqt (hs (Cond.eq (.length (.static "CanDepths$Page" "SIDES" "[I")) (.int 3)) (by decide +kernel))
  have h0 := va_eqt (hs (Cond.eq (.elem (.static "CanDepths$Page" "SIDES" "[I") (.int 0)) (.int 3)) (by decide +kernel))
  have h1 := va_eqt (hs (Cond.eq (.elem (.static "CanDepths$Page" "SIDES" "[I") (.int 1)) (.int 5)) (by decide +kernel))
  have h2 := va_eqt (hs (Cond.eq (.elem (.static "CanDepths$Page" "SIDES" "[I") (.int 2)) (.int 7)) (by decide +kernel))
  obtain ⟨t, ht, cell, hcell, hof, hkn, hle, hsz, hel, -⟩ := va_Tof (N := 3) (f := fun j => .int (cdSides j)) (A := fun _ => False) (by decide) harr hlen (fun j hj => by
    rcases (show j = 0 ∨ j = 1 ∨ j = 2 by omega) with rfl | rfl | rfl
    · exact h0
    · exact h1
    · exact h2) (fun _ _ h => h)
  have h31 : cell.slots.size < 2 ^ 31 := by
    obtain ⟨t2, cell2, ht2, hat, -⟩ := Term.length_spec hlen
    cases ht.symm.trans ht2
    obtain ⟨hc2, -, -, -⟩ := State.arrayAt?_spec hat
    cases hcell.symm.trans hc2
    exact lw_small hlen ht hat
  have h3 : cell.slots.size = 3 := by
    have e : (Int32.ofNat cell.slots.size).toInt = (Int32.ofNat 3).toInt := congrArg Int32.toInt hsz
    rw [Int32.toInt_ofNat_small h31] at e
    have : (Int32.ofNat 3).toInt = 3 := by decide
    omega
  exact ⟨t, ht, ⟨cell, hcell, hof, hkn, h3, hel⟩, (Array.getElem?_eq_some_iff.mp hcell).1⟩
theorem lw_tbl1 {w : Cond} (i : Nat) (h : tables_1_1[i]? = some w) : w ∈ lw_tbl := List.mem_append_right _ (List.mem_append_left _ (List.mem_of_getElem? h))
theorem lw_tbl2 {w : Cond} (i : Nat) (h : tables_1_2[i]? = some w) : w ∈ lw_tbl := List.mem_append_right _ (List.mem_append_right _ (List.mem_append_left _ (List.mem_of_getElem? h)))
set_option maxHeartbeats 4000000 in
set_option maxRecDepth 100000 in
theorem whole_start {p : Program} {e : Env} {s : State} {m : MethodId} {below : List Frame} {meth : Method} {c : Code} (l : Launch) (hflags : l.flags = flags0) {b L : Nat} {xs : Nat → Int32} (hL : L ≤ 4096) (C0 : lw_At p s m meth c b L xs) : W p l e room_1 s m #[Value.ref b] below meth c s.heap [] 0 0 (lw_Z below #[Value.ref b] s) (entryFrame m ([Value.ref b] : List Value).toArray 4) := by
  obtain ⟨hx, hb, hr, hml, hown, hts0, hX, hbl, hlocks, hgv⟩ := id C0
  have hts : ∀ w ∈ cdL, w.before #[Value.ref b] s = true := fun w hw => hts0 w (List.mem_filter.mp hw).1
  have hA : ∀ q : Nat, s.heap.size ≤ q → (fun q : Nat => s.heap.size ≤ q) q := fun _ h => h
  obtain ⟨c0, iS0, hKn0⟩ := u_known (n := 6) hts inX0 (hts _ ct_w0.2.1)
  obtain ⟨c1, iS1, hKn1⟩ := u_known (n := 5) hts inX1 (hts _ ct_w1.2.1)
  obtain ⟨c2, iS2, hKn2⟩ := u_known (n := 2) hts inX2 (hts _ ct_w2.2.1)
  obtain ⟨c3, iS3, hKn3⟩ := u_known (n := 2) hts inX3 (hts _ ct_w3.2.1)
  obtain ⟨c4, iS4, hKn4⟩ := u_known (n := 2) hts inX4 (hts _ ct_w4.2.1)
  obtain ⟨c5, iS5, hKn5⟩ := u_known (n := 9) hts inX5 (hts _ ct_w5.2.1)
  obtain ⟨c6, iS6, hKn6⟩ := u_known (n := 20) hts inX6 (hts _ ct_w6.2.1)
  obtain ⟨D, hKc⟩ : ∃ (D : va_G), ∀ (k : Nat) (q : vw_C), vwCl[k]? = some q → u_Kn s q.1 q.2.1 q.2.2 (D.1 k) (D.2 k) := by
    refine ⟨(fun k => match k with | 0 => c0 | 1 => c1 | 2 => c2 | 3 => c3 | 4 => c4 | 5 => c5 | _ => c6, fun k => match k with | 0 => iS0 | 1 => iS1 | 2 => iS2 | 3 => iS3 | 4 => iS4 | 5 => iS5 | _ => iS6), ?_⟩
    intro k q hq
    match k, hq with
    | 0, hq => cases hq; exact hKn0
    | 1, hq => cases hq; exact hKn1
    | 2, hq => cases hq; exact hKn2
    | 3, hq => cases hq; exact hKn3
    | 4, hq => cases hq; exact hKn4
    | 5, hq => cases hq; exact hKn5
    | 6, hq => cases hq; exact hKn6
    | k + 7, hq => simp [vwCl] at hq
  obtain ⟨I, kI, cI, i1, i2, i3⟩ := Cond.arrayClass_spec (hts _ wa_I)
  have hAO : va_AO RX2 s := va_AO.of (hts0 _ (lw_tbl1 105 rfl))
  obtain ⟨cH, Hc, kH, k1, -, k2, k3, k4⟩ := Cond.arrayOver_spec (va_AO.use (A := #[Value.ref b]) hAO)
  have hK : va_K D vwCl (ctT I Hc) s := by
    refine ⟨hKc, fun k q hq => ?_⟩
    match k, hq with
    | 0, hq => cases hq; exact ⟨fun n z => ⟨fun k h => (by cases h), kI, i2, cI, i3⟩, i1⟩
    | 1, hq => cases hq; exact ⟨fun n z => ⟨fun k h => (by cases h), kH, k2, cH, k3⟩, kH, cH, k2, k3, k1, k4⟩
    | k + 2, hq => simp at hq
  have hV : ctV s := ⟨va_Nw.of rfl (hts0 _ (lw_tbl1 20 rfl)), va_Nw.of rfl (hts0 _ (lw_tbl1 34 rfl)), va_Nw.of rfl (hts0 _ (lw_tbl1 69 rfl)), va_Nw.of rfl (hts0 _ (lw_tbl1 94 rfl)), va_Nw.of rfl (hts0 _ (lw_tbl1 40 rfl)), hAO⟩
  have hS : va_S (fun q : Nat => s.heap.size ≤ q) s.heap s.heap [] := va_S.rf
  have hP : va_P D vwCl [] s.heap := fun k q h => by simp at h
  have hD : va_D (fun q : Nat => s.heap.size ≤ q) [] := ⟨fun i j p q h => by simp at h, fun k q h => by simp at h⟩
  have hl := lv_entry ([.ref b]) (n := 4) (Nat.le_of_ble_eq_true rfl)
  rw [lg_entry_eq]
  generalize (lg_sl ([.ref b]) ++ List.replicate (4 - (lg_sl ([.ref b])).length) Slot.unset).toArray = ls at hl ⊢
  have hl : lv_has ls 4 [(0, .ref b)] := hl
  obtain ⟨Qm, hQm⟩ : ∃ z, z = lw_Z below #[Value.ref b] s := ⟨_, rfl⟩
  rw [← hQm]
  refine ct_mkI (ci := 5) (fs := [.null, .null, .null, .null, .null, .int 0, .int 0, .int 0, .int 0]) (nL := 4) (own := RL) (C := RX5) (T := TX5) (i2 := 9) ⟨hx, hb, hml, hown, hts⟩ hV hK ct_w5 inX5 tyX5 tyX5_ok rfl (fun j hj => by rcases (show j = 0 ∨ j = 1 ∨ j = 2 ∨ j = 3 ∨ j = 4 ∨ j = 5 ∨ j = 6 ∨ j = 7 ∨ j = 8 by omega) with rfl | rfl | rfl | rfl | rfl | rfl | rfl | rfl | rfl <;> rfl) (cd_t1 12 rfl rfl) (fun q => ct_X5 l D I Hc q) hP hD hS hA hl.1 (fun _ => Nat.le_of_ble_eq_true rfl) ⟨Nat.le_of_ble_eq_true rfl, Nat.le_of_ble_eq_true rfl⟩ (Nat.le_of_ble_eq_true rfl) (Nat.le_of_ble_eq_true rfl) [] (fun _ => rfl) (by decide) (by simp) dL_law_0 dL_law_3 dL_law_4 (fun h0 u H locs hu hP hD hS => ?_)
  obtain ⟨q1, q2, q3, q4, q5, q6, q7, q8, q9, q10, q11, q12, q13, q14, q15, q16, q17, q18, f, hf, rfl⟩ := hu
  refine W.widen (k := 19) (n := 1265) (Nat.le_of_ble_eq_true rfl) (Nat.le_of_ble_eq_true rfl) ?_
  have hP : va_P D vwCl [(h0, .inr (5, [.ref q1, .ref q3, .ref q4, .ref q8, .ref q9, .int 0, .int 0, .int 0, .int 0])), (q1, .inr (3, [.ref q2, .int 0])), (q2, .inl (I, 60, .inl (fun _ => 0))), (q4, .inr (1, [.ref q5, .ref q6, .ref q7, .int 1, .int 1])), (q5, .inl (I, 361, .inl (fun _ => 0))), (q6, .inl (I, 561, .inl (fun _ => 0))), (q7, .inr (4, [.int 0, .int 1])), (q8, .inr (0, [.int 0, .int 0, .int 0, .int 0, .int 0, .int 0])), (q9, .inr (2, [.ref q14, .int 3])), (q14, .inl (I, 49, .inl (fun _ => 0))), (q3, .inl (Hc, 4, .inr (.inr (.inr (.inr f))))), (q10, .inr (2, [.ref q15, .int 3])), (q15, .inl (I, 49, .inl (fun _ => 0))), (q11, .inr (2, [.ref q16, .int 3])), (q16, .inl (I, 49, .inl (fun _ => 0))), (q12, .inr (2, [.ref q17, .int 3])), (q17, .inl (I, 49, .inl (fun _ => 0))), (q13, .inr (2, [.ref q18, .int 3])), (q18, .inl (I, 49, .inl (fun _ => 0)))] H := hP
  have hD : va_D (fun q : Nat => s.heap.size ≤ q) [(h0, .inr (5, [.ref q1, .ref q3, .ref q4, .ref q8, .ref q9, .int 0, .int 0, .int 0, .int 0])), (q1, .inr (3, [.ref q2, .int 0])), (q2, .inl (I, 60, .inl (fun _ => 0))), (q4, .inr (1, [.ref q5, .ref q6, .ref q7, .int 1, .int 1])), (q5, .inl (I, 361, .inl (fun _ => 0))), (q6, .inl (I, 561, .inl (fun _ => 0))), (q7, .inr (4, [.int 0, .int 1])), (q8, .inr (0, [.int 0, .int 0, .int 0, .int 0, .int 0, .int 0])), (q9, .inr (2, [.ref q14, .int 3])), (q14, .inl (I, 49, .inl (fun _ => 0))), (q3, .inl (Hc, 4, .inr (.inr (.inr (.inr f))))), (q10, .inr (2, [.ref q15, .int 3])), (q15, .inl (I, 49, .inl (fun _ => 0))), (q11, .inr (2, [.ref q16, .int 3])), (q16, .inl (I, 49, .inl (fun _ => 0))), (q12, .inr (2, [.ref q17, .int 3])), (q17, .inl (I, 49, .inl (fun _ => 0))), (q13, .inr (2, [.ref q18, .int 3])), (q18, .inl (I, 49, .inl (fun _ => 0)))] := hD
  refine lv_astore_n (lv' := [(1, .ref h0), (0, .ref b)]) hx hb dL_law_7 rfl hl (by decide) rfl (fun ls hl => ?_)
  refine ct_mkI (ci := 6) (fs := [.int 0, .null, .int 0, .null, .null, .int 0, .int 0, .int 0, .int 0, .int 0, .int 0, .int 0, .int 0, .null, .int 0, .int 0, .int 0, .long 0, .long 0, .long 0]) (nL := 4) (own := RL) (C := RX6) (T := TX6) (i2 := 12) ⟨hx, hb, hml, hown, hts⟩ hV hK ct_w6 inX6 tyX6 tyX6_ok rfl (fun j hj => by rcases (show j = 0 ∨ j = 1 ∨ j = 2 ∨ j = 3 ∨ j = 4 ∨ j = 5 ∨ j = 6 ∨ j = 7 ∨ j = 8 ∨ j = 9 ∨ j = 10 ∨ j = 11 ∨ j = 12 ∨ j = 13 ∨ j = 14 ∨ j = 15 ∨ j = 16 ∨ j = 17 ∨ j = 18 ∨ j = 19 by omega) with rfl | rfl | rfl | rfl | rfl | rfl | rfl | rfl | rfl | rfl | rfl | rfl | rfl | rfl | rfl | rfl | rfl | rfl | rfl | rfl <;> rfl) (cd_t3 21 rfl rfl) (fun q => ct_X6 l D I Hc q) hP hD hS hA hl.1 (fun _ => Nat.le_of_ble_eq_true rfl) ⟨Nat.le_of_ble_eq_true rfl, Nat.le_of_ble_eq_true rfl⟩ (Nat.le_of_ble_eq_true rfl) (Nat.le_of_ble_eq_true rfl) [0, 1, 2, 3, 4, 5, 6, 7, 8, 9, 10, 11, 12, 13, 14, 15, 16, 17, 18] (fun _ => rfl) (by decide) (by simp) dL_law_8 dL_law_11 dL_law_12 (fun m0 u H locs hu hP hD hS => ?_)
  obtain ⟨q20, q21, q22, q23, rfl⟩ := hu
  refine W.widen (k := 24) (n := 1956) (Nat.le_of_ble_eq_true rfl) (Nat.le_of_ble_eq_true rfl) ?_
  have hP : va_P D vwCl [(h0, .inr (5, [.ref q1, .ref q3, .ref q4, .ref q8, .ref q9, .int 0, .int 0, .int 0, .int 0])), (q1, .inr (3, [.ref q2, .int 0])), (q2, .inl (I, 60, .inl (fun _ => 0))), (q4, .inr (1, [.ref q5, .ref q6, .ref q7, .int 1, .int 1])), (q5, .inl (I, 361, .inl (fun _ => 0))), (q6, .inl (I, 561, .inl (fun _ => 0))), (q7, .inr (4, [.int 0, .int 1])), (q8, .inr (0, [.int 0, .int 0, .int 0, .int 0, .int 0, .int 0])), (q9, .inr (2, [.ref q14, .int 3])), (q14, .inl (I, 49, .inl (fun _ => 0))), (q3, .inl (Hc, 4, .inr (.inr (.inr (.inr f))))), (q10, .inr (2, [.ref q15, .int 3])), (q15, .inl (I, 49, .inl (fun _ => 0))), (q11, .inr (2, [.ref q16, .int 3])), (q16, .inl (I, 49, .inl (fun _ => 0))), (q12, .inr (2, [.ref q17, .int 3])), (q17, .inl (I, 49, .inl (fun _ => 0))), (q13, .inr (2, [.ref q18, .int 3])), (q18, .inl (I, 49, .inl (fun _ => 0))), (m0, .inr (6, [.int 0, .ref q20, .int 0, .ref q21, .ref q22, .int 0, .int 0, .int 0, .int 0, .int 0, .int 0, .int 0, .int 0, .ref q23, .int 0, .int 0, .int 0, .long 0, .long 0, .long 0])), (q20, .inl (I, 60, .inl (fun _ => 0))), (q21, .inl (I, 5, .inl (fun _ => 0))), (q22, .inl (I, 245, .inl (fun _ => 0))), (q23, .inl (I, 361, .inl (fun _ => 0)))] H := hP
  have hD : va_D (fun q : Nat => s.heap.size ≤ q) [(h0, .inr (5, [.ref q1, .ref q3, .ref q4, .ref q8, .ref q9, .int 0, .int 0, .int 0, .int 0])), (q1, .inr (3, [.ref q2, .int 0])), (q2, .inl (I, 60, .inl (fun _ => 0))), (q4, .inr (1, [.ref q5, .ref q6, .ref q7, .int 1, .int 1])), (q5, .inl (I, 361, .inl (fun _ => 0))), (q6, .inl (I, 561, .inl (fun _ => 0))), (q7, .inr (4, [.int 0, .int 1])), (q8, .inr (0, [.int 0, .int 0, .int 0, .int 0, .int 0, .int 0])), (q9, .inr (2, [.ref q14, .int 3])), (q14, .inl (I, 49, .inl (fun _ => 0))), (q3, .inl (Hc, 4, .inr (.inr (.inr (.inr f))))), (q10, .inr (2, [.ref q15, .int 3])), (q15, .inl (I, 49, .inl (fun _ => 0))), (q11, .inr (2, [.ref q16, .int 3])), (q16, .inl (I, 49, .inl (fun _ => 0))), (q12, .inr (2, [.ref q17, .int 3])), (q17, .inl (I, 49, .inl (fun _ => 0))), (q13, .inr (2, [.ref q18, .int 3])), (q18, .inl (I, 49, .inl (fun _ => 0))), (m0, .inr (6, [.int 0, .ref q20, .int 0, .ref q21, .ref q22, .int 0, .int 0, .int 0, .int 0, .int 0, .int 0, .int 0, .int 0, .ref q23, .int 0, .int 0, .int 0, .long 0, .long 0, .long 0])), (q20, .inl (I, 60, .inl (fun _ => 0))), (q21, .inl (I, 5, .inl (fun _ => 0))), (q22, .inl (I, 245, .inl (fun _ => 0))), (q23, .inl (I, 361, .inl (fun _ => 0)))] := hD
  refine lv_astore_n (lv' := [(2, .ref m0), (1, .ref h0), (0, .ref b)]) hx hb dL_law_15 rfl hl (by decide) rfl (fun ls hl => ?_)
  refine lv_iconst (v := 0) hx hb dL_law_16 (by decide) ?_
  refine lv_istore_n (lv' := [(3, .int 0), (2, .ref m0), (1, .ref h0), (0, .ref b)]) hx hb dL_law_17 rfl hl (by decide) rfl (fun ls hl => ?_)
  obtain ⟨t, ht, hXt, htl⟩ := lw_sd hgv
  obtain ⟨g, hg⟩ : ∃ g : cdG, g = (D.1, D.2, lwA [h0, q1, q2, q3, q4, q5, q6, q7, q8, q9, q10, q11, q12, q13, q14, q15, q16, q17, q18, m0, q20, q21, q22, q23], I, Hc, t) := ⟨_, rfl⟩
  have hP0 : va_P (cdD g) vwCl (lwW g f) H := by
    rw [hg]
    exact hP.sub [0, 1, 2, 10, 3, 4, 5, 6, 7, 8, 11, 13, 15, 17, 9, 12, 14, 16, 18, 19, 20, 21, 22, 23] rfl
  have hD0 : va_D (fun q : Nat => s.heap.size ≤ q) (lwW g f) := by
    rw [hg]
    exact hD.sub [0, 1, 2, 10, 3, 4, 5, 6, 7, 8, 11, 13, 15, 17, 9, 12, 14, 16, 18, 19, 20, 21, 22, 23] (by decide) rfl
  obtain ⟨hdi, hge⟩ := lwW_D hD0
  have hP1 : va_P (cdD g) vwCl (cdW g lwS) H := lwW_P (by rw [hg]; exact hf) hP0
  have hZ : ∀ q : Nat, cdZ g s.heap.size q → s.heap.size ≤ q := fun q h => by
    rcases h with ⟨k, hk, rfl⟩ | h
    · exact hge k hk
    · exact h
  have hS1 : va_S (cdZ g s.heap.size) s.heap H locs := ⟨hS.1, fun q h1 h2 => hS.2.1 q h1 (fun h => h2 (Or.inr h)), fun q hq => Or.inr (hS.2.2 q hq)⟩
  have hK1 : va_K (cdD g) vwCl (cdT g) s := by
    rw [hg]
    exact hK
  have sd : cdSd g = t := by rw [hg]; rfl
  have X : cdX p s m #[Value.ref b] c cL_law 4 RL g := by
    refine ⟨hx, hb, hml, hown, hts, hK1, hdi, ⟨va_Nw.of rfl (hts0 _ (lw_tbl2 146 rfl)), va_Nw.of rfl (hts0 _ (lw_tbl2 6 rfl))⟩, ?_, ?_, ?_, ?_⟩
    · rw [sd]
      exact va_Zof (hts0 _ (lw_tbl1 168 rfl)) (hts0 _ (lw_tbl1 2 rfl)) ht (fun a ha h => absurd (hZ a h) (by omega))
    · rw [sd]
      exact hXt
    · rw [sd]
      exact htl
    · rw [sd]
      exact fun h => absurd (hZ t h) (by omega)
  have a0 : cdA g 0 = h0 := by rw [hg]; rfl
  have a19 : cdA g 19 = m0 := by rw [hg]; rfl
  have Y : lwX p s m c b L xs g := ⟨X, hX, hbl, fun h => absurd (hZ b h) (by omega), hL⟩
  refine lw_loop Y ?_ L 0 (by omega) (by omega) (by omega) lwS H locs ls lwS_I2 hP1 hS1 (by show lv_has ls 4 [(0, .ref b), (1, .ref (cdA g 0)), (2, .ref (cdA g 19)), (3, .int (jI 0))]; rw [a0, a19]; exact lv_sub hl [3, 2, 1, 0] rfl)
  intro H locs ls hS
  refine va_forget (fun q hq => hZ _ (hS.2.2 q hq)) ?_
  refine W.widen (k := 600000) (n := 7302250) (Nat.le_of_ble_eq_true rfl) (Nat.le_of_ble_eq_true rfl) ?_
  refine lv_iconst (v := 1) hx hb dL_law_749 (by decide) ?_
  rw [hQm]
  exact lw_ret hx hb hr hlocks dL_law_750
