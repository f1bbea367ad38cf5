def wp_J7_fill_53178 (v1 : Int32) (σ : cdS) (Q : cdS → Prop) : Prop :=
  ∀ (P5 : Int32 → Int32 → cdS → Prop),
    (∀ (x2 : Int32) (x3 : Int32) (σ : cdS), (
    ((x3 ≤ x2 →
    Q σ) ∧
    (¬ (x3 ≤ x2) →
    vp_in x2 561 ∧ ∀ σ_3 : cdS, σ_3 = cdU σ 6 (x2).toNatClampNeg v1 →
    ∀ x2_4 : Int32, x2_4 = x2 + 1 →
    P5 x2_4 x3 σ_3))) → P5 x2 x3 σ) →
    
    P5 (0 : Int32) (561 : Int32) σ
set_option maxHeartbeats 4000000 in
set_option maxRecDepth 100000 in
theorem c_J7_fill_53178 (l : Launch) (g : cdG) (v1 : Int32) (σ : cdS) (Q : cdS → Prop) (hwp : wp_J7_fill_53178 v1 σ Q) : cdCv l g yJ7_fill_53178 cJ7_fill_53178 4 none 0 0 [.ref (cdA g 6), .int v1] σ Q := by
  intro sz
  refine cd_ofW (cc := cJ7_fill_53178) (maxL := 4) (ret := none) (by decide +kernel) rfl ?_
  intro p e s m args below meth c s₁ B hml hv
  obtain ⟨rfl, hsz, hP, hK, hdi, hV⟩ := hv
  subst hsz
  have hx := B.exec
  have hb := B.bytes
  have hr := B.returns
  have hlocks := B.notSynchronized
  have hown : s.vm.findClass RJ7 = some m.cls := findClass_of_methodNamed B.named
  have hts : ∀ w ∈ cdL, w.before _ s = true := fun w hw => atoms_spec (ws := cdWs yJ7_fill_53178 cJ7_fill_53178 4 none) B.pre w (List.mem_cons_of_mem _ hw)
  have X : cdX p s m _ c cJ7_fill_53178 4 RJ7 g := ⟨hx, hb, hml, hown, hts, hK, hdi, hV⟩
  have hS : va_S (cdZ g s.heap.size) s.heap s.heap [] := va_S.rf
  have hl := lv_entry ([.ref (cdA g 6), .int v1]) (n := 4) (Nat.le_of_ble_eq_true rfl)
  rw [lg_entry_eq]
  generalize (lg_sl ([.ref (cdA g 6), .int v1]) ++ List.replicate (4 - (lg_sl ([.ref (cdA g 6), .int v1])).length) Slot.unset).toArray = ls at hl ⊢
  have hl : lv_has ls 4 [(0, .ref (cdA g 6)), (1, .int v1)] := hl
  obtain ⟨Qm, hQm⟩ : ∃ z, z = MQ below (va_Qv Q (fun σ' t => va_P (cdD g) vwCl (cdW g σ') t.heap) (cdZ g s.heap.size)) ([.ref (cdA g 6), .int v1] : List Value).toArray s 0 0 (cdZ g s.heap.size) := ⟨_, rfl⟩
  rw [← hQm]
  have hB := hwp (fun (x2 : Int32) (x3 : Int32) (σ : cdS) => cdCut p l e (headSpec (cdWs yJ7_fill_53178 cJ7_fill_53178 4 none) (cdRm 0 0)).room s m ([.ref (cdA g 6), .int v1] : List Value).toArray below meth c Qm g 4 5 [(0, .ref (cdA g 6)), (1, .int v1), (2, .int x2), (3, .int x3)] [] σ)
    (by
    intro x2 x3 σ hB H locs ls hP hS hl
    refine lv_iload_n hx hb dJ7_fill_53178_5 rfl (lv_at hl 2 rfl) ?_
    refine lv_iload_n hx hb dJ7_fill_53178_6 rfl (lv_at hl 3 rfl) ?_
    refine lv_icmp_ge (tgt := 20) hx hb dJ7_fill_53178_7 (by decide) (fun c_1 => ?_) (fun c_1 => ?_)
    · have hB := hB.1 c_1
      rw [hQm]
      exact W.vret hx hb hr (fun t ht hW => ⟨⟨σ, rfl, hB, cd_hp ht hP⟩, hS.F ht⟩) hS.2.2 dJ7_fill_53178_20
    · have hB := hB.2 c_1
      refine lv_aload_n hx hb dJ7_fill_53178_10 rfl (lv_at hl 0 rfl) ?_
      refine lv_iload_n hx hb dJ7_fill_53178_11 rfl (lv_at hl 2 rfl) ?_
      refine lv_iload_n hx hb dJ7_fill_53178_12 rfl (lv_at hl 1 rfl) ?_
      obtain ⟨i_2, hB⟩ := hB
      refine cd_ast X hP hS (k := 6) (N := 561) (by decide) (fun _ => rfl) i_2 dJ7_fill_53178_13 (fun H locs hP hS => ?_)
      obtain ⟨σ_3, eσ_3⟩ : ∃ z : cdS, z = cdU σ 6 (x2).toNatClampNeg v1 := ⟨_, rfl⟩
      rw [← eσ_3] at hP
      have hB := hB σ_3 eσ_3
      obtain ⟨x2_4, ex2_4⟩ : ∃ z : Int32, z = x2 + 1 := ⟨_, rfl⟩
      have hB := hB x2_4 ex2_4
      refine lv_iinc (v := x2_4) (lv' := [(2, .int x2_4), (0, .ref (cdA g 6)), (1, .int v1), (3, .int x3)]) hx hb dJ7_fill_53178_14 hl (k := 2) rfl (by rw [ex2_4]; rfl) (by decide) rfl (fun ls hl => ?_)
      refine lv_goto (tgt := 5) hx hb dJ7_fill_53178_17 (by decide) ?_
      exact hB _ _ _ hP hS (lv_sub hl [1, 2, 0, 3] rfl))
  refine lv_iconst (v := 0) hx hb dJ7_fill_53178_0 (by decide) ?_
  refine lv_istore_n (lv' := [(2, .int (0 : Int32)), (0, .ref (cdA g 6)), (1, .int v1)]) hx hb dJ7_fill_53178_1 rfl hl (by decide) rfl (fun ls hl => ?_)
  refine lv_aload_n hx hb dJ7_fill_53178_2 rfl (lv_at hl 1 rfl) ?_
  refine cd_len X hP (k := 6) (N := 561) (v := 561) (by decide) rfl (by decide) dJ7_fill_53178_3 ?_
  refine lv_istore_n (lv' := [(3, .int (561 : Int32)), (2, .int (0 : Int32)), (0, .ref (cdA g 6)), (1, .int v1)]) hx hb dJ7_fill_53178_4 rfl hl (by decide) rfl (fun ls hl => ?_)
  exact hB _ _ _ hP hS (lv_sub hl [2, 3, 1, 0] rfl)
def wp_J9_floorDiv_7cf53 (v0 : Int32) (v1 : Int32) (σ : cdS) (Q : Int32 → Prop) : Prop :=
  
    ¬ v1 = 0 ∧
    ∀ x2_2 : Int32, x2_2 = (v0 / v1) →
    ((0 ≤ (v0 ^^^ v1) →
    Q x2_2) ∧
    (¬ (0 ≤ (v0 ^^^ v1)) →
    (((x2_2 * v1) = v0 →
    Q x2_2) ∧
    (¬ ((x2_2 * v1) = v0) →
    Q (x2_2 - (1 : Int32))))))
set_option maxHeartbeats 4000000 in
set_option maxRecDepth 100000 in
theorem c_J9_floorDiv_7cf53 (l : Launch) (g : cdG) (v0 : Int32) (v1 : Int32) (σ : cdS) (Q : Int32 → Prop) (hwp : wp_J9_floorDiv_7cf53 v0 v1 σ Q) : cdCi l g yJ9_floorDiv_7cf53 cJ9_floorDiv_7cf53 3 (some .int) 0 0 [.int v0, .int v1] σ (fun r σ' => σ' = σ ∧ Q r) := by
  intro sz
  refine cd_ofW (cc := cJ9_floorDiv_7cf53) (maxL := 3) (ret := (some .int)) (by decide +kernel) rfl ?_
  intro p e s m args below meth c s₁ B hml hv
  obtain ⟨rfl, hsz, hP, hK, hdi, hV⟩ := hv
  subst hsz
  have hx := B.exec
  have hb := B.bytes
  have hr := B.returns
  have hlocks := B.notSynchronized
  have hown : s.vm.findClass RJ9 = some m.cls := findClass_of_methodNamed B.named
  have hts : ∀ w ∈ cdL, w.before _ s = true := fun w hw => atoms_spec (ws := cdWs yJ9_floorDiv_7cf53 cJ9_floorDiv_7cf53 3 (some .int)) B.pre w (List.mem_cons_of_mem _ hw)
  have X : cdX p s m _ c cJ9_floorDiv_7cf53 3 RJ9 g := ⟨hx, hb, hml, hown, hts, hK, hdi, hV⟩
  have hS : va_S (cdZ g s.heap.size) s.heap s.heap [] := va_S.rf
  have hl := lv_entry ([.int v0, .int v1]) (n := 3) (Nat.le_of_ble_eq_true rfl)
  rw [lg_entry_eq]
  generalize (lg_sl ([.int v0, .int v1]) ++ List.replicate (3 - (lg_sl ([.int v0, .int v1])).length) Slot.unset).toArray = ls at hl ⊢
  have hl : lv_has ls 3 [(0, .int v0), (1, .int v1)] := hl
  obtain ⟨Qm, hQm⟩ : ∃ z, z = MQ below (va_Qi (fun r σ' => σ' = σ ∧ Q r) (fun σ' t => va_P (cdD g) vwCl (cdW g σ') t.heap) (cdZ g s.heap.size)) ([.int v0, .int v1] : List Value).toArray s 0 0 (cdZ g s.heap.size) := ⟨_, rfl⟩
  rw [← hQm]
  have hB := hwp
  refine lv_iload_n hx hb dJ9_floorDiv_7cf53_0 rfl (lv_at hl 0 rfl) ?_
  refine lv_iload_n hx hb dJ9_floorDiv_7cf53_1 rfl (lv_at hl 1 rfl) ?_
  obtain ⟨z_1, hB⟩ := hB
  refine lv_idiv hx hb dJ9_floorDiv_7cf53_2 z_1 ?_
  refine lv_topi (fun x2_2 ex2_2 => ?_)
  have hB := hB x2_2 ex2_2
  refine lv_istore_n (lv' := [(2, .int x2_2), (0, .int v0), (1, .int v1)]) hx hb dJ9_floorDiv_7cf53_3 rfl hl (by decide) rfl (fun ls hl => ?_)
  refine lv_iload_n hx hb dJ9_floorDiv_7cf53_4 rfl (lv_at hl 1 rfl) ?_
  refine lv_iload_n hx hb dJ9_floorDiv_7cf53_5 rfl (lv_at hl 2 rfl) ?_
  refine lv_ixor hx hb dJ9_floorDiv_7cf53_6 ?_
  refine lv_if_ge (tgt := 21) hx hb dJ9_floorDiv_7cf53_7 (by decide) (fun c_3 => ?_) (fun c_3 => ?_)
  · have hB := hB.1 c_3
    refine lv_iload_n hx hb dJ9_floorDiv_7cf53_21 rfl (lv_at hl 0 rfl) ?_
    rw [hQm]
    exact W.iret hx hb hr (fun t ht hW => ⟨⟨x2_2, σ, rfl, ⟨rfl, hB⟩, cd_hp ht hP⟩, hS.F ht⟩) hS.2.2 dJ9_floorDiv_7cf53_22
  · have hB := hB.2 c_3
    refine lv_iload_n hx hb dJ9_floorDiv_7cf53_10 rfl (lv_at hl 0 rfl) ?_
    refine lv_iload_n hx hb dJ9_floorDiv_7cf53_11 rfl (lv_at hl 2 rfl) ?_
    refine lv_imul hx hb dJ9_floorDiv_7cf53_12 ?_
    refine lv_iload_n hx hb dJ9_floorDiv_7cf53_13 rfl (lv_at hl 1 rfl) ?_
    refine lv_icmp_eq (tgt := 21) hx hb dJ9_floorDiv_7cf53_14 (by decide) (fun c_4 => ?_) (fun c_4 => ?_)
    · have hB := hB.1 c_4
      refine lv_iload_n hx hb dJ9_floorDiv_7cf53_21 rfl (lv_at hl 0 rfl) ?_
      rw [hQm]
      exact W.iret hx hb hr (fun t ht hW => ⟨⟨x2_2, σ, rfl, ⟨rfl, hB⟩, cd_hp ht hP⟩, hS.F ht⟩) hS.2.2 dJ9_floorDiv_7cf53_22
    · have hB := hB.2 c_4
      refine lv_iload_n hx hb dJ9_floorDiv_7cf53_17 rfl (lv_at hl 0 rfl) ?_
      refine lv_iconst (v := 1) hx hb dJ9_floorDiv_7cf53_18 (by decide) ?_
      refine lv_isub hx hb dJ9_floorDiv_7cf53_19 ?_
      rw [hQm]
      exact W.iret hx hb hr (fun t ht hW => ⟨⟨(x2_2 - (1 : Int32)), σ, rfl, ⟨rfl, hB⟩, cd_hp ht hP⟩, hS.F ht⟩) hS.2.2 dJ9_floorDiv_7cf53_20
def wp_J9_floorMod_7cf53 (v0 : Int32) (v1 : Int32) (σ : cdS) (Q : Int32 → Prop) : Prop :=
  
    ¬ v1 = 0 ∧
    ∀ x2_2 : Int32, x2_2 = (cdm v0 v1) →
    ((0 ≤ (v0 ^^^ v1) →
    Q x2_2) ∧
    (¬ (0 ≤ (v0 ^^^ v1)) →
    ((x2_2 = 0 →
    Q x2_2) ∧
    (¬ (x2_2 = 0) →
    Q (x2_2 + v1)))))
set_option maxHeartbeats 4000000 in
set_option maxRecDepth 100000 in
theorem c_J9_floorMod_7cf53 (l : Launch) (g : cdG) (v0 : Int32) (v1 : Int32) (σ : cdS) (Q : Int32 → Prop) (hwp : wp_J9_floorMod_7cf53 v0 v1 σ Q) : cdCi l g yJ9_floorMod_7cf53 cJ9_floorMod_7cf53 3 (some .int) 0 0 [.int v0, .int v1] σ (fun r σ' => σ' = σ ∧ Q r) := by
  intro sz
  refine cd_ofW (cc := cJ9_floorMod_7cf53) (maxL := 3) (ret := (some .int)) (by decide +kernel) rfl ?_
  intro p e s m args below meth c s₁ B hml hv
  obtain ⟨rfl, hsz, hP, hK, hdi, hV⟩ := hv
  subst hsz
  have hx := B.exec
  have hb := B.bytes
  have hr := B.returns
  have hlocks := B.notSynchronized
  have hown : s.vm.findClass RJ9 = some m.cls := findClass_of_methodNamed B.named
  have hts : ∀ w ∈ cdL, w.before _ s = true := fun w hw => atoms_spec (ws := cdWs yJ9_floorMod_7cf53 cJ9_floorMod_7cf53 3 (some .int)) B.pre w (List.mem_cons_of_mem _ hw)
  have X : cdX p s m _ c cJ9_floorMod_7cf53 3 RJ9 g := ⟨hx, hb, hml, hown, hts, hK, hdi, hV⟩
  have hS : va_S (cdZ g s.heap.size) s.heap s.heap [] := va_S.rf
  have hl := lv_entry ([.int v0, .int v1]) (n := 3) (Nat.le_of_ble_eq_true rfl)
  rw [lg_entry_eq]
  generalize (lg_sl ([.int v0, .int v1]) ++ List.replicate (3 - (lg_sl ([.int v0, .int v1])).length) Slot.unset).toArray = ls at hl ⊢
  have hl : lv_has ls 3 [(0, .int v0), (1, .int v1)] := hl
  obtain ⟨Qm, hQm⟩ : ∃ z, z = MQ below (va_Qi (fun r σ' => σ' = σ ∧ Q r) (fun σ' t => va_P (cdD g) vwCl (cdW g σ') t.heap) (cdZ g s.heap.size)) ([.int v0, .int v1] : List Value).toArray s 0 0 (cdZ g s.heap.size) := ⟨_, rfl⟩
  rw [← hQm]
  have hB := hwp
  refine lv_iload_n hx hb dJ9_floorMod_7cf53_0 rfl (lv_at hl 0 rfl) ?_
  refine lv_iload_n hx hb dJ9_floorMod_7cf53_1 rfl (lv_at hl 1 rfl) ?_
  obtain ⟨z_1, hB⟩ := hB
  refine lv_irem hx hb dJ9_floorMod_7cf53_2 z_1 ?_
  refine lv_topi (fun x2_2 ex2_2 => ?_)
  have hB := hB x2_2 ex2_2
  refine lv_istore_n (lv' := [(2, .int x2_2), (0, .int v0), (1, .int v1)]) hx hb dJ9_floorMod_7cf53_3 rfl hl (by decide) rfl (fun ls hl => ?_)
  refine lv_iload_n hx hb dJ9_floorMod_7cf53_4 rfl (lv_at hl 1 rfl) ?_
  refine lv_iload_n hx hb dJ9_floorMod_7cf53_5 rfl (lv_at hl 2 rfl) ?_
  refine lv_ixor hx hb dJ9_floorMod_7cf53_6 ?_
  refine lv_if_ge (tgt := 18) hx hb dJ9_floorMod_7cf53_7 (by decide) (fun c_3 => ?_) (fun c_3 => ?_)
  · have hB := hB.1 c_3
    refine lv_iload_n hx hb dJ9_floorMod_7cf53_18 rfl (lv_at hl 0 rfl) ?_
    rw [hQm]
    exact W.iret hx hb hr (fun t ht hW => ⟨⟨x2_2, σ, rfl, ⟨rfl, hB⟩, cd_hp ht hP⟩, hS.F ht⟩) hS.2.2 dJ9_floorMod_7cf53_19
  · have hB := hB.2 c_3
    refine lv_iload_n hx hb dJ9_floorMod_7cf53_10 rfl (lv_at hl 0 rfl) ?_
    refine lv_if_eq (tgt := 18) hx hb dJ9_floorMod_7cf53_11 (by decide) (fun c_4 => ?_) (fun c_4 => ?_)
    · have hB := hB.1 c_4
      refine lv_iload_n hx hb dJ9_floorMod_7cf53_18 rfl (lv_at hl 0 rfl) ?_
      rw [hQm]
      exact W.iret hx hb hr (fun t ht hW => ⟨⟨x2_2, σ, rfl, ⟨rfl, hB⟩, cd_hp ht hP⟩, hS.F ht⟩) hS.2.2 dJ9_floorMod_7cf53_19
    · have hB := hB.2 c_4
      refine lv_iload_n hx hb dJ9_floorMod_7cf53_14 rfl (lv_at hl 0 rfl) ?_
      refine lv_iload_n hx hb dJ9_floorMod_7cf53_15 rfl (lv_at hl 2 rfl) ?_
      refine lv_iadd hx hb dJ9_floorMod_7cf53_16 ?_
      rw [hQm]
      exact W.iret hx hb hr (fun t ht hW => ⟨⟨(x2_2 + v1), σ, rfl, ⟨rfl, hB⟩, cd_hp ht hP⟩, hS.F ht⟩) hS.2.2 dJ9_floorMod_7cf53_17
def wp_X0_forget  (σ : cdS) (Q : cdS → Prop) : Prop :=
  
    ∀ σ_1 : cdS, σ_1 = cdU σ 8 0 (0 : Int32) →
    Q σ_1
set_option maxHeartbeats 4000000 in
set_option maxRecDepth 100000 in
theorem c_X0_forget (l : Launch) (g : cdG)  (σ : cdS) (Q : cdS → Prop) (hwp : wp_X0_forget  σ Q) : cdCv l g yX0_forget cX0_forget 1 none 0 0 [.ref (cdA g 8)] σ Q := by
  intro sz
  refine Met.ofW (cc := cX0_forget) (maxL := 1) (ret := none) (by decide) rfl ?_
  intro p e s m args below meth c s₁ B hml hv
  obtain ⟨rfl, hsz, hP, hK, hdi, hV⟩ := hv
  subst hsz
  have hx := B.exec
  have hb := B.bytes
  have hr := B.returns
  have hlocks := B.notSynchronized
  have hown : s.vm.findClass RX0 = some m.cls := findClass_of_methodNamed B.named
  have hts : ∀ w ∈ cdL, w.before _ s = true := fun w hw => atoms_spec (ws := cdWs yX0_forget cX0_forget 1 none) B.pre w (List.mem_cons_of_mem _ hw)
  have X : cdX p s m _ c cX0_forget 1 RX0 g := ⟨hx, hb, hml, hown, hts, hK, hdi, hV⟩
  have hS : va_S (cdZ g s.heap.size) s.heap s.heap [] := va_S.rf
  have hl := lv_entry ([.ref (cdA g 8)]) (n := 1) (Nat.le_of_ble_eq_true rfl)
  rw [lg_entry_eq]
  generalize (lg_sl ([.ref (cdA g 8)]) ++ List.replicate (1 - (lg_sl ([.ref (cdA g 8)])).length) Slot.unset).toArray = ls at hl ⊢
  have hl : lv_has ls 1 [(0, .ref (cdA g 8))] := hl
  obtain ⟨Qm, hQm⟩ : ∃ z, z = MQ below (va_Qv Q (fun σ' t => va_P (cdD g) vwCl (cdW g σ') t.heap) (cdZ g s.heap.size)) ([.ref (cdA g 8)] : List Value).toArray s 0 0 (cdZ g s.heap.size) := ⟨_, rfl⟩
  rw [← hQm]
  have hB := hwp
  refine lv_aload_n hx hb dX0_forget_0 rfl (lv_at hl 0 rfl) ?_
  refine lv_iconst (v := 0) hx hb dX0_forget_1 (by decide) ?_
  refine cd_put X hP hS (C := RX0) (T := TX0) (N := 6) (ci := 0) (k := 8) (j := 0) (v := .int (0 : Int32)) (σ' := cdU σ 8 0 (0 : Int32)) inX0 tyX0 tyX0_ok nmX0 (by decide) rfl rfl (by decide) wf_X0_9 rfl rfl (tyX0_ok 0 (by decide)) rfl rfl (Nat.le_of_ble_eq_true rfl) (cdW_U (by decide) rfl) dX0_forget_2 (fun H locs hP hS => ?_)
  obtain ⟨σ_1, eσ_1⟩ : ∃ z : cdS, z = cdU σ 8 0 (0 : Int32) := ⟨_, rfl⟩
  rw [← eσ_1] at hP
  have hB := hB σ_1 eσ_1
  rw [hQm]
  exact W.vret hx hb hr (fun t ht hW => ⟨⟨σ_1, rfl, hB, cd_hp ht hP⟩, hS.F ht⟩) hS.2.2 dX0_forget_5
def wp_X4_below  (σ : cdS) (Q : Int32 → Prop) : Prop :=
  
    Q (σ.1 7 1)
set_option maxHeartbeats 4000000 in
set_option maxRecDepth 100000 in
theorem c_X4_below (l : Launch) (g : cdG)  (σ : cdS) (Q : Int32 → Prop) (hwp : wp_X4_below  σ Q) : cdCi l g yX4_below cX4_below 1 (some .int) 0 0 [.ref (cdA g 7)] σ (fun r σ' => σ' = σ ∧ Q r) := by
  intro sz
  refine Met.ofW (cc := cX4_below) (maxL := 1) (ret := (some .int)) (by decide) rfl ?_
  intro p e s m args below meth c s₁ B hml hv
  obtain ⟨rfl, hsz, hP, hK, hdi, hV⟩ := hv
  subst hsz
  have hx := B.exec
  have hb := B.bytes
  have hr := B.returns
  have hlocks := B.notSynchronized
  have hown : s.vm.findClass RX4 = some m.cls := findClass_of_methodNamed B.named
  have hts : ∀ w ∈ cdL, w.before _ s = true := fun w hw => atoms_spec (ws := cdWs yX4_below cX4_below 1 (some .int)) B.pre w (List.mem_cons_of_mem _ hw)
  have X : cdX p s m _ c cX4_below 1 RX4 g := ⟨hx, hb, hml, hown, hts, hK, hdi, hV⟩
  have hS : va_S (cdZ g s.heap.size) s.heap s.heap [] := va_S.rf
  have hl := lv_entry ([.ref (cdA g 7)]) (n := 1) (Nat.le_of_ble_eq_true rfl)
  rw [lg_entry_eq]
  generalize (lg_sl ([.ref (cdA g 7)]) ++ List.replicate (1 - (lg_sl ([.ref (cdA g 7)])).length) Slot.unset).toArray = ls at hl ⊢
  have hl : lv_has ls 1 [(0, .ref (cdA g 7))] := hl
  obtain ⟨Qm, hQm⟩ : ∃ z, z = MQ below (va_Qi (fun r σ' => σ' = σ ∧ Q r) (fun σ' t => va_P (cdD g) vwCl (cdW g σ') t.heap) (cdZ g s.heap.size)) ([.ref (cdA g 7)] : List Value).toArray s 0 0 (cdZ g s.heap.size) := ⟨_, rfl⟩
  rw [← hQm]
  have hB := hwp
  refine lv_aload_n hx hb dX4_below_0 rfl (lv_at hl 0 rfl) ?_
  refine cd_get X hP (C := RX4) (T := TX4) (N := 2) (ci := 4) (k := 7) (j := 1) (v := .int (σ.1 7 1)) inX4 (by decide) rfl rfl (by decide) wf_X4_7 rfl rfl dX4_below_1 ?_
  rw [hQm]
  exact W.iret hx hb hr (fun t ht hW => ⟨⟨(σ.1 7 1), σ, rfl, ⟨rfl, hB⟩, cd_hp ht hP⟩, hS.F ht⟩) hS.2.2 dX4_below_4
def wp_X4_above  (σ : cdS) (Q : Int32 → Prop) : Prop :=
  
    Q (σ.1 7 0)
set_option maxHeartbeats 4000000 in
set_option maxRecDepth 100000 in
theorem c_X4_above (l : Launch) (g : cdG)  (σ : cdS) (Q : Int32 → Prop) (hwp : wp_X4_above  σ Q) : cdCi l g yX4_above cX4_above 1 (some .int) 0 0 [.ref (cdA g 7)] σ (fun r σ' => σ' = σ ∧ Q r) := by
  intro sz
  refine Met.ofW (cc := cX4_above) (maxL := 1) (ret := (some .int)) (by decide) rfl ?_
  intro p e s m args below meth c s₁ B hml hv
  obtain ⟨rfl, hsz, hP, hK, hdi, hV⟩ := hv
  subst hsz
  have hx := B.exec
  have hb := B.bytes
  have hr := B.returns
  have hlocks := B.notSynchronized
  have hown : s.vm.findClass RX4 = some m.cls := findClass_of_methodNamed B.named
  have hts : ∀ w ∈ cdL, w.before _ s = true := fun w hw => atoms_spec (ws := cdWs yX4_above cX4_above 1 (some .int)) B.pre w (List.mem_cons_of_mem _ hw)
  have X : cdX p s m _ c cX4_above 1 RX4 g := ⟨hx, hb, hml, hown, hts, hK, hdi, hV⟩
  have hS : va_S (cdZ g s.heap.size) s.heap s.heap [] := va_S.rf
  have hl := lv_entry ([.ref (cdA g 7)]) (n := 1) (Nat.le_of_ble_eq_true rfl)
  rw [lg_entry_eq]
  generalize (lg_sl ([.ref (cdA g 7)]) ++ List.replicate (1 - (lg_sl ([.ref (cdA g 7)])).length) Slot.unset).toArray = ls at hl ⊢
  have hl : lv_has ls 1 [(0, .ref (cdA g 7))] := hl
  obtain ⟨Qm, hQm⟩ : ∃ z, z = MQ below (va_Qi (fun r σ' => σ' = σ ∧ Q r) (fun σ' t => va_P (cdD g) vwCl (cdW g σ') t.heap) (cdZ g s.heap.size)) ([.ref (cdA g 7)] : List Value).toArray s 0 0 (cdZ g s.heap.size) := ⟨_, rfl⟩
  rw [← hQm]
  have hB := hwp
  refine lv_aload_n hx hb dX4_above_0 rfl (lv_at hl 0 rfl) ?_
  refine cd_get X hP (C := RX4) (T := TX4) (N := 2) (ci := 4) (k := 7) (j := 0) (v := .int (σ.1 7 0)) inX4 (by decide) rfl rfl (by decide) wf_X4_23 rfl rfl dX4_above_1 ?_
  rw [hQm]
  exact W.iret hx hb hr (fun t ht hW => ⟨⟨(σ.1 7 0), σ, rfl, ⟨rfl, hB⟩, cd_hp ht hP⟩, hS.F ht⟩) hS.2.2 dX4_above_4
def wp_X0_isBetter (v1 : Int32) (v2 : Int32) (v3 : Int32) (σ : cdS) (Q : Int32 → Prop) : Prop :=
  
    wp_X4_below σ (fun r_1 => 
    ∀ x5_3 : Int64, x5_3 = ((((σ.1 8 4)).toInt64) * ((r_1).toInt64)) →
    wp_X4_above σ (fun r_4 => 
    ∀ x7_6 : Int64, x7_6 = (((r_4).toInt64) * (((σ.1 8 5)).toInt64)) →
    (((lg_cmp x7_6 x5_3) = 0 →
    (((v2 * v3) = ((σ.1 8 2) * (σ.1 8 3)) →
    ((v2 = (σ.1 8 2) →
    (((σ.1 8 1) ≤ v1 →
    Q (0 : Int32)) ∧
    (¬ ((σ.1 8 1) ≤ v1) →
    Q (1 : Int32)))) ∧
    (¬ (v2 = (σ.1 8 2)) →
    (((σ.1 8 2) ≤ v2 →
    Q (0 : Int32)) ∧
    (¬ ((σ.1 8 2) ≤ v2) →
    Q (1 : Int32)))))) ∧
    (¬ ((v2 * v3) = ((σ.1 8 2) * (σ.1 8 3))) →
    (((v2 * v3) ≤ ((σ.1 8 2) * (σ.1 8 3)) →
    Q (0 : Int32)) ∧
    (¬ ((v2 * v3) ≤ ((σ.1 8 2) * (σ.1 8 3))) →
    Q (1 : Int32)))))) ∧
    (¬ ((lg_cmp x7_6 x5_3) = 0) →
    (((lg_cmp x7_6 x5_3) ≤ 0 →
    Q (0 : Int32)) ∧
    (¬ ((lg_cmp x7_6 x5_3) ≤ 0) →
    Q (1 : Int32)))))))
set_option maxHeartbeats 4000000 in
set_option maxRecDepth 100000 in
theorem c_X0_isBetter (l : Launch) (g : cdG) (v1 : Int32) (v2 : Int32) (v3 : Int32) (σ : cdS) (Q : Int32 → Prop) (hwp : wp_X0_isBetter v1 v2 v3 σ Q) : cdCi l g yX0_isBetter cX0_isBetter 9 (some .boolean) 1 20 [.ref (cdA g 8), .int v1, .int v2, .int v3, .ref (cdA g 7)] σ (fun r σ' => σ' = σ ∧ Q r) := by
  intro sz
  refine Met.ofW (cc := cX0_isBetter) (maxL := 9) (ret := (some .boolean)) (by decide) rfl ?_
  intro p e s m args below meth c s₁ B hml hv
  obtain ⟨rfl, hsz, hP, hK, hdi, hV⟩ := hv
  subst hsz
  have hx := B.exec
  have hb := B.bytes
  have hr := B.returns
  have hlocks := B.notSynchronized
  have hown : s.vm.findClass RX0 = some m.cls := findClass_of_methodNamed B.named
  have hts : ∀ w ∈ cdL, w.before _ s = true := fun w hw => atoms_spec (ws := cdWs yX0_isBetter cX0_isBetter 9 (some .boolean)) B.pre w (List.mem_cons_of_mem _ hw)
  have X : cdX p s m _ c cX0_isBetter 9 RX0 g := ⟨hx, hb, hml, hown, hts, hK, hdi, hV⟩
  have hS : va_S (cdZ g s.heap.size) s.heap s.heap [] := va_S.rf
  have hl := lv_entry ([.ref (cdA g 8), .int v1, .int v2, .int v3, .ref (cdA g 7)]) (n := 9) (Nat.le_of_ble_eq_true rfl)
  rw [lg_entry_eq]
  generalize (lg_sl ([.ref (cdA g 8), .int v1, .int v2, .int v3, .ref (cdA g 7)]) ++ List.replicate (9 - (lg_sl ([.ref (cdA g 8), .int v1, .int v2, .int v3, .ref (cdA g 7)])).length) Slot.unset).toArray = ls at hl ⊢
  have hl : lv_has ls 9 [(0, .ref (cdA g 8)), (1, .int v1), (2, .int v2), (3, .int v3), (4, .ref (cdA g 7))] := hl
  obtain ⟨Qm, hQm⟩ : ∃ z, z = MQ below (va_Qi (fun r σ' => σ' = σ ∧ Q r) (fun σ' t => va_P (cdD g) vwCl (cdW g σ') t.heap) (cdZ g s.heap.size)) ([.ref (cdA g 8), .int v1, .int v2, .int v3, .ref (cdA g 7)] : List Value).toArray s 0 0 (cdZ g s.heap.size) := ⟨_, rfl⟩
  rw [← hQm]
  have hB := hwp
  refine lv_aload_n hx hb dX0_isBetter_0 rfl (lv_at hl 0 rfl) ?_
  refine cd_get X hP (C := RX0) (T := TX0) (N := 6) (ci := 0) (k := 8) (j := 4) (v := .int (σ.1 8 4)) inX0 (by decide) rfl rfl (by decide) wf_X0_35 rfl rfl dX0_isBetter_1 ?_
  refine lv_i2l hx hb dX0_isBetter_4 rfl ?_
  refine lv_aload hx hb dX0_isBetter_5 (lv_at hl 4 rfl) ?_
  refine cd_ci (cd_runV (As := []) (rest := [.long (((σ.1 8 4)).toInt64)]) (σ := σ) (k := 7) (ci := 4) X wm_X0_37 (by decide) rfl rfl rfl (c_X4_below l g  σ _ hB _) hP hS rfl rfl hl.1 (Nat.le_of_ble_eq_true rfl) ⟨Nat.le_of_ble_eq_true rfl, Nat.le_of_ble_eq_true rfl⟩ ⟨Nat.zero_le _, Nat.zero_le _⟩ dX0_isBetter_7) hS (fun r_1 σ_2 H locs hB hP hS => ?_)
  obtain ⟨eσ_2, hB⟩ := hB
  rw [eσ_2] at hP
  refine lv_i2l hx hb dX0_isBetter_10 rfl ?_
  refine lv_lmul hx hb dX0_isBetter_11 ?_
  refine lv_topl (fun x5_3 ex5_3 => ?_)
  have hB := hB x5_3 ex5_3
  refine lv_lstore (lv' := [(5, .long x5_3), (0, .ref (cdA g 8)), (1, .int v1), (2, .int v2), (3, .int v3), (4, .ref (cdA g 7))]) hx hb dX0_isBetter_12 hl (by decide) rfl (fun ls hl => ?_)
  refine lv_aload hx hb dX0_isBetter_14 (lv_at hl 5 rfl) ?_
  refine cd_ci (cd_runV (As := []) (rest := []) (σ := σ) (k := 7) (ci := 4) X wm_X0_29 (by decide) rfl rfl rfl (c_X4_above l g  σ _ hB _) hP hS rfl rfl hl.1 (Nat.le_of_ble_eq_true rfl) ⟨Nat.le_of_ble_eq_true rfl, Nat.le_of_ble_eq_true rfl⟩ ⟨Nat.zero_le _, Nat.zero_le _⟩ dX0_isBetter_16) hS (fun r_4 σ_5 H locs hB hP hS => ?_)
  obtain ⟨eσ_5, hB⟩ := hB
  rw [eσ_5] at hP
  refine lv_i2l hx hb dX0_isBetter_19 rfl ?_
  refine lv_aload_n hx hb dX0_isBetter_20 rfl (lv_at hl 1 rfl) ?_
  refine cd_get X hP (C := RX0) (T := TX0) (N := 6) (ci := 0) (k := 8) (j := 5) (v := .int (σ.1 8 5)) inX0 (by decide) rfl rfl (by decide) wf_X0_40 rfl rfl dX0_isBetter_21 ?_
  refine lv_i2l hx hb dX0_isBetter_24 rfl ?_
  refine lv_lmul hx hb dX0_isBetter_25 ?_
  refine lv_topl (fun x7_6 ex7_6 => ?_)
  have hB := hB x7_6 ex7_6
  refine lv_lstore (lv' := [(7, .long x7_6), (5, .long x5_3), (0, .ref (cdA g 8)), (1, .int v1), (2, .int v2), (3, .int v3), (4, .ref (cdA g 7))]) hx hb dX0_isBetter_26 hl (by decide) rfl (fun ls hl => ?_)
  refine lv_lload hx hb dX0_isBetter_28 (lv_at hl 0 rfl) ?_
  refine lv_lload hx hb dX0_isBetter_30 (lv_at hl 1 rfl) ?_
  refine W.lcmp hx hb dX0_isBetter_32 ?_
  refine lv_if_eq (tgt := 50) hx hb dX0_isBetter_33 (by decide) (fun c_7 => ?_) (fun c_7 => ?_)
  · have hB := hB.1 c_7
    refine lv_iload_n hx hb dX0_isBetter_50 rfl (lv_at hl 4 rfl) ?_
    refine lv_iload_n hx hb dX0_isBetter_51 rfl (lv_at hl 5 rfl) ?_
    refine lv_imul hx hb dX0_isBetter_52 ?_
    refine lv_aload_n hx hb dX0_isBetter_53 rfl (lv_at hl 2 rfl) ?_
    refine cd_get X hP (C := RX0) (T := TX0) (N := 6) (ci := 0) (k := 8) (j := 2) (v := .int (σ.1 8 2)) inX0 (by decide) rfl rfl (by decide) wf_X0_23 rfl rfl dX0_isBetter_54 ?_
    refine lv_aload_n hx hb dX0_isBetter_57 rfl (lv_at hl 2 rfl) ?_
    refine cd_get X hP (C := RX0) (T := TX0) (N := 6) (ci := 0) (k := 8) (j := 3) (v := .int (σ.1 8 3)) inX0 (by decide) rfl rfl (by decide) wf_X0_26 rfl rfl dX0_isBetter_58 ?_
    refine lv_imul hx hb dX0_isBetter_61 ?_
    refine lv_icmp_eq (tgt := 86) hx hb dX0_isBetter_62 (by decide) (fun c_8 => ?_) (fun c_8 => ?_)
    · have hB := hB.1 c_8
      refine lv_iload_n hx hb dX0_isBetter_86 rfl (lv_at hl 4 rfl) ?_
      refine lv_aload_n hx hb dX0_isBetter_87 rfl (lv_at hl 2 rfl) ?_
      refine cd_get X hP (C := RX0) (T := TX0) (N := 6) (ci := 0) (k := 8) (j := 2) (v := .int (σ.1 8 2)) inX0 (by decide) rfl rfl (by decide) wf_X0_23 rfl rfl dX0_isBetter_88 ?_
      refine lv_icmp_eq (tgt := 110) hx hb dX0_isBetter_91 (by decide) (fun c_9 => ?_) (fun c_9 => ?_)
      · have hB := hB.1 c_9
        refine lv_iload_n hx hb dX0_isBetter_110 rfl (lv_at hl 3 rfl) ?_
        refine lv_aload_n hx hb dX0_isBetter_111 rfl (lv_at hl 2 rfl) ?_
        refine cd_get X hP (C := RX0) (T := TX0) (N := 6) (ci := 0) (k := 8) (j := 1) (v := .int (σ.1 8 1)) inX0 (by decide) rfl rfl (by decide) wf_X0_19 rfl rfl dX0_isBetter_112 ?_
        refine lv_icmp_ge (tgt := 122) hx hb dX0_isBetter_115 (by decide) (fun c_10 => ?_) (fun c_10 => ?_)
        · have hB := hB.1 c_10
          refine lv_iconst (v := 0) hx hb dX0_isBetter_122 (by decide) ?_
          rw [hQm]
          exact W.zret hx hb hr rfl (fun t ht hW => ⟨⟨(0 : Int32), σ, rfl, ⟨rfl, hB⟩, cd_hp ht hP⟩, hS.F ht⟩) hS.2.2 dX0_isBetter_123
        · have hB := hB.2 c_10
          refine lv_iconst (v := 1) hx hb dX0_isBetter_118 (by decide) ?_
          refine lv_goto (tgt := 123) hx hb dX0_isBetter_119 (by decide) ?_
          rw [hQm]
          exact W.zret hx hb hr rfl (fun t ht hW => ⟨⟨(1 : Int32), σ, rfl, ⟨rfl, hB⟩, cd_hp ht hP⟩, hS.F ht⟩) hS.2.2 dX0_isBetter_123
      · have hB := hB.2 c_9
        refine lv_iload_n hx hb dX0_isBetter_94 rfl (lv_at hl 4 rfl) ?_
        refine lv_aload_n hx hb dX0_isBetter_95 rfl (lv_at hl 2 rfl) ?_
        refine cd_get X hP (C := RX0) (T := TX0) (N := 6) (ci := 0) (k := 8) (j := 2) (v := .int (σ.1 8 2)) inX0 (by decide) rfl rfl (by decide) wf_X0_23 rfl rfl dX0_isBetter_96 ?_
        refine lv_icmp_ge (tgt := 106) hx hb dX0_isBetter_99 (by decide) (fun c_11 => ?_) (fun c_11 => ?_)
        · have hB := hB.1 c_11
          refine lv_iconst (v := 0) hx hb dX0_isBetter_106 (by decide) ?_
          refine lv_goto (tgt := 123) hx hb dX0_isBetter_107 (by decide) ?_
          rw [hQm]
          exact W.zret hx hb hr rfl (fun t ht hW => ⟨⟨(0 : Int32), σ, rfl, ⟨rfl, hB⟩, cd_hp ht hP⟩, hS.F ht⟩) hS.2.2 dX0_isBetter_123
        · have hB := hB.2 c_11
          refine lv_iconst (v := 1) hx hb dX0_isBetter_102 (by decide) ?_
          refine lv_goto (tgt := 123) hx hb dX0_isBetter_103 (by decide) ?_
          rw [hQm]
          exact W.zret hx hb hr rfl (fun t ht hW => ⟨⟨(1 : Int32), σ, rfl, ⟨rfl, hB⟩, cd_hp ht hP⟩, hS.F ht⟩) hS.2.2 dX0_isBetter_123
    · have hB := hB.2 c_8
      refine lv_iload_n hx hb dX0_isBetter_65 rfl (lv_at hl 4 rfl) ?_
      refine lv_iload_n hx hb dX0_isBetter_66 rfl (lv_at hl 5 rfl) ?_
      refine lv_imul hx hb dX0_isBetter_67 ?_
      refine lv_aload_n hx hb dX0_isBetter_68 rfl (lv_at hl 2 rfl) ?_
      refine cd_get X hP (C := RX0) (T := TX0) (N := 6) (ci := 0) (k := 8) (j := 2) (v := .int (σ.1 8 2)) inX0 (by decide) rfl rfl (by decide) wf_X0_23 rfl rfl dX0_isBetter_69 ?_
      refine lv_aload_n hx hb dX0_isBetter_72 rfl (lv_at hl 2 rfl) ?_
      refine cd_get X hP (C := RX0) (T := TX0) (N := 6) (ci := 0) (k := 8) (j := 3) (v := .int (σ.1 8 3)) inX0 (by decide) rfl rfl (by decide) wf_X0_26 rfl rfl dX0_isBetter_73 ?_
      refine lv_imul hx hb dX0_isBetter_76 ?_
      refine lv_icmp_le (tgt := 84) hx hb dX0_isBetter_77 (by decide) (fun c_12 => ?_) (fun c_12 => ?_)
      · have hB := hB.1 c_12
        refine lv_iconst (v := 0) hx hb dX0_isBetter_84 (by decide) ?_
        rw [hQm]
        exact W.zret hx hb hr rfl (fun t ht hW => ⟨⟨(0 : Int32), σ, rfl, ⟨rfl, hB⟩, cd_hp ht hP⟩, hS.F ht⟩) hS.2.2 dX0_isBetter_85
      · have hB := hB.2 c_12
        refine lv_iconst (v := 1) hx hb dX0_isBetter_80 (by decide) ?_
        refine lv_goto (tgt := 85) hx hb dX0_isBetter_81 (by decide) ?_
        rw [hQm]
        exact W.zret hx hb hr rfl (fun t ht hW => ⟨⟨(1 : Int32), σ, rfl, ⟨rfl, hB⟩, cd_hp ht hP⟩, hS.F ht⟩) hS.2.2 dX0_isBetter_85
  · have hB := hB.2 c_7
    refine lv_lload hx hb dX0_isBetter_36 (lv_at hl 0 rfl) ?_
    refine lv_lload hx hb dX0_isBetter_38 (lv_at hl 1 rfl) ?_
    refine W.lcmp hx hb dX0_isBetter_40 ?_
    refine lv_if_le (tgt := 48) hx hb dX0_isBetter_41 (by decide) (fun c_13 => ?_) (fun c_13 => ?_)
    · have hB := hB.1 c_13
      refine lv_iconst (v := 0) hx hb dX0_isBetter_48 (by decide) ?_
      rw [hQm]
      exact W.zret hx hb hr rfl (fun t ht hW => ⟨⟨(0 : Int32), σ, rfl, ⟨rfl, hB⟩, cd_hp ht hP⟩, hS.F ht⟩) hS.2.2 dX0_isBetter_49
    · have hB := hB.2 c_13
      refine lv_iconst (v := 1) hx hb dX0_isBetter_44 (by decide) ?_
      refine lv_goto (tgt := 49) hx hb dX0_isBetter_45 (by decide) ?_
      rw [hQm]
      exact W.zret hx hb hr rfl (fun t ht hW => ⟨⟨(1 : Int32), σ, rfl, ⟨rfl, hB⟩, cd_hp ht hP⟩, hS.F ht⟩) hS.2.2 dX0_isBetter_49
def wp_X0_tell (v1 : Int32) (σ : cdS) (Q : Int32 → Prop) : Prop :=
  
    ((¬ (σ.1 8 0) = 0 →
    ((v1 = (0 : Int32) →
    Q (σ.1 8 1)) ∧
    (¬ (v1 = (0 : Int32)) →
    ((v1 = (1 : Int32) →
    Q (σ.1 8 2)) ∧
    (¬ (v1 = (1 : Int32)) →
    ((v1 = (2 : Int32) →
    Q (σ.1 8 3)) ∧
    (¬ (v1 = (2 : Int32)) →
    ((v1 = (3 : Int32) →
    Q (σ.1 8 4)) ∧
    (¬ (v1 = (3 : Int32)) →
    ((v1 = (4 : Int32) →
    Q (σ.1 8 5)) ∧
    (¬ (v1 = (4 : Int32)) →
    Q (-1000003 : Int32)))))))))))) ∧
    ((σ.1 8 0) = 0 →
    Q (-1000001 : Int32)))
set_option maxHeartbeats 4000000 in
set_option maxRecDepth 100000 in
theorem c_X0_tell (l : Launch) (g : cdG) (v1 : Int32) (σ : cdS) (Q : Int32 → Prop) (hwp : wp_X0_tell v1 σ Q) : cdCi l g yX0_tell cX0_tell 2 (some .int) 0 0 [.ref (cdA g 8), .int v1] σ (fun r σ' => σ' = σ ∧ Q r) := by
  intro sz
  refine Met.ofW (cc := cX0_tell) (maxL := 2) (ret := (some .int)) (by decide) rfl ?_
  intro p e s m args below meth c s₁ B hml hv
  obtain ⟨rfl, hsz, hP, hK, hdi, hV⟩ := hv
  subst hsz
  have hx := B.exec
  have hb := B.bytes
  have hr := B.returns
  have hlocks := B.notSynchronized
  have hown : s.vm.findClass RX0 = some m.cls := findClass_of_methodNamed B.named
  have hts : ∀ w ∈ cdL, w.before _ s = true := fun w hw => atoms_spec (ws := cdWs yX0_tell cX0_tell 2 (some .int)) B.pre w (List.mem_cons_of_mem _ hw)
  have X : cdX p s m _ c cX0_tell 2 RX0 g := ⟨hx, hb, hml, hown, hts, hK, hdi, hV⟩
  have hS : va_S (cdZ g s.heap.size) s.heap s.heap [] := va_S.rf
  have hl := lv_entry ([.ref (cdA g 8), .int v1]) (n := 2) (Nat.le_of_ble_eq_true rfl)
  rw [lg_entry_eq]
  generalize (lg_sl ([.ref (cdA g 8), .int v1]) ++ List.replicate (2 - (lg_sl ([.ref (cdA g 8), .int v1])).length) Slot.unset).toArray = ls at hl ⊢
  have hl : lv_has ls 2 [(0, .ref (cdA g 8)), (1, .int v1)] := hl
  obtain ⟨Qm, hQm⟩ : ∃ z, z = MQ below (va_Qi (fun r σ' => σ' = σ ∧ Q r) (fun σ' t => va_P (cdD g) vwCl (cdW g σ') t.heap) (cdZ g s.heap.size)) ([.ref (cdA g 8), .int v1] : List Value).toArray s 0 0 (cdZ g s.heap.size) := ⟨_, rfl⟩
  rw [← hQm]
  have hB := hwp
  refine lv_aload_n hx hb dX0_tell_0 rfl (lv_at hl 0 rfl) ?_
  refine cd_get X hP (C := RX0) (T := TX0) (N := 6) (ci := 0) (k := 8) (j := 0) (v := .int (σ.1 8 0)) inX0 (by decide) rfl rfl (by decide) wf_X0_9 rfl rfl dX0_tell_1 ?_
  refine lv_if_ne (tgt := 10) hx hb dX0_tell_4 (by decide) (fun c_1 => ?_) (fun c_1 => ?_)
  · have hB := hB.1 c_1
    refine lv_iload_n hx hb dX0_tell_10 rfl (lv_at hl 1 rfl) ?_
    by_cases c_2 : v1 = (0 : Int32)
    · have hB := hB.1 c_2
      refine lv_tableIn (tgt := 44) hx hb dX0_tell_11 (by rw [c_2]; decide) (by rw [c_2]; decide) (by rw [c_2]; rfl) (by decide) ?_
      refine lv_aload_n hx hb dX0_tell_44 rfl (lv_at hl 0 rfl) ?_
      refine cd_get X hP (C := RX0) (T := TX0) (N := 6) (ci := 0) (k := 8) (j := 1) (v := .int (σ.1 8 1)) inX0 (by decide) rfl rfl (by decide) wf_X0_19 rfl rfl dX0_tell_45 ?_
      rw [hQm]
      exact W.iret hx hb hr (fun t ht hW => ⟨⟨(σ.1 8 1), σ, rfl, ⟨rfl, hB⟩, cd_hp ht hP⟩, hS.F ht⟩) hS.2.2 dX0_tell_48
    · have hB := hB.2 c_2
      by_cases c_3 : v1 = (1 : Int32)
      · have hB := hB.1 c_3
        refine lv_tableIn (tgt := 49) hx hb dX0_tell_11 (by rw [c_3]; decide) (by rw [c_3]; decide) (by rw [c_3]; rfl) (by decide) ?_
        refine lv_aload_n hx hb dX0_tell_49 rfl (lv_at hl 0 rfl) ?_
        refine cd_get X hP (C := RX0) (T := TX0) (N := 6) (ci := 0) (k := 8) (j := 2) (v := .int (σ.1 8 2)) inX0 (by decide) rfl rfl (by decide) wf_X0_23 rfl rfl dX0_tell_50 ?_
        rw [hQm]
        exact W.iret hx hb hr (fun t ht hW => ⟨⟨(σ.1 8 2), σ, rfl, ⟨rfl, hB⟩, cd_hp ht hP⟩, hS.F ht⟩) hS.2.2 dX0_tell_53
      · have hB := hB.2 c_3
        by_cases c_4 : v1 = (2 : Int32)
        · have hB := hB.1 c_4
          refine lv_tableIn (tgt := 54) hx hb dX0_tell_11 (by rw [c_4]; decide) (by rw [c_4]; decide) (by rw [c_4]; rfl) (by decide) ?_
          refine lv_aload_n hx hb dX0_tell_54 rfl (lv_at hl 0 rfl) ?_
          refine cd_get X hP (C := RX0) (T := TX0) (N := 6) (ci := 0) (k := 8) (j := 3) (v := .int (σ.1 8 3)) inX0 (by decide) rfl rfl (by decide) wf_X0_26 rfl rfl dX0_tell_55 ?_
          rw [hQm]
          exact W.iret hx hb hr (fun t ht hW => ⟨⟨(σ.1 8 3), σ, rfl, ⟨rfl, hB⟩, cd_hp ht hP⟩, hS.F ht⟩) hS.2.2 dX0_tell_58
        · have hB := hB.2 c_4
          by_cases c_5 : v1 = (3 : Int32)
          · have hB := hB.1 c_5
            refine lv_tableIn (tgt := 59) hx hb dX0_tell_11 (by rw [c_5]; decide) (by rw [c_5]; decide) (by rw [c_5]; rfl) (by decide) ?_
            refine lv_aload_n hx hb dX0_tell_59 rfl (lv_at hl 0 rfl) ?_
            refine cd_get X hP (C := RX0) (T := TX0) (N := 6) (ci := 0) (k := 8) (j := 4) (v := .int (σ.1 8 4)) inX0 (by decide) rfl rfl (by decide) wf_X0_35 rfl rfl dX0_tell_60 ?_
            rw [hQm]
            exact W.iret hx hb hr (fun t ht hW => ⟨⟨(σ.1 8 4), σ, rfl, ⟨rfl, hB⟩, cd_hp ht hP⟩, hS.F ht⟩) hS.2.2 dX0_tell_63
          · have hB := hB.2 c_5
            by_cases c_6 : v1 = (4 : Int32)
            · have hB := hB.1 c_6
              refine lv_tableIn (tgt := 64) hx hb dX0_tell_11 (by rw [c_6]; decide) (by rw [c_6]; decide) (by rw [c_6]; rfl) (by decide) ?_
              refine lv_aload_n hx hb dX0_tell_64 rfl (lv_at hl 0 rfl) ?_
              refine cd_get X hP (C := RX0) (T := TX0) (N := 6) (ci := 0) (k := 8) (j := 5) (v := .int (σ.1 8 5)) inX0 (by decide) rfl rfl (by decide) wf_X0_40 rfl rfl dX0_tell_65 ?_
              rw [hQm]
              exact W.iret hx hb hr (fun t ht hW => ⟨⟨(σ.1 8 5), σ, rfl, ⟨rfl, hB⟩, cd_hp ht hP⟩, hS.F ht⟩) hS.2.2 dX0_tell_68
            · have hB := hB.2 c_6
              have qc_2 := cd_ni (z := 0) (by decide) c_2
              have qc_3 := cd_ni (z := 1) (by decide) c_3
              have qc_4 := cd_ni (z := 2) (by decide) c_4
              have qc_5 := cd_ni (z := 3) (by decide) c_5
              have qc_6 := cd_ni (z := 4) (by decide) c_6
              refine lv_tableOut (tgt := 69) hx hb dX0_tell_11 (by omega) (by decide) ?_
              refine lv_ldc (v := -1000003) hx hb hown (hts _ wc_X0_43) dX0_tell_69 ?_
              rw [hQm]
              exact W.iret hx hb hr (fun t ht hW => ⟨⟨(-1000003 : Int32), σ, rfl, ⟨rfl, hB⟩, cd_hp ht hP⟩, hS.F ht⟩) hS.2.2 dX0_tell_71
  · have hB := hB.2 c_1
    refine lv_ldc (v := -1000001) hx hb hown (hts _ wc_X0_42) dX0_tell_7 ?_
    rw [hQm]
    exact W.iret hx hb hr (fun t ht hW => ⟨⟨(-1000001 : Int32), σ, rfl, ⟨rfl, hB⟩, cd_hp ht hP⟩, hS.F ht⟩) hS.2.2 dX0_tell_9
def wp_X0_weigh (v1 : Int32) (v2 : Int32) (v3 : Int32) (σ : cdS) (Q : cdS → Prop) : Prop :=
  ∀ (P20 : cdS → Prop),
    (∀  (σ : cdS), (
    ∀ σ_5 : cdS, σ_5 = cdU σ 8 0 (1 : Int32) →
    ∀ σ_6 : cdS, σ_6 = cdU σ_5 8 1 v1 →
    ∀ σ_7 : cdS, σ_7 = cdU σ_6 8 2 v2 →
    ∀ σ_8 : cdS, σ_8 = cdU σ_7 8 3 v3 →
    wp_X4_above σ_8 (fun r_9 => 
    ∀ σ_11 : cdS, σ_11 = cdU σ_8 8 4 r_9 →
    wp_X4_below σ_11 (fun r_12 => 
    ∀ σ_14 : cdS, σ_14 = cdU σ_11 8 5 r_12 →
    Q σ_14))) → P20 σ) →
    
    (((σ.1 8 0) = 0 →
    P20 σ) ∧
    (¬ ((σ.1 8 0) = 0) →
    wp_X0_isBetter v1 v2 v3 σ (fun r_2 => 
    ((¬ r_2 = 0 →
    P20 σ) ∧
    (r_2 = 0 →
    Q σ)))))
set_option maxHeartbeats 4000000 in
set_option maxRecDepth 100000 in
theorem c_X0_weigh (l : Launch) (g : cdG) (v1 : Int32) (v2 : Int32) (v3 : Int32) (σ : cdS) (Q : cdS → Prop) (hwp : wp_X0_weigh v1 v2 v3 σ Q) : cdCv l g yX0_weigh cX0_weigh 5 none 2 48 [.ref (cdA g 8), .int v1, .int v2, .int v3, .ref (cdA g 7)] σ Q := by
  intro sz
  refine Met.ofW (cc := cX0_weigh) (maxL := 5) (ret := none) (by decide) rfl ?_
  intro p e s m args below meth c s₁ B hml hv
  obtain ⟨rfl, hsz, hP, hK, hdi, hV⟩ := hv
  subst hsz
  have hx := B.exec
  have hb := B.bytes
  have hr := B.returns
  have hlocks := B.notSynchronized
  have hown : s.vm.findClass RX0 = some m.cls := findClass_of_methodNamed B.named
  have hts : ∀ w ∈ cdL, w.before _ s = true := fun w hw => atoms_spec (ws := cdWs yX0_weigh cX0_weigh 5 none) B.pre w (List.mem_cons_of_mem _ hw)
  have X : cdX p s m _ c cX0_weigh 5 RX0 g := ⟨hx, hb, hml, hown, hts, hK, hdi, hV⟩
  have hS : va_S (cdZ g s.heap.size) s.heap s.heap [] := va_S.rf
  have hl := lv_entry ([.ref (cdA g 8), .int v1, .int v2, .int v3, .ref (cdA g 7)]) (n := 5) (Nat.le_of_ble_eq_true rfl)
  rw [lg_entry_eq]
  generalize (lg_sl ([.ref (cdA g 8), .int v1, .int v2, .int v3, .ref (cdA g 7)]) ++ List.replicate (5 - (lg_sl ([.ref (cdA g 8), .int v1, .int v2, .int v3, .ref (cdA g 7)])).length) Slot.unset).toArray = ls at hl ⊢
  have hl : lv_has ls 5 [(0, .ref (cdA g 8)), (1, .int v1), (2, .int v2), (3, .int v3), (4, .ref (cdA g 7))] := hl
  obtain ⟨Qm, hQm⟩ : ∃ z, z = MQ below (va_Qv Q (fun σ' t => va_P (cdD g) vwCl (cdW g σ') t.heap) (cdZ g s.heap.size)) ([.ref (cdA g 8), .int v1, .int v2, .int v3, .ref (cdA g 7)] : List Value).toArray s 0 0 (cdZ g s.heap.size) := ⟨_, rfl⟩
  rw [← hQm]
  have hB := hwp (fun  (σ : cdS) => cdCut p l e (headSpec (cdWs yX0_weigh cX0_weigh 5 none) (cdRm 2 48)).room s m ([.ref (cdA g 8), .int v1, .int v2, .int v3, .ref (cdA g 7)] : List Value).toArray below meth c Qm g 5 20 [(0, .ref (cdA g 8)), (1, .int v1), (2, .int v2), (3, .int v3), (4, .ref (cdA g 7))] [] σ)
    (by
    intro  σ hB H locs ls hP hS hl
    refine lv_aload_n hx hb dX0_weigh_20 rfl (lv_at hl 0 rfl) ?_
    refine lv_iconst (v := 1) hx hb dX0_weigh_21 (by decide) ?_
    refine cd_put X hP hS (C := RX0) (T := TX0) (N := 6) (ci := 0) (k := 8) (j := 0) (v := .int (1 : Int32)) (σ' := cdU σ 8 0 (1 : Int32)) inX0 tyX0 tyX0_ok nmX0 (by decide) rfl rfl (by decide) wf_X0_9 rfl rfl (tyX0_ok 0 (by decide)) rfl rfl (Nat.le_of_ble_eq_true rfl) (cdW_U (by decide) rfl) dX0_weigh_22 (fun H locs hP hS => ?_)
    obtain ⟨σ_5, eσ_5⟩ : ∃ z : cdS, z = cdU σ 8 0 (1 : Int32) := ⟨_, rfl⟩
    rw [← eσ_5] at hP
    have hB := hB σ_5 eσ_5
    refine lv_aload_n hx hb dX0_weigh_25 rfl (lv_at hl 0 rfl) ?_
    refine lv_iload_n hx hb dX0_weigh_26 rfl (lv_at hl 1 rfl) ?_
    refine cd_put X hP hS (C := RX0) (T := TX0) (N := 6) (ci := 0) (k := 8) (j := 1) (v := .int v1) (σ' := cdU σ_5 8 1 v1) inX0 tyX0 tyX0_ok nmX0 (by decide) rfl rfl (by decide) wf_X0_19 rfl rfl (tyX0_ok 1 (by decide)) rfl rfl (Nat.le_of_ble_eq_true rfl) (cdW_U (by decide) rfl) dX0_weigh_27 (fun H locs hP hS => ?_)
    obtain ⟨σ_6, eσ_6⟩ : ∃ z : cdS, z = cdU σ_5 8 1 v1 := ⟨_, rfl⟩
    rw [← eσ_6] at hP
    have hB := hB σ_6 eσ_6
    refine lv_aload_n hx hb dX0_weigh_30 rfl (lv_at hl 0 rfl) ?_
    refine lv_iload_n hx hb dX0_weigh_31 rfl (lv_at hl 2 rfl) ?_
    refine cd_put X hP hS (C := RX0) (T := TX0) (N := 6) (ci := 0) (k := 8) (j := 2) (v := .int v2) (σ' := cdU σ_6 8 2 v2) inX0 tyX0 tyX0_ok nmX0 (by decide) rfl rfl (by decide) wf_X0_23 rfl rfl (tyX0_ok 2 (by decide)) rfl rfl (Nat.le_of_ble_eq_true rfl) (cdW_U (by decide) rfl) dX0_weigh_32 (fun H locs hP hS => ?_)
    obtain ⟨σ_7, eσ_7⟩ : ∃ z : cdS, z = cdU σ_6 8 2 v2 := ⟨_, rfl⟩
    rw [← eσ_7] at hP
    have hB := hB σ_7 eσ_7
    refine lv_aload_n hx hb dX0_weigh_35 rfl (lv_at hl 0 rfl) ?_
    refine lv_iload_n hx hb dX0_weigh_36 rfl (lv_at hl 3 rfl) ?_
    refine cd_put X hP hS (C := RX0) (T := TX0) (N := 6) (ci := 0) (k := 8) (j := 3) (v := .int v3) (σ' := cdU σ_7 8 3 v3) inX0 tyX0 tyX0_ok nmX0 (by decide) rfl rfl (by decide) wf_X0_26 rfl rfl (tyX0_ok 3 (by decide)) rfl rfl (Nat.le_of_ble_eq_true rfl) (cdW_U (by decide) rfl) dX0_weigh_37 (fun H locs hP hS => ?_)
    obtain ⟨σ_8, eσ_8⟩ : ∃ z : cdS, z = cdU σ_7 8 3 v3 := ⟨_, rfl⟩
    rw [← eσ_8] at hP
    have hB := hB σ_8 eσ_8
    refine lv_aload_n hx hb dX0_weigh_40 rfl (lv_at hl 0 rfl) ?_
    refine lv_aload hx hb dX0_weigh_41 (lv_at hl 4 rfl) ?_
    refine cd_ci (cd_runV (As := []) (rest := [.ref (cdA g 8)]) (σ := σ_8) (k := 7) (ci := 4) X wm_X0_29 (by decide) rfl rfl rfl (c_X4_above l g  σ_8 _ hB _) hP hS rfl rfl hl.1 (Nat.le_of_ble_eq_true rfl) ⟨Nat.le_of_ble_eq_true rfl, Nat.le_of_ble_eq_true rfl⟩ ⟨Nat.zero_le _, Nat.zero_le _⟩ dX0_weigh_43) hS (fun r_9 σ_10 H locs hB hP hS => ?_)
    obtain ⟨eσ_10, hB⟩ := hB
    rw [eσ_10] at hP
    refine cd_put X hP hS (C := RX0) (T := TX0) (N := 6) (ci := 0) (k := 8) (j := 4) (v := .int r_9) (σ' := cdU σ_8 8 4 r_9) inX0 tyX0 tyX0_ok nmX0 (by decide) rfl rfl (by decide) wf_X0_35 rfl rfl (tyX0_ok 4 (by decide)) rfl rfl (Nat.le_of_ble_eq_true rfl) (cdW_U (by decide) rfl) dX0_weigh_46 (fun H locs hP hS => ?_)
    obtain ⟨σ_11, eσ_11⟩ : ∃ z : cdS, z = cdU σ_8 8 4 r_9 := ⟨_, rfl⟩
    rw [← eσ_11] at hP
    have hB := hB σ_11 eσ_11
    refine lv_aload_n hx hb dX0_weigh_49 rfl (lv_at hl 0 rfl) ?_
    refine lv_aload hx hb dX0_weigh_50 (lv_at hl 4 rfl) ?_
    refine cd_ci (cd_runV (As := []) (rest := [.ref (cdA g 8)]) (σ := σ_11) (k := 7) (ci := 4) X wm_X0_37 (by decide) rfl rfl rfl (c_X4_below l g  σ_11 _ hB _) hP hS rfl rfl hl.1 (Nat.le_of_ble_eq_true rfl) ⟨Nat.le_of_ble_eq_true rfl, Nat.le_of_ble_eq_true rfl⟩ ⟨Nat.zero_le _, Nat.zero_le _⟩ dX0_weigh_52) hS (fun r_12 σ_13 H locs hB hP hS => ?_)
    obtain ⟨eσ_13, hB⟩ := hB
    rw [eσ_13] at hP
    refine cd_put X hP hS (C := RX0) (T := TX0) (N := 6) (ci := 0) (k := 8) (j := 5) (v := .int r_12) (σ' := cdU σ_11 8 5 r_12) inX0 tyX0 tyX0_ok nmX0 (by decide) rfl rfl (by decide) wf_X0_40 rfl rfl (tyX0_ok 5 (by decide)) rfl rfl (Nat.le_of_ble_eq_true rfl) (cdW_U (by decide) rfl) dX0_weigh_55 (fun H locs hP hS => ?_)
    obtain ⟨σ_14, eσ_14⟩ : ∃ z : cdS, z = cdU σ_11 8 5 r_12 := ⟨_, rfl⟩
    rw [← eσ_14] at hP
    have hB := hB σ_14 eσ_14
    rw [hQm]
    exact W.vret hx hb hr (fun t ht hW => ⟨⟨σ_14, rfl, hB, cd_hp ht hP⟩, hS.F ht⟩) hS.2.2 dX0_weigh_58)
  refine lv_aload_n hx hb dX0_weigh_0 rfl (lv_at hl 0 rfl) ?_
  refine cd_get X hP (C := RX0) (T := TX0) (N := 6) (ci := 0) (k := 8) (j := 0) (v := .int (σ.1 8 0)) inX0 (by decide) rfl rfl (by decide) wf_X0_9 rfl rfl dX0_weigh_1 ?_
  refine lv_if_eq (tgt := 20) hx hb dX0_weigh_4 (by decide) (fun c_1 => ?_) (fun c_1 => ?_)
  · have hB := hB.1 c_1
    exact hB _ _ _ hP hS (lv_sub hl [0, 1, 2, 3, 4] rfl)
  · have hB := hB.2 c_1
    refine lv_aload_n hx hb dX0_weigh_7 rfl (lv_at hl 0 rfl) ?_
    refine lv_iload_n hx hb dX0_weigh_8 rfl (lv_at hl 1 rfl) ?_
    refine lv_iload_n hx hb dX0_weigh_9 rfl (lv_at hl 2 rfl) ?_
    refine lv_iload_n hx hb dX0_weigh_10 rfl (lv_at hl 3 rfl) ?_
    refine lv_aload hx hb dX0_weigh_11 (lv_at hl 4 rfl) ?_
    refine cd_ci (cd_runV (As := [.int v1, .int v2, .int v3, .ref (cdA g 7)]) (rest := []) (σ := σ) (k := 8) (ci := 0) X wm_X0_15 (by decide) rfl rfl rfl (c_X0_isBetter l g v1 v2 v3 σ _ hB _) hP hS rfl rfl hl.1 (Nat.le_of_ble_eq_true rfl) ⟨Nat.le_of_ble_eq_true rfl, Nat.le_of_ble_eq_true rfl⟩ ⟨Nat.zero_le _, Nat.zero_le _⟩ dX0_weigh_13) hS (fun r_2 σ_3 H locs hB hP hS => ?_)
    obtain ⟨eσ_3, hB⟩ := hB
    rw [eσ_3] at hP
    refine lv_if_ne (tgt := 20) hx hb dX0_weigh_16 (by decide) (fun c_4 => ?_) (fun c_4 => ?_)
    · have hB := hB.1 c_4
      exact hB _ _ _ hP hS (lv_sub hl [0, 1, 2, 3, 4] rfl)
    · have hB := hB.2 c_4
      rw [hQm]
      exact W.vret hx hb hr (fun t ht hW => ⟨⟨σ, rfl, hB, cd_hp ht hP⟩, hS.F ht⟩) hS.2.2 dX0_weigh_19
def wp_X2_depthAt (n0 : Nat) (v1 : Int32) (v2 : Int32) (σ : cdS) (Q : Int32 → Prop) : Prop :=
  
    n0 < 5 ∧ ∀ x3_2 : Int32, x3_2 = (((σ.1 (9 + n0) 1) - (1 : Int32)) / (2 : Int32)) →
    ((v1 < (-x3_2) →
    Q (0 : Int32)) ∧
    (¬ (v1 < (-x3_2)) →
    ((x3_2 < v1 →
    Q (0 : Int32)) ∧
    (¬ (x3_2 < v1) →
    ((v2 < (-x3_2) →
    Q (0 : Int32)) ∧
    (¬ (v2 < (-x3_2)) →
    ((v2 ≤ x3_2 →
    vp_in ((((x3_2 - v2) * (σ.1 (9 + n0) 1)) + x3_2) + v1) 49 ∧
    Q (σ.1 (14 + n0) (((((x3_2 - v2) * (σ.1 (9 + n0) 1)) + x3_2) + v1)).toNatClampNeg)) ∧
    (¬ (v2 ≤ x3_2) →
    Q (0 : Int32)))))))))
set_option maxHeartbeats 4000000 in
set_option maxRecDepth 100000 in
theorem c_X2_depthAt (l : Launch) (g : cdG) (n0 : Nat) (v1 : Int32) (v2 : Int32) (σ : cdS) (Q : Int32 → Prop) (hwp : wp_X2_depthAt n0 v1 v2 σ Q) : cdCi l g yX2_depthAt cX2_depthAt 4 (some .int) 0 0 [.ref (cdA g (9 + n0)), .int v1, .int v2] σ (fun r σ' => σ' = σ ∧ Q r) := by
  intro sz
  refine Met.ofW (cc := cX2_depthAt) (maxL := 4) (ret := (some .int)) (by decide) rfl ?_
  intro p e s m args below meth c s₁ B hml hv
  obtain ⟨rfl, hsz, hP, hK, hdi, hV⟩ := hv
  subst hsz
  have hx := B.exec
  have hb := B.bytes
  have hr := B.returns
  have hlocks := B.notSynchronized
  have hown : s.vm.findClass RX2 = some m.cls := findClass_of_methodNamed B.named
  have hts : ∀ w ∈ cdL, w.before _ s = true := fun w hw => atoms_spec (ws := cdWs yX2_depthAt cX2_depthAt 4 (some .int)) B.pre w (List.mem_cons_of_mem _ hw)
  have X : cdX p s m _ c cX2_depthAt 4 RX2 g := ⟨hx, hb, hml, hown, hts, hK, hdi, hV⟩
  have hS : va_S (cdZ g s.heap.size) s.heap s.heap [] := va_S.rf
  have hl := lv_entry ([.ref (cdA g (9 + n0)), .int v1, .int v2]) (n := 4) (Nat.le_of_ble_eq_true rfl)
  rw [lg_entry_eq]
  generalize (lg_sl ([.ref (cdA g (9 + n0)), .int v1, .int v2]) ++ List.replicate (4 - (lg_sl ([.ref (cdA g (9 + n0)), .int v1, .int v2])).length) Slot.unset).toArray = ls at hl ⊢
  have hl : lv_has ls 4 [(0, .ref (cdA g (9 + n0))), (1, .int v1), (2, .int v2)] := hl
  obtain ⟨Qm, hQm⟩ : ∃ z, z = MQ below (va_Qi (fun r σ' => σ' = σ ∧ Q r) (fun σ' t => va_P (cdD g) vwCl (cdW g σ') t.heap) (cdZ g s.heap.size)) ([.ref (cdA g (9 + n0)), .int v1, .int v2] : List Value).toArray s 0 0 (cdZ g s.heap.size) := ⟨_, rfl⟩
  rw [← hQm]
  have hB := hwp
  refine lv_aload_n hx hb dX2_depthAt_0 rfl (lv_at hl 0 rfl) ?_
  obtain ⟨k_1, hB⟩ := hB
  refine cd_get X hP (C := RX2) (T := TX2) (N := 2) (ci := 2) (k := 9 + n0) (j := 1) (v := .int (σ.1 (9 + n0) 1)) inX2 (show 9 + n0 < 24 by omega) (cdE_head g σ k_1) rfl (by decide) wf_X2_15 rfl rfl dX2_depthAt_1 ?_
  refine lv_iconst (v := 1) hx hb dX2_depthAt_4 (by decide) ?_
  refine lv_isub hx hb dX2_depthAt_5 ?_
  refine lv_iconst (v := 2) hx hb dX2_depthAt_6 (by decide) ?_
  refine lv_idiv hx hb dX2_depthAt_7 (by decide) ?_
  refine lv_topi (fun x3_2 ex3_2 => ?_)
  have hB := hB x3_2 ex3_2
  refine lv_istore_n (lv' := [(3, .int x3_2), (0, .ref (cdA g (9 + n0))), (1, .int v1), (2, .int v2)]) hx hb dX2_depthAt_8 rfl hl (by decide) rfl (fun ls hl => ?_)
  refine lv_iload_n hx hb dX2_depthAt_9 rfl (lv_at hl 2 rfl) ?_
  refine lv_iload_n hx hb dX2_depthAt_10 rfl (lv_at hl 0 rfl) ?_
  refine lv_ineg hx hb dX2_depthAt_11 ?_
  refine lv_icmp_lt (tgt := 31) hx hb dX2_depthAt_12 (by decide) (fun c_3 => ?_) (fun c_3 => ?_)
  · have hB := hB.1 c_3
    refine lv_iconst (v := 0) hx hb dX2_depthAt_31 (by decide) ?_
    rw [hQm]
    exact W.iret hx hb hr (fun t ht hW => ⟨⟨(0 : Int32), σ, rfl, ⟨rfl, hB⟩, cd_hp ht hP⟩, hS.F ht⟩) hS.2.2 dX2_depthAt_32
  · have hB := hB.2 c_3
    refine lv_iload_n hx hb dX2_depthAt_15 rfl (lv_at hl 2 rfl) ?_
    refine lv_iload_n hx hb dX2_depthAt_16 rfl (lv_at hl 0 rfl) ?_
    refine lv_icmp_gt (tgt := 31) hx hb dX2_depthAt_17 (by decide) (fun c_4 => ?_) (fun c_4 => ?_)
    · have hB := hB.1 c_4
      refine lv_iconst (v := 0) hx hb dX2_depthAt_31 (by decide) ?_
      rw [hQm]
      exact W.iret hx hb hr (fun t ht hW => ⟨⟨(0 : Int32), σ, rfl, ⟨rfl, hB⟩, cd_hp ht hP⟩, hS.F ht⟩) hS.2.2 dX2_depthAt_32
    · have hB := hB.2 c_4
      refine lv_iload_n hx hb dX2_depthAt_20 rfl (lv_at hl 3 rfl) ?_
      refine lv_iload_n hx hb dX2_depthAt_21 rfl (lv_at hl 0 rfl) ?_
      refine lv_ineg hx hb dX2_depthAt_22 ?_
      refine lv_icmp_lt (tgt := 31) hx hb dX2_depthAt_23 (by decide) (fun c_5 => ?_) (fun c_5 => ?_)
      · have hB := hB.1 c_5
        refine lv_iconst (v := 0) hx hb dX2_depthAt_31 (by decide) ?_
        rw [hQm]
        exact W.iret hx hb hr (fun t ht hW => ⟨⟨(0 : Int32), σ, rfl, ⟨rfl, hB⟩, cd_hp ht hP⟩, hS.F ht⟩) hS.2.2 dX2_depthAt_32
      · have hB := hB.2 c_5
        refine lv_iload_n hx hb dX2_depthAt_26 rfl (lv_at hl 3 rfl) ?_
        refine lv_iload_n hx hb dX2_depthAt_27 rfl (lv_at hl 0 rfl) ?_
        refine lv_icmp_le (tgt := 33) hx hb dX2_depthAt_28 (by decide) (fun c_6 => ?_) (fun c_6 => ?_)
        · have hB := hB.1 c_6
          refine lv_aload_n hx hb dX2_depthAt_33 rfl (lv_at hl 1 rfl) ?_
          refine cd_get X hP (C := RX2) (T := TX2) (N := 2) (ci := 2) (k := 9 + n0) (j := 0) (v := .ref (cdA g (14 + n0))) inX2 (show 9 + n0 < 24 by omega) (cdE_head g σ k_1) rfl (by decide) wf_X2_11 rfl rfl dX2_depthAt_34 ?_
          refine lv_iload_n hx hb dX2_depthAt_37 rfl (lv_at hl 0 rfl) ?_
          refine lv_iload_n hx hb dX2_depthAt_38 rfl (lv_at hl 3 rfl) ?_
          refine lv_isub hx hb dX2_depthAt_39 ?_
          refine lv_aload_n hx hb dX2_depthAt_40 rfl (lv_at hl 1 rfl) ?_
          refine cd_get X hP (C := RX2) (T := TX2) (N := 2) (ci := 2) (k := 9 + n0) (j := 1) (v := .int (σ.1 (9 + n0) 1)) inX2 (show 9 + n0 < 24 by omega) (cdE_head g σ k_1) rfl (by decide) wf_X2_15 rfl rfl dX2_depthAt_41 ?_
          refine lv_imul hx hb dX2_depthAt_44 ?_
          refine lv_iload_n hx hb dX2_depthAt_45 rfl (lv_at hl 0 rfl) ?_
          refine lv_iadd hx hb dX2_depthAt_46 ?_
          refine lv_iload_n hx hb dX2_depthAt_47 rfl (lv_at hl 2 rfl) ?_
          refine lv_iadd hx hb dX2_depthAt_48 ?_
          obtain ⟨i_7, hB⟩ := hB
          refine cd_ald X hP (k := 14 + n0) (N := 49) (show 14 + n0 < 24 by omega) (cdE_deps g σ k_1) i_7 dX2_depthAt_49 ?_
          rw [hQm]
          exact W.iret hx hb hr (fun t ht hW => ⟨⟨(σ.1 (14 + n0) (((((x3_2 - v2) * (σ.1 (9 + n0) 1)) + x3_2) + v1)).toNatClampNeg), σ, rfl, ⟨rfl, hB⟩, cd_hp ht hP⟩, hS.F ht⟩) hS.2.2 dX2_depthAt_50
        · have hB := hB.2 c_6
          refine lv_iconst (v := 0) hx hb dX2_depthAt_31 (by decide) ?_
          rw [hQm]
          exact W.iret hx hb hr (fun t ht hW => ⟨⟨(0 : Int32), σ, rfl, ⟨rfl, hB⟩, cd_hp ht hP⟩, hS.F ht⟩) hS.2.2 dX2_depthAt_32
def wp_X2_reach (n0 : Nat) (σ : cdS) (Q : Int32 → Prop) : Prop :=
  
    n0 < 5 ∧ Q (((σ.1 (9 + n0) 1) - (1 : Int32)) / (2 : Int32))
set_option maxHeartbeats 4000000 in
set_option maxRecDepth 100000 in
theorem c_X2_reach (l : Launch) (g : cdG) (n0 : Nat) (σ : cdS) (Q : Int32 → Prop) (hwp : wp_X2_reach n0 σ Q) : cdCi l g yX2_reach cX2_reach 1 (some .int) 0 0 [.ref (cdA g (9 + n0))] σ (fun r σ' => σ' = σ ∧ Q r) := by
  intro sz
  refine Met.ofW (cc := cX2_reach) (maxL := 1) (ret := (some .int)) (by decide) rfl ?_
  intro p e s m args below meth c s₁ B hml hv
  obtain ⟨rfl, hsz, hP, hK, hdi, hV⟩ := hv
  subst hsz
  have hx := B.exec
  have hb := B.bytes
  have hr := B.returns
  have hlocks := B.notSynchronized
  have hown : s.vm.findClass RX2 = some m.cls := findClass_of_methodNamed B.named
  have hts : ∀ w ∈ cdL, w.before _ s = true := fun w hw => atoms_spec (ws := cdWs yX2_reach cX2_reach 1 (some .int)) B.pre w (List.mem_cons_of_mem _ hw)
  have X : cdX p s m _ c cX2_reach 1 RX2 g := ⟨hx, hb, hml, hown, hts, hK, hdi, hV⟩
  have hS : va_S (cdZ g s.heap.size) s.heap s.heap [] := va_S.rf
  have hl := lv_entry ([.ref (cdA g (9 + n0))]) (n := 1) (Nat.le_of_ble_eq_true rfl)
  rw [lg_entry_eq]
  generalize (lg_sl ([.ref (cdA g (9 + n0))]) ++ List.replicate (1 - (lg_sl ([.ref (cdA g (9 + n0))])).length) Slot.unset).toArray = ls at hl ⊢
  have hl : lv_has ls 1 [(0, .ref (cdA g (9 + n0)))] := hl
  obtain ⟨Qm, hQm⟩ : ∃ z, z = MQ below (va_Qi (fun r σ' => σ' = σ ∧ Q r) (fun σ' t => va_P (cdD g) vwCl (cdW g σ') t.heap) (cdZ g s.heap.size)) ([.ref (cdA g (9 + n0))] : List Value).toArray s 0 0 (cdZ g s.heap.size) := ⟨_, rfl⟩
  rw [← hQm]
  have hB := hwp
  refine lv_aload_n hx hb dX2_reach_0 rfl (lv_at hl 0 rfl) ?_
  obtain ⟨k_1, hB⟩ := hB
  refine cd_get X hP (C := RX2) (T := TX2) (N := 2) (ci := 2) (k := 9 + n0) (j := 1) (v := .int (σ.1 (9 + n0) 1)) inX2 (show 9 + n0 < 24 by omega) (cdE_head g σ k_1) rfl (by decide) wf_X2_15 rfl rfl dX2_reach_1 ?_
  refine lv_iconst (v := 1) hx hb dX2_reach_4 (by decide) ?_
  refine lv_isub hx hb dX2_reach_5 ?_
  refine lv_iconst (v := 2) hx hb dX2_reach_6 (by decide) ?_
  refine lv_idiv hx hb dX2_reach_7 (by decide) ?_
  rw [hQm]
  exact W.iret hx hb hr (fun t ht hW => ⟨⟨(((σ.1 (9 + n0) 1) - (1 : Int32)) / (2 : Int32)), σ, rfl, ⟨rfl, hB⟩, cd_hp ht hP⟩, hS.F ht⟩) hS.2.2 dX2_reach_8
def wp_X5_isWithin (v0 : Int32) (v1 : Int32) (v2 : Int32) (σ : cdS) (Q : Int32 → Prop) : Prop :=
  
    ((v0 < v1 →
    Q (0 : Int32)) ∧
    (¬ (v0 < v1) →
    ((v2 < v0 →
    Q (0 : Int32)) ∧
    (¬ (v2 < v0) →
    Q (1 : Int32)))))
set_option maxHeartbeats 4000000 in
set_option maxRecDepth 100000 in
theorem c_X5_isWithin (l : Launch) (g : cdG) (v0 : Int32) (v1 : Int32) (v2 : Int32) (σ : cdS) (Q : Int32 → Prop) (hwp : wp_X5_isWithin v0 v1 v2 σ Q) : cdCi l g yX5_isWithin cX5_isWithin 3 (some .boolean) 0 0 [.int v0, .int v1, .int v2] σ (fun r σ' => σ' = σ ∧ Q r) := by
  intro sz
  refine Met.ofW (cc := cX5_isWithin) (maxL := 3) (ret := (some .boolean)) (by decide) rfl ?_
  intro p e s m args below meth c s₁ B hml hv
  obtain ⟨rfl, hsz, hP, hK, hdi, hV⟩ := hv
  subst hsz
  have hx := B.exec
  have hb := B.bytes
  have hr := B.returns
  have hlocks := B.notSynchronized
  have hown : s.vm.findClass RX5 = some m.cls := findClass_of_methodNamed B.named
  have hts : ∀ w ∈ cdL, w.before _ s = true := fun w hw => atoms_spec (ws := cdWs yX5_isWithin cX5_isWithin 3 (some .boolean)) B.pre w (List.mem_cons_of_mem _ hw)
  have X : cdX p s m _ c cX5_isWithin 3 RX5 g := ⟨hx, hb, hml, hown, hts, hK, hdi, hV⟩
  have hS : va_S (cdZ g s.heap.size) s.heap s.heap [] := va_S.rf
  have hl := lv_entry ([.int v0, .int v1, .int v2]) (n := 3) (Nat.le_of_ble_eq_true rfl)
  rw [lg_entry_eq]
  generalize (lg_sl ([.int v0, .int v1, .int v2]) ++ List.replicate (3 - (lg_sl ([.int v0, .int v1, .int v2])).length) Slot.unset).toArray = ls at hl ⊢
  have hl : lv_has ls 3 [(0, .int v0), (1, .int v1), (2, .int v2)] := hl
  obtain ⟨Qm, hQm⟩ : ∃ z, z = MQ below (va_Qi (fun r σ' => σ' = σ ∧ Q r) (fun σ' t => va_P (cdD g) vwCl (cdW g σ') t.heap) (cdZ g s.heap.size)) ([.int v0, .int v1, .int v2] : List Value).toArray s 0 0 (cdZ g s.heap.size) := ⟨_, rfl⟩
  rw [← hQm]
  have hB := hwp
  refine lv_iload_n hx hb dX5_isWithin_0 rfl (lv_at hl 0 rfl) ?_
  refine lv_iload_n hx hb dX5_isWithin_1 rfl (lv_at hl 1 rfl) ?_
  refine lv_icmp_lt (tgt := 14) hx hb dX5_isWithin_2 (by decide) (fun c_1 => ?_) (fun c_1 => ?_)
  · have hB := hB.1 c_1
    refine lv_iconst (v := 0) hx hb dX5_isWithin_14 (by decide) ?_
    rw [hQm]
    exact W.zret hx hb hr rfl (fun t ht hW => ⟨⟨(0 : Int32), σ, rfl, ⟨rfl, hB⟩, cd_hp ht hP⟩, hS.F ht⟩) hS.2.2 dX5_isWithin_15
  · have hB := hB.2 c_1
    refine lv_iload_n hx hb dX5_isWithin_5 rfl (lv_at hl 0 rfl) ?_
    refine lv_iload_n hx hb dX5_isWithin_6 rfl (lv_at hl 2 rfl) ?_
    refine lv_icmp_gt (tgt := 14) hx hb dX5_isWithin_7 (by decide) (fun c_2 => ?_) (fun c_2 => ?_)
    · have hB := hB.1 c_2
      refine lv_iconst (v := 0) hx hb dX5_isWithin_14 (by decide) ?_
      rw [hQm]
      exact W.zret hx hb hr rfl (fun t ht hW => ⟨⟨(0 : Int32), σ, rfl, ⟨rfl, hB⟩, cd_hp ht hP⟩, hS.F ht⟩) hS.2.2 dX5_isWithin_15
    · have hB := hB.2 c_2
      refine lv_iconst (v := 1) hx hb dX5_isWithin_10 (by decide) ?_
      refine lv_goto (tgt := 15) hx hb dX5_isWithin_11 (by decide) ?_
      rw [hQm]
      exact W.zret hx hb hr rfl (fun t ht hW => ⟨⟨(1 : Int32), σ, rfl, ⟨rfl, hB⟩, cd_hp ht hP⟩, hS.F ht⟩) hS.2.2 dX5_isWithin_15
def wp_X4_inCommon (v0 : Int32) (v1 : Int32) (σ : cdS) (Q : Int32 → Prop) : Prop :=
  ∀ (P2 : Int32 → Int32 → Int32 → Prop),
    (∀ (x0 : Int32) (x1 : Int32) (x2 : Int32), (
    (((100 : Int32) ≤ x2 →
    Q x0) ∧
    (¬ ((100 : Int32) ≤ x2) →
    ((x1 = 0 →
    Q x0) ∧
    (¬ (x1 = 0) →
    ¬ x1 = 0 ∧
    ∀ x3_4 : Int32, x3_4 = (cdm x0 x1) →
    ∀ x2_5 : Int32, x2_5 = x2 + 1 →
    P2 x1 x3_4 x2_5))))) → P2 x0 x1 x2) →
    
    P2 v0 v1 (0 : Int32)
set_option maxHeartbeats 4000000 in
set_option maxRecDepth 100000 in
theorem c_X4_inCommon (l : Launch) (g : cdG) (v0 : Int32) (v1 : Int32) (σ : cdS) (Q : Int32 → Prop) (hwp : wp_X4_inCommon v0 v1 σ Q) : cdCi l g yX4_inCommon cX4_inCommon 4 (some .int) 0 0 [.int v0, .int v1] σ (fun r σ' => σ' = σ ∧ Q r) := by
  intro sz
  refine Met.ofW (cc := cX4_inCommon) (maxL := 4) (ret := (some .int)) (by decide) rfl ?_
  intro p e s m args below meth c s₁ B hml hv
  obtain ⟨rfl, hsz, hP, hK, hdi, hV⟩ := hv
  subst hsz
  have hx := B.exec
  have hb := B.bytes
  have hr := B.returns
  have hlocks := B.notSynchronized
  have hown : s.vm.findClass RX4 = some m.cls := findClass_of_methodNamed B.named
  have hts : ∀ w ∈ cdL, w.before _ s = true := fun w hw => atoms_spec (ws := cdWs yX4_inCommon cX4_inCommon 4 (some .int)) B.pre w (List.mem_cons_of_mem _ hw)
  have X : cdX p s m _ c cX4_inCommon 4 RX4 g := ⟨hx, hb, hml, hown, hts, hK, hdi, hV⟩
  have hS : va_S (cdZ g s.heap.size) s.heap s.heap [] := va_S.rf
  have hl := lv_entry ([.int v0, .int v1]) (n := 4) (Nat.le_of_ble_eq_true rfl)
  rw [lg_entry_eq]
  generalize (lg_sl ([.int v0, .int v1]) ++ List.replicate (4 - (lg_sl ([.int v0, .int v1])).length) Slot.unset).toArray = ls at hl ⊢
  have hl : lv_has ls 4 [(0, .int v0), (1, .int v1)] := hl
  obtain ⟨Qm, hQm⟩ : ∃ z, z = MQ below (va_Qi (fun r σ' => σ' = σ ∧ Q r) (fun σ' t => va_P (cdD g) vwCl (cdW g σ') t.heap) (cdZ g s.heap.size)) ([.int v0, .int v1] : List Value).toArray s 0 0 (cdZ g s.heap.size) := ⟨_, rfl⟩
  rw [← hQm]
  have hB := hwp (fun (x0 : Int32) (x1 : Int32) (x2 : Int32) => cdCut p l e (headSpec (cdWs yX4_inCommon cX4_inCommon 4 (some .int)) (cdRm 0 0)).room s m ([.int v0, .int v1] : List Value).toArray below meth c Qm g 4 2 [(0, .int x0), (1, .int x1), (2, .int x2)] [] σ)
    (by
    intro x0 x1 x2 hB H locs ls hP hS hl
    refine lv_iload_n hx hb dX4_inCommon_2 rfl (lv_at hl 2 rfl) ?_
    refine lv_bipush (v := 100) hx hb dX4_inCommon_3 (by decide) ?_
    refine lv_icmp_ge (tgt := 26) hx hb dX4_inCommon_5 (by decide) (fun c_1 => ?_) (fun c_1 => ?_)
    · have hB := hB.1 c_1
      refine lv_iload_n hx hb dX4_inCommon_26 rfl (lv_at hl 0 rfl) ?_
      rw [hQm]
      exact W.iret hx hb hr (fun t ht hW => ⟨⟨x0, σ, rfl, ⟨rfl, hB⟩, cd_hp ht hP⟩, hS.F ht⟩) hS.2.2 dX4_inCommon_27
    · have hB := hB.2 c_1
      refine lv_iload_n hx hb dX4_inCommon_8 rfl (lv_at hl 1 rfl) ?_
      refine lv_if_eq (tgt := 26) hx hb dX4_inCommon_9 (by decide) (fun c_2 => ?_) (fun c_2 => ?_)
      · have hB := hB.1 c_2
        refine lv_iload_n hx hb dX4_inCommon_26 rfl (lv_at hl 0 rfl) ?_
        rw [hQm]
        exact W.iret hx hb hr (fun t ht hW => ⟨⟨x0, σ, rfl, ⟨rfl, hB⟩, cd_hp ht hP⟩, hS.F ht⟩) hS.2.2 dX4_inCommon_27
      · have hB := hB.2 c_2
        refine lv_iload_n hx hb dX4_inCommon_12 rfl (lv_at hl 0 rfl) ?_
        refine lv_iload_n hx hb dX4_inCommon_13 rfl (lv_at hl 1 rfl) ?_
        obtain ⟨z_3, hB⟩ := hB
        refine lv_irem hx hb dX4_inCommon_14 z_3 ?_
        refine lv_topi (fun x3_4 ex3_4 => ?_)
        have hB := hB x3_4 ex3_4
        refine lv_istore_n (lv' := [(3, .int x3_4), (0, .int x0), (1, .int x1), (2, .int x2)]) hx hb dX4_inCommon_15 rfl hl (by decide) rfl (fun ls hl => ?_)
        refine lv_iload_n hx hb dX4_inCommon_16 rfl (lv_at hl 2 rfl) ?_
        refine lv_istore_n (lv' := [(0, .int x1), (3, .int x3_4), (1, .int x1), (2, .int x2)]) hx hb dX4_inCommon_17 rfl hl (by decide) rfl (fun ls hl => ?_)
        refine lv_iload_n hx hb dX4_inCommon_18 rfl (lv_at hl 1 rfl) ?_
        refine lv_istore_n (lv' := [(1, .int x3_4), (0, .int x1), (3, .int x3_4), (2, .int x2)]) hx hb dX4_inCommon_19 rfl hl (by decide) rfl (fun ls hl => ?_)
        obtain ⟨x2_5, ex2_5⟩ : ∃ z : Int32, z = x2 + 1 := ⟨_, rfl⟩
        have hB := hB x2_5 ex2_5
        refine lv_iinc (v := x2_5) (lv' := [(2, .int x2_5), (1, .int x3_4), (0, .int x1), (3, .int x3_4)]) hx hb dX4_inCommon_20 hl (k := 3) rfl (by rw [ex2_5]; rfl) (by decide) rfl (fun ls hl => ?_)
        refine lv_goto (tgt := 2) hx hb dX4_inCommon_23 (by decide) ?_
        exact hB _ _ _ hP hS (lv_sub hl [2, 1, 0] rfl))
  refine lv_iconst (v := 0) hx hb dX4_inCommon_0 (by decide) ?_
  refine lv_istore_n (lv' := [(2, .int (0 : Int32)), (0, .int v0), (1, .int v1)]) hx hb dX4_inCommon_1 rfl hl (by decide) rfl (fun ls hl => ?_)
  exact hB _ _ _ hP hS (lv_sub hl [1, 2, 0] rfl)
def wp_X4_set (v1 : Int32) (v2 : Int32) (σ : cdS) (Q : cdS → Prop) : Prop :=
  ∀ (P17 : cdS → Prop),
    (∀  (σ : cdS), (
    ∀ σ_9 : cdS, σ_9 = cdU σ 7 0 (0 : Int32) →
    ∀ σ_10 : cdS, σ_10 = cdU σ_9 7 1 (1 : Int32) →
    Q σ_10) → P17 σ) →
    
    wp_X4_inCommon (if 0 ≤ v1 then v1 else 0 - v1) v2 σ (fun r_1 => 
    ((v2 ≤ 0 →
    P17 σ) ∧
    (¬ (v2 ≤ 0) →
    ((0 < r_1 →
    ¬ r_1 = 0 ∧
    ∀ σ_6 : cdS, σ_6 = cdU σ 7 0 (v1 / r_1) →
    ¬ r_1 = 0 ∧
    ∀ σ_8 : cdS, σ_8 = cdU σ_6 7 1 (v2 / r_1) →
    Q σ_8) ∧
    (¬ (0 < r_1) →
    P17 σ)))))
set_option maxHeartbeats 4000000 in
set_option maxRecDepth 100000 in
theorem c_X4_set (l : Launch) (g : cdG) (v1 : Int32) (v2 : Int32) (σ : cdS) (Q : cdS → Prop) (hwp : wp_X4_set v1 v2 σ Q) : cdCv l g yX4_set cX4_set 4 none 1 23 [.ref (cdA g 7), .int v1, .int v2] σ Q := by
  intro sz
  refine Met.ofW (cc := cX4_set) (maxL := 4) (ret := none) (by decide) rfl ?_
  intro p e s m args below meth c s₁ B hml hv
  obtain ⟨rfl, hsz, hP, hK, hdi, hV⟩ := hv
  subst hsz
  have hx := B.exec
  have hb := B.bytes
  have hr := B.returns
  have hlocks := B.notSynchronized
  have hown : s.vm.findClass RX4 = some m.cls := findClass_of_methodNamed B.named
  have hts : ∀ w ∈ cdL, w.before _ s = true := fun w hw => atoms_spec (ws := cdWs yX4_set cX4_set 4 none) B.pre w (List.mem_cons_of_mem _ hw)
  have X : cdX p s m _ c cX4_set 4 RX4 g := ⟨hx, hb, hml, hown, hts, hK, hdi, hV⟩
  have hS : va_S (cdZ g s.heap.size) s.heap s.heap [] := va_S.rf
  have hl := lv_entry ([.ref (cdA g 7), .int v1, .int v2]) (n := 4) (Nat.le_of_ble_eq_true rfl)
  rw [lg_entry_eq]
  generalize (lg_sl ([.ref (cdA g 7), .int v1, .int v2]) ++ List.replicate (4 - (lg_sl ([.ref (cdA g 7), .int v1, .int v2])).length) Slot.unset).toArray = ls at hl ⊢
  have hl : lv_has ls 4 [(0, .ref (cdA g 7)), (1, .int v1), (2, .int v2)] := hl
  obtain ⟨Qm, hQm⟩ : ∃ z, z = MQ below (va_Qv Q (fun σ' t => va_P (cdD g) vwCl (cdW g σ') t.heap) (cdZ g s.heap.size)) ([.ref (cdA g 7), .int v1, .int v2] : List Value).toArray s 0 0 (cdZ g s.heap.size) := ⟨_, rfl⟩
  rw [← hQm]
  have hB := hwp (fun  (σ : cdS) => cdCut p l e (headSpec (cdWs yX4_set cX4_set 4 none) (cdRm 1 23)).room s m ([.ref (cdA g 7), .int v1, .int v2] : List Value).toArray below meth c Qm g 4 17 [(0, .ref (cdA g 7))] [] σ)
    (by
    intro  σ hB H locs ls hP hS hl
    refine lv_aload_n hx hb dX4_set_17 rfl (lv_at hl 0 rfl) ?_
    refine lv_iconst (v := 0) hx hb dX4_set_18 (by decide) ?_
    refine cd_put X hP hS (C := RX4) (T := TX4) (N := 2) (ci := 4) (k := 7) (j := 0) (v := .int (0 : Int32)) (σ' := cdU σ 7 0 (0 : Int32)) inX4 tyX4 tyX4_ok nmX4 (by decide) rfl rfl (by decide) wf_X4_23 rfl rfl (tyX4_ok 0 (by decide)) rfl rfl (Nat.le_of_ble_eq_true rfl) (cdW_U (by decide) rfl) dX4_set_19 (fun H locs hP hS => ?_)
    obtain ⟨σ_9, eσ_9⟩ : ∃ z : cdS, z = cdU σ 7 0 (0 : Int32) := ⟨_, rfl⟩
    rw [← eσ_9] at hP
    have hB := hB σ_9 eσ_9
    refine lv_aload_n hx hb dX4_set_22 rfl (lv_at hl 0 rfl) ?_
    refine lv_iconst (v := 1) hx hb dX4_set_23 (by decide) ?_
    refine cd_put X hP hS (C := RX4) (T := TX4) (N := 2) (ci := 4) (k := 7) (j := 1) (v := .int (1 : Int32)) (σ' := cdU σ_9 7 1 (1 : Int32)) inX4 tyX4 tyX4_ok nmX4 (by decide) rfl rfl (by decide) wf_X4_7 rfl rfl (tyX4_ok 1 (by decide)) rfl rfl (Nat.le_of_ble_eq_true rfl) (cdW_U (by decide) rfl) dX4_set_24 (fun H locs hP hS => ?_)
    obtain ⟨σ_10, eσ_10⟩ : ∃ z : cdS, z = cdU σ_9 7 1 (1 : Int32) := ⟨_, rfl⟩
    rw [← eσ_10] at hP
    have hB := hB σ_10 eσ_10
    rw [hQm]
    exact W.vret hx hb hr (fun t ht hW => ⟨⟨σ_10, rfl, hB, cd_hp ht hP⟩, hS.F ht⟩) hS.2.2 dX4_set_27)
  refine lv_iload_n hx hb dX4_set_0 rfl (lv_at hl 1 rfl) ?_
  refine va_mabs hx hb (hml.trans hl.1.symm) hown (hts _ wm_X4_13) (hts _ ws_abs) (hts _ wi_Math) (hts _ wk_abs) (Nat.le_of_ble_eq_true rfl) (Nat.le_of_ble_eq_true rfl) (Nat.zero_le _) (Nat.zero_le _) dX4_set_1 ?_
  refine lv_iload_n hx hb dX4_set_4 rfl (lv_at hl 2 rfl) ?_
  refine cd_ci (cd_runS (As := [.int (if 0 ≤ v1 then v1 else 0 - v1), .int v2]) (rest := []) (σ := σ) X wm_X4_19 (c_X4_inCommon l g (if 0 ≤ v1 then v1 else 0 - v1) v2 σ _ hB _) hP hS rfl rfl hl.1 (Nat.le_of_ble_eq_true rfl) ⟨Nat.le_of_ble_eq_true rfl, Nat.le_of_ble_eq_true rfl⟩ ⟨Nat.zero_le _, Nat.zero_le _⟩ dX4_set_5) hS (fun r_1 σ_2 H locs hB hP hS => ?_)
  obtain ⟨eσ_2, hB⟩ := hB
  rw [eσ_2] at hP
  refine lv_istore_n (lv' := [(3, .int r_1), (0, .ref (cdA g 7)), (1, .int v1), (2, .int v2)]) hx hb dX4_set_8 rfl hl (by decide) rfl (fun ls hl => ?_)
  refine lv_iload_n hx hb dX4_set_9 rfl (lv_at hl 3 rfl) ?_
  refine lv_if_le (tgt := 17) hx hb dX4_set_10 (by decide) (fun c_3 => ?_) (fun c_3 => ?_)
  · have hB := hB.1 c_3
    exact hB _ _ _ hP hS (lv_sub hl [1] rfl)
  · have hB := hB.2 c_3
    refine lv_iload_n hx hb dX4_set_13 rfl (lv_at hl 0 rfl) ?_
    refine lv_if_gt (tgt := 28) hx hb dX4_set_14 (by decide) (fun c_4 => ?_) (fun c_4 => ?_)
    · have hB := hB.1 c_4
      refine lv_aload_n hx hb dX4_set_28 rfl (lv_at hl 1 rfl) ?_
      refine lv_iload_n hx hb dX4_set_29 rfl (lv_at hl 2 rfl) ?_
      refine lv_iload_n hx hb dX4_set_30 rfl (lv_at hl 0 rfl) ?_
      obtain ⟨z_5, hB⟩ := hB
      refine lv_idiv hx hb dX4_set_31 z_5 ?_
      refine cd_put X hP hS (C := RX4) (T := TX4) (N := 2) (ci := 4) (k := 7) (j := 0) (v := .int (v1 / r_1)) (σ' := cdU σ 7 0 (v1 / r_1)) inX4 tyX4 tyX4_ok nmX4 (by decide) rfl rfl (by decide) wf_X4_23 rfl rfl (tyX4_ok 0 (by decide)) rfl rfl (Nat.le_of_ble_eq_true rfl) (cdW_U (by decide) rfl) dX4_set_32 (fun H locs hP hS => ?_)
      obtain ⟨σ_6, eσ_6⟩ : ∃ z : cdS, z = cdU σ 7 0 (v1 / r_1) := ⟨_, rfl⟩
      rw [← eσ_6] at hP
      have hB := hB σ_6 eσ_6
      refine lv_aload_n hx hb dX4_set_35 rfl (lv_at hl 1 rfl) ?_
      refine lv_iload_n hx hb dX4_set_36 rfl (lv_at hl 3 rfl) ?_
      refine lv_iload_n hx hb dX4_set_37 rfl (lv_at hl 0 rfl) ?_
      obtain ⟨z_7, hB⟩ := hB
      refine lv_idiv hx hb dX4_set_38 z_7 ?_
      refine cd_put X hP hS (C := RX4) (T := TX4) (N := 2) (ci := 4) (k := 7) (j := 1) (v := .int (v2 / r_1)) (σ' := cdU σ_6 7 1 (v2 / r_1)) inX4 tyX4 tyX4_ok nmX4 (by decide) rfl rfl (by decide) wf_X4_7 rfl rfl (tyX4_ok 1 (by decide)) rfl rfl (Nat.le_of_ble_eq_true rfl) (cdW_U (by decide) rfl) dX4_set_39 (fun H locs hP hS => ?_)
      obtain ⟨σ_8, eσ_8⟩ : ∃ z : cdS, z = cdU σ_6 7 1 (v2 / r_1) := ⟨_, rfl⟩
      rw [← eσ_8] at hP
      have hB := hB σ_8 eσ_8
      rw [hQm]
      exact W.vret hx hb hr (fun t ht hW => ⟨⟨σ_8, rfl, hB, cd_hp ht hP⟩, hS.F ht⟩) hS.2.2 dX4_set_42
    · have hB := hB.2 c_4
      exact hB _ _ _ hP hS (lv_sub hl [1] rfl)
def wp_X2_resize (n0 : Nat) (v1 : Int32) (σ : cdS) (Q : cdS → Prop) : Prop :=
  
    n0 < 5 ∧ ∀ σ_1 : cdS, σ_1 = cdU σ (9 + n0) 1 (if (1 : Int32) < (if v1 < (7 : Int32) then v1 else (7 : Int32)) then (if v1 < (7 : Int32) then v1 else (7 : Int32)) else (1 : Int32)) →
    Q σ_1
set_option maxHeartbeats 4000000 in
set_option maxRecDepth 100000 in
theorem c_X2_resize (l : Launch) (g : cdG) (n0 : Nat) (v1 : Int32) (σ : cdS) (Q : cdS → Prop) (hwp : wp_X2_resize n0 v1 σ Q) : cdCv l g yX2_resize cX2_resize 2 none 1 21 [.ref (cdA g (9 + n0)), .int v1] σ Q := by
  intro sz
  refine Met.ofW (cc := cX2_resize) (maxL := 2) (ret := none) (by decide) rfl ?_
  intro p e s m args below meth c s₁ B hml hv
  obtain ⟨rfl, hsz, hP, hK, hdi, hV⟩ := hv
  subst hsz
  have hx := B.exec
  have hb := B.bytes
  have hr := B.returns
  have hlocks := B.notSynchronized
  have hown : s.vm.findClass RX2 = some m.cls := findClass_of_methodNamed B.named
  have hts : ∀ w ∈ cdL, w.before _ s = true := fun w hw => atoms_spec (ws := cdWs yX2_resize cX2_resize 2 none) B.pre w (List.mem_cons_of_mem _ hw)
  have X : cdX p s m _ c cX2_resize 2 RX2 g := ⟨hx, hb, hml, hown, hts, hK, hdi, hV⟩
  have hS : va_S (cdZ g s.heap.size) s.heap s.heap [] := va_S.rf
  have hl := lv_entry ([.ref (cdA g (9 + n0)), .int v1]) (n := 2) (Nat.le_of_ble_eq_true rfl)
  rw [lg_entry_eq]
  generalize (lg_sl ([.ref (cdA g (9 + n0)), .int v1]) ++ List.replicate (2 - (lg_sl ([.ref (cdA g (9 + n0)), .int v1])).length) Slot.unset).toArray = ls at hl ⊢
  have hl : lv_has ls 2 [(0, .ref (cdA g (9 + n0))), (1, .int v1)] := hl
  obtain ⟨Qm, hQm⟩ : ∃ z, z = MQ below (va_Qv Q (fun σ' t => va_P (cdD g) vwCl (cdW g σ') t.heap) (cdZ g s.heap.size)) ([.ref (cdA g (9 + n0)), .int v1] : List Value).toArray s 0 0 (cdZ g s.heap.size) := ⟨_, rfl⟩
  rw [← hQm]
  have hB := hwp
  refine lv_aload_n hx hb dX2_resize_0 rfl (lv_at hl 0 rfl) ?_
  refine lv_iconst (v := 1) hx hb dX2_resize_1 (by decide) ?_
  refine lv_bipush (v := 7) hx hb dX2_resize_2 (by decide) ?_
  refine lv_iload_n hx hb dX2_resize_4 rfl (lv_at hl 1 rfl) ?_
  refine va_mmin hx hb (hml.trans hl.1.symm) hown (hts _ wm_X2_67) (hts _ ws_min) (hts _ wi_Math) (hts _ wk_min) (Nat.le_of_ble_eq_true rfl) (Nat.le_of_ble_eq_true rfl) (Nat.zero_le _) (Nat.zero_le _) dX2_resize_5 ?_
  refine va_mmax hx hb (hml.trans hl.1.symm) hown (hts _ wm_X2_32) (hts _ ws_max) (hts _ wi_Math) (hts _ wk_max) (Nat.le_of_ble_eq_true rfl) (Nat.le_of_ble_eq_true rfl) (Nat.zero_le _) (Nat.zero_le _) dX2_resize_8 ?_
  obtain ⟨k_2, hB⟩ := hB
  refine cd_put X hP hS (C := RX2) (T := TX2) (N := 2) (ci := 2) (k := 9 + n0) (j := 1) (v := .int (if (1 : Int32) < (if v1 < (7 : Int32) then v1 else (7 : Int32)) then (if v1 < (7 : Int32) then v1 else (7 : Int32)) else (1 : Int32))) (σ' := cdU σ (9 + n0) 1 (if (1 : Int32) < (if v1 < (7 : Int32) then v1 else (7 : Int32)) then (if v1 < (7 : Int32) then v1 else (7 : Int32)) else (1 : Int32))) inX2 tyX2 tyX2_ok nmX2 (show 9 + n0 < 24 by omega) (cdE_head g σ k_2) rfl (by decide) wf_X2_15 rfl rfl (tyX2_ok 1 (by decide)) rfl rfl (Nat.le_of_ble_eq_true rfl) (cdW_Uh k_2) dX2_resize_11 (fun H locs hP hS => ?_)
  obtain ⟨σ_1, eσ_1⟩ : ∃ z : cdS, z = cdU σ (9 + n0) 1 (if (1 : Int32) < (if v1 < (7 : Int32) then v1 else (7 : Int32)) then (if v1 < (7 : Int32) then v1 else (7 : Int32)) else (1 : Int32)) := ⟨_, rfl⟩
  rw [← eσ_1] at hP
  have hB := hB σ_1 eσ_1
  rw [hQm]
  exact W.vret hx hb hr (fun t ht hW => ⟨⟨σ_1, rfl, hB, cd_hp ht hP⟩, hS.F ht⟩) hS.2.2 dX2_resize_14
def wp_X2_put (n0 : Nat) (v1 : Int32) (v2 : Int32) (v3 : Int32) (σ : cdS) (Q : cdS → Prop) : Prop :=
  
    n0 < 5 ∧ wp_X2_reach n0 σ (fun r_2 => 
    wp_X5_isWithin v1 (-r_2) r_2 σ (fun r_4 => 
    ((r_4 = 0 →
    Q σ) ∧
    (¬ (r_4 = 0) →
    wp_X5_isWithin v2 (-r_2) r_2 σ (fun r_7 => 
    ((r_7 = 0 →
    Q σ) ∧
    (¬ (r_7 = 0) →
    vp_in ((((r_2 - v2) * (σ.1 (9 + n0) 1)) + r_2) + v1) 49 ∧ ∀ σ_11 : cdS, σ_11 = cdU σ (14 + n0) (((((r_2 - v2) * (σ.1 (9 + n0) 1)) + r_2) + v1)).toNatClampNeg v3 →
    Q σ_11)))))))
set_option maxHeartbeats 4000000 in
set_option maxRecDepth 100000 in
theorem c_X2_put (l : Launch) (g : cdG) (n0 : Nat) (v1 : Int32) (v2 : Int32) (v3 : Int32) (σ : cdS) (Q : cdS → Prop) (hwp : wp_X2_put n0 v1 v2 v3 σ Q) : cdCv l g yX2_put cX2_put 5 none 1 22 [.ref (cdA g (9 + n0)), .int v1, .int v2, .int v3] σ Q := by
  intro sz
  refine Met.ofW (cc := cX2_put) (maxL := 5) (ret := none) (by decide) rfl ?_
  intro p e s m args below meth c s₁ B hml hv
  obtain ⟨rfl, hsz, hP, hK, hdi, hV⟩ := hv
  subst hsz
  have hx := B.exec
  have hb := B.bytes
  have hr := B.returns
  have hlocks := B.notSynchronized
  have hown : s.vm.findClass RX2 = some m.cls := findClass_of_methodNamed B.named
  have hts : ∀ w ∈ cdL, w.before _ s = true := fun w hw => atoms_spec (ws := cdWs yX2_put cX2_put 5 none) B.pre w (List.mem_cons_of_mem _ hw)
  have X : cdX p s m _ c cX2_put 5 RX2 g := ⟨hx, hb, hml, hown, hts, hK, hdi, hV⟩
  have hS : va_S (cdZ g s.heap.size) s.heap s.heap [] := va_S.rf
  have hl := lv_entry ([.ref (cdA g (9 + n0)), .int v1, .int v2, .int v3]) (n := 5) (Nat.le_of_ble_eq_true rfl)
  rw [lg_entry_eq]
  generalize (lg_sl ([.ref (cdA g (9 + n0)), .int v1, .int v2, .int v3]) ++ List.replicate (5 - (lg_sl ([.ref (cdA g (9 + n0)), .int v1, .int v2, .int v3])).length) Slot.unset).toArray = ls at hl ⊢
  have hl : lv_has ls 5 [(0, .ref (cdA g (9 + n0))), (1, .int v1), (2, .int v2), (3, .int v3)] := hl
  obtain ⟨Qm, hQm⟩ : ∃ z, z = MQ below (va_Qv Q (fun σ' t => va_P (cdD g) vwCl (cdW g σ') t.heap) (cdZ g s.heap.size)) ([.ref (cdA g (9 + n0)), .int v1, .int v2, .int v3] : List Value).toArray s 0 0 (cdZ g s.heap.size) := ⟨_, rfl⟩
  rw [← hQm]
  have hB := hwp
  refine lv_aload_n hx hb dX2_put_0 rfl (lv_at hl 0 rfl) ?_
  obtain ⟨k_1, hB⟩ := hB
  refine cd_ci (cd_runV (As := []) (rest := []) (σ := σ) (k := 9 + n0) (ci := 2) X wm_X2_38 (show 9 + n0 < 24 by omega) (cdE_head g σ k_1) rfl rfl (c_X2_reach l g n0 σ _ hB _) hP hS rfl rfl hl.1 (Nat.le_of_ble_eq_true rfl) ⟨Nat.le_of_ble_eq_true rfl, Nat.le_of_ble_eq_true rfl⟩ ⟨Nat.zero_le _, Nat.zero_le _⟩ dX2_put_1) hS (fun r_2 σ_3 H locs hB hP hS => ?_)
  obtain ⟨eσ_3, hB⟩ := hB
  rw [eσ_3] at hP
  refine lv_istore (lv' := [(4, .int r_2), (0, .ref (cdA g (9 + n0))), (1, .int v1), (2, .int v2), (3, .int v3)]) hx hb dX2_put_4 hl (by decide) rfl (fun ls hl => ?_)
  refine lv_iload_n hx hb dX2_put_6 rfl (lv_at hl 2 rfl) ?_
  refine lv_iload hx hb dX2_put_7 (lv_at hl 0 rfl) ?_
  refine lv_ineg hx hb dX2_put_9 ?_
  refine lv_iload hx hb dX2_put_10 (lv_at hl 0 rfl) ?_
  refine cd_ci (cd_runN (As := [.int v1, .int (-r_2), .int r_2]) (rest := []) (σ := σ) X wn_X5_isWithin X.2.2.2.2.2.2.2.1.2 (c_X5_isWithin l g v1 (-r_2) r_2 σ _ hB _) hP hS rfl rfl hl.1 (Nat.le_of_ble_eq_true rfl) ⟨Nat.le_of_ble_eq_true rfl, Nat.le_of_ble_eq_true rfl⟩ ⟨Nat.zero_le _, Nat.zero_le _⟩ dX2_put_12) hS (fun r_4 σ_5 H locs hB hP hS => ?_)
  obtain ⟨eσ_5, hB⟩ := hB
  rw [eσ_5] at hP
  refine lv_if_eq (tgt := 50) hx hb dX2_put_15 (by decide) (fun c_6 => ?_) (fun c_6 => ?_)
  · have hB := hB.1 c_6
    rw [hQm]
    exact W.vret hx hb hr (fun t ht hW => ⟨⟨σ, rfl, hB, cd_hp ht hP⟩, hS.F ht⟩) hS.2.2 dX2_put_50
  · have hB := hB.2 c_6
    refine lv_iload_n hx hb dX2_put_18 rfl (lv_at hl 3 rfl) ?_
    refine lv_iload hx hb dX2_put_19 (lv_at hl 0 rfl) ?_
    refine lv_ineg hx hb dX2_put_21 ?_
    refine lv_iload hx hb dX2_put_22 (lv_at hl 0 rfl) ?_
    refine cd_ci (cd_runN (As := [.int v2, .int (-r_2), .int r_2]) (rest := []) (σ := σ) X wn_X5_isWithin X.2.2.2.2.2.2.2.1.2 (c_X5_isWithin l g v2 (-r_2) r_2 σ _ hB _) hP hS rfl rfl hl.1 (Nat.le_of_ble_eq_true rfl) ⟨Nat.le_of_ble_eq_true rfl, Nat.le_of_ble_eq_true rfl⟩ ⟨Nat.zero_le _, Nat.zero_le _⟩ dX2_put_24) hS (fun r_7 σ_8 H locs hB hP hS => ?_)
    obtain ⟨eσ_8, hB⟩ := hB
    rw [eσ_8] at hP
    refine lv_if_eq (tgt := 50) hx hb dX2_put_27 (by decide) (fun c_9 => ?_) (fun c_9 => ?_)
    · have hB := hB.1 c_9
      rw [hQm]
      exact W.vret hx hb hr (fun t ht hW => ⟨⟨σ, rfl, hB, cd_hp ht hP⟩, hS.F ht⟩) hS.2.2 dX2_put_50
    · have hB := hB.2 c_9
      refine lv_aload_n hx hb dX2_put_30 rfl (lv_at hl 1 rfl) ?_
      refine cd_get X hP (C := RX2) (T := TX2) (N := 2) (ci := 2) (k := 9 + n0) (j := 0) (v := .ref (cdA g (14 + n0))) inX2 (show 9 + n0 < 24 by omega) (cdE_head g σ k_1) rfl (by decide) wf_X2_11 rfl rfl dX2_put_31 ?_
      refine lv_iload hx hb dX2_put_34 (lv_at hl 0 rfl) ?_
      refine lv_iload_n hx hb dX2_put_36 rfl (lv_at hl 3 rfl) ?_
      refine lv_isub hx hb dX2_put_37 ?_
      refine lv_aload_n hx hb dX2_put_38 rfl (lv_at hl 1 rfl) ?_
      refine cd_get X hP (C := RX2) (T := TX2) (N := 2) (ci := 2) (k := 9 + n0) (j := 1) (v := .int (σ.1 (9 + n0) 1)) inX2 (show 9 + n0 < 24 by omega) (cdE_head g σ k_1) rfl (by decide) wf_X2_15 rfl rfl dX2_put_39 ?_
      refine lv_imul hx hb dX2_put_42 ?_
      refine lv_iload hx hb dX2_put_43 (lv_at hl 0 rfl) ?_
      refine lv_iadd hx hb dX2_put_45 ?_
      refine lv_iload_n hx hb dX2_put_46 rfl (lv_at hl 2 rfl) ?_
      refine lv_iadd hx hb dX2_put_47 ?_
      refine lv_iload_n hx hb dX2_put_48 rfl (lv_at hl 4 rfl) ?_
      obtain ⟨i_10, hB⟩ := hB
      refine cd_ast X hP hS (k := 14 + n0) (N := 49) (show 14 + n0 < 24 by omega) (fun σ => cdE_deps g σ k_1) i_10 dX2_put_49 (fun H locs hP hS => ?_)
      obtain ⟨σ_11, eσ_11⟩ : ∃ z : cdS, z = cdU σ (14 + n0) (((((r_2 - v2) * (σ.1 (9 + n0) 1)) + r_2) + v1)).toNatClampNeg v3 := ⟨_, rfl⟩
      rw [← eσ_11] at hP
      have hB := hB σ_11 eσ_11
      rw [hQm]
      exact W.vret hx hb hr (fun t ht hW => ⟨⟨σ_11, rfl, hB, cd_hp ht hP⟩, hS.F ht⟩) hS.2.2 dX2_put_50
def wp_X2_copyBent (n0 : Nat) (n1 : Nat) (v2 : Int32) (v3 : Int32) (σ : cdS) (Q : cdS → Prop) : Prop :=
  ∀ (P19 : Int32 → Int32 → cdS → Prop) (P31 : Int32 → Int32 → Int32 → cdS → Prop),
    (∀ (x4 : Int32) (x5 : Int32) (σ : cdS), (
    ((x4 < x5 →
    Q σ) ∧
    (¬ (x4 < x5) →
    ∀ x6_9 : Int32, x6_9 = (-x4) →
    P31 x4 x5 x6_9 σ))) → P19 x4 x5 σ) →
    (∀ (x4 : Int32) (x5 : Int32) (x6 : Int32) (σ : cdS), (
    ((x4 < x6 →
    ∀ x5_11 : Int32, x5_11 = x5 + 1 →
    P19 x4 x5_11 σ) ∧
    (¬ (x4 < x6) →
    n1 < 5 ∧ wp_X2_depthAt n1 (x6 - v2) (x5 - v3) σ (fun r_13 => 
    n0 < 5 ∧ wp_X2_put n0 x6 x5 r_13 σ (fun σ_17 => 
    ∀ x6_18 : Int32, x6_18 = x6 + 1 →
    P31 x4 x5 x6_18 σ_17))))) → P31 x4 x5 x6 σ) →
    
    n1 < 5 ∧ n0 < 5 ∧ wp_X2_resize n0 (σ.1 (9 + n1) 1) σ (fun σ_4 => 
    wp_X2_reach n0 σ_4 (fun r_5 => 
    ∀ x5_7 : Int32, x5_7 = (-r_5) →
    P19 r_5 x5_7 σ_4))
set_option maxHeartbeats 4000000 in
set_option maxRecDepth 100000 in
theorem c_X2_copyBent (l : Launch) (g : cdG) (n0 : Nat) (n1 : Nat) (v2 : Int32) (v3 : Int32) (σ : cdS) (Q : cdS → Prop) (hwp : wp_X2_copyBent n0 n1 v2 v3 σ Q) : cdCv l g yX2_copyBent cX2_copyBent 7 none 2 46 [.ref (cdA g (9 + n0)), .ref (cdA g (9 + n1)), .int v2, .int v3] σ Q := by
  intro sz
  refine Met.ofW (cc := cX2_copyBent) (maxL := 7) (ret := none) (by decide) rfl ?_
  intro p e s m args below meth c s₁ B hml hv
  obtain ⟨rfl, hsz, hP, hK, hdi, hV⟩ := hv
  subst hsz
  have hx := B.exec
  have hb := B.bytes
  have hr := B.returns
  have hlocks := B.notSynchronized
  have hown : s.vm.findClass RX2 = some m.cls := findClass_of_methodNamed B.named
  have hts : ∀ w ∈ cdL, w.before _ s = true := fun w hw => atoms_spec (ws := cdWs yX2_copyBent cX2_copyBent 7 none) B.pre w (List.mem_cons_of_mem _ hw)
  have X : cdX p s m _ c cX2_copyBent 7 RX2 g := ⟨hx, hb, hml, hown, hts, hK, hdi, hV⟩
  have hS : va_S (cdZ g s.heap.size) s.heap s.heap [] := va_S.rf
  have hl := lv_entry ([.ref (cdA g (9 + n0)), .ref (cdA g (9 + n1)), .int v2, .int v3]) (n := 7) (Nat.le_of_ble_eq_true rfl)
  rw [lg_entry_eq]
  generalize (lg_sl ([.ref (cdA g (9 + n0)), .ref (cdA g (9 + n1)), .int v2, .int v3]) ++ List.replicate (7 - (lg_sl ([.ref (cdA g (9 + n0)), .ref (cdA g (9 + n1)), .int v2, .int v3])).length) Slot.unset).toArray = ls at hl ⊢
  have hl : lv_has ls 7 [(0, .ref (cdA g (9 + n0))), (1, .ref (cdA g (9 + n1))), (2, .int v2), (3, .int v3)] := hl
  obtain ⟨Qm, hQm⟩ : ∃ z, z = MQ below (va_Qv Q (fun σ' t => va_P (cdD g) vwCl (cdW g σ') t.heap) (cdZ g s.heap.size)) ([.ref (cdA g (9 + n0)), .ref (cdA g (9 + n1)), .int v2, .int v3] : List Value).toArray s 0 0 (cdZ g s.heap.size) := ⟨_, rfl⟩
  rw [← hQm]
  have hB := hwp (fun (x4 : Int32) (x5 : Int32) (σ : cdS) => cdCut p l e (headSpec (cdWs yX2_copyBent cX2_copyBent 7 none) (cdRm 2 46)).room s m ([.ref (cdA g (9 + n0)), .ref (cdA g (9 + n1)), .int v2, .int v3] : List Value).toArray below meth c Qm g 7 19 [(0, .ref (cdA g (9 + n0))), (1, .ref (cdA g (9 + n1))), (2, .int v2), (3, .int v3), (4, .int x4), (5, .int x5)] [] σ)
    (fun (x4 : Int32) (x5 : Int32) (x6 : Int32) (σ : cdS) => cdCut p l e (headSpec (cdWs yX2_copyBent cX2_copyBent 7 none) (cdRm 2 46)).room s m ([.ref (cdA g (9 + n0)), .ref (cdA g (9 + n1)), .int v2, .int v3] : List Value).toArray below meth c Qm g 7 31 [(0, .ref (cdA g (9 + n0))), (1, .ref (cdA g (9 + n1))), (2, .int v2), (3, .int v3), (4, .int x4), (5, .int x5), (6, .int x6)] [] σ)
    (by
    intro x4 x5 σ hB H locs ls hP hS hl
    refine lv_iload hx hb dX2_copyBent_19 (lv_at hl 5 rfl) ?_
    refine lv_iload hx hb dX2_copyBent_21 (lv_at hl 4 rfl) ?_
    refine lv_icmp_gt (tgt := 70) hx hb dX2_copyBent_23 (by decide) (fun c_8 => ?_) (fun c_8 => ?_)
    · have hB := hB.1 c_8
      rw [hQm]
      exact W.vret hx hb hr (fun t ht hW => ⟨⟨σ, rfl, hB, cd_hp ht hP⟩, hS.F ht⟩) hS.2.2 dX2_copyBent_70
    · have hB := hB.2 c_8
      refine lv_iload hx hb dX2_copyBent_26 (lv_at hl 4 rfl) ?_
      refine lv_ineg hx hb dX2_copyBent_28 ?_
      refine lv_topi (fun x6_9 ex6_9 => ?_)
      have hB := hB x6_9 ex6_9
      refine lv_istore (lv' := [(6, .int x6_9), (0, .ref (cdA g (9 + n0))), (1, .ref (cdA g (9 + n1))), (2, .int v2), (3, .int v3), (4, .int x4), (5, .int x5)]) hx hb dX2_copyBent_29 hl (by decide) rfl (fun ls hl => ?_)
      exact hB _ _ _ hP hS (lv_sub hl [1, 2, 3, 4, 5, 6, 0] rfl))
    (by
    intro x4 x5 x6 σ hB H locs ls hP hS hl
    refine lv_iload hx hb dX2_copyBent_31 (lv_at hl 6 rfl) ?_
    refine lv_iload hx hb dX2_copyBent_33 (lv_at hl 4 rfl) ?_
    refine lv_icmp_gt (tgt := 64) hx hb dX2_copyBent_35 (by decide) (fun c_10 => ?_) (fun c_10 => ?_)
    · have hB := hB.1 c_10
      obtain ⟨x5_11, ex5_11⟩ : ∃ z : Int32, z = x5 + 1 := ⟨_, rfl⟩
      have hB := hB x5_11 ex5_11
      refine lv_iinc (v := x5_11) (lv' := [(5, .int x5_11), (0, .ref (cdA g (9 + n0))), (1, .ref (cdA g (9 + n1))), (2, .int v2), (3, .int v3), (4, .int x4), (6, .int x6)]) hx hb dX2_copyBent_64 hl (k := 5) rfl (by rw [ex5_11]; rfl) (by decide) rfl (fun ls hl => ?_)
      refine lv_goto (tgt := 19) hx hb dX2_copyBent_67 (by decide) ?_
      exact hB _ _ _ hP hS (lv_sub hl [1, 2, 3, 4, 5, 0] rfl)
    · have hB := hB.2 c_10
      refine lv_aload_n hx hb dX2_copyBent_38 rfl (lv_at hl 0 rfl) ?_
      refine lv_iload hx hb dX2_copyBent_39 (lv_at hl 6 rfl) ?_
      refine lv_iload hx hb dX2_copyBent_41 (lv_at hl 5 rfl) ?_
      refine lv_aload_n hx hb dX2_copyBent_43 rfl (lv_at hl 1 rfl) ?_
      refine lv_iload hx hb dX2_copyBent_44 (lv_at hl 6 rfl) ?_
      refine lv_iload_n hx hb dX2_copyBent_46 rfl (lv_at hl 2 rfl) ?_
      refine lv_isub hx hb dX2_copyBent_47 ?_
      refine lv_iload hx hb dX2_copyBent_48 (lv_at hl 5 rfl) ?_
      refine lv_iload_n hx hb dX2_copyBent_50 rfl (lv_at hl 3 rfl) ?_
      refine lv_isub hx hb dX2_copyBent_51 ?_
      obtain ⟨k_12, hB⟩ := hB
      refine cd_ci (cd_runV (As := [.int (x6 - v2), .int (x5 - v3)]) (rest := [.int x5, .int x6, .ref (cdA g (9 + n0))]) (σ := σ) (k := 9 + n1) (ci := 2) X wm_X2_50 (show 9 + n1 < 24 by omega) (cdE_head g σ k_12) rfl rfl (c_X2_depthAt l g n1 (x6 - v2) (x5 - v3) σ _ hB _) hP hS rfl rfl hl.1 (Nat.le_of_ble_eq_true rfl) ⟨Nat.le_of_ble_eq_true rfl, Nat.le_of_ble_eq_true rfl⟩ ⟨Nat.zero_le _, Nat.zero_le _⟩ dX2_copyBent_52) hS (fun r_13 σ_14 H locs hB hP hS => ?_)
      obtain ⟨eσ_14, hB⟩ := hB
      rw [eσ_14] at hP
      obtain ⟨k_15, hB⟩ := hB
      refine cd_cv (cd_runV (As := [.int x6, .int x5, .int r_13]) (rest := []) (σ := σ) (k := 9 + n0) (ci := 2) X wm_X2_46 (show 9 + n0 < 24 by omega) (cdE_head g σ k_15) rfl rfl (c_X2_put l g n0 x6 x5 r_13 σ _ hB _) hP hS rfl rfl hl.1 (Nat.le_of_ble_eq_true rfl) ⟨Nat.le_of_ble_eq_true rfl, Nat.le_of_ble_eq_true rfl⟩ ⟨Nat.zero_le _, Nat.zero_le _⟩ dX2_copyBent_55) hS (fun σ_17 H locs hB hP hS => ?_)
      obtain ⟨x6_18, ex6_18⟩ : ∃ z : Int32, z = x6 + 1 := ⟨_, rfl⟩
      have hB := hB x6_18 ex6_18
      refine lv_iinc (v := x6_18) (lv' := [(6, .int x6_18), (0, .ref (cdA g (9 + n0))), (1, .ref (cdA g (9 + n1))), (2, .int v2), (3, .int v3), (4, .int x4), (5, .int x5)]) hx hb dX2_copyBent_58 hl (k := 6) rfl (by rw [ex6_18]; rfl) (by decide) rfl (fun ls hl => ?_)
      refine lv_goto (tgt := 31) hx hb dX2_copyBent_61 (by decide) ?_
      exact hB _ _ _ hP hS (lv_sub hl [1, 2, 3, 4, 5, 6, 0] rfl))
  refine lv_aload_n hx hb dX2_copyBent_0 rfl (lv_at hl 0 rfl) ?_
  refine lv_aload_n hx hb dX2_copyBent_1 rfl (lv_at hl 1 rfl) ?_
  obtain ⟨k_1, hB⟩ := hB
  refine cd_get X hP (C := RX2) (T := TX2) (N := 2) (ci := 2) (k := 9 + n1) (j := 1) (v := .int (σ.1 (9 + n1) 1)) inX2 (show 9 + n1 < 24 by omega) (cdE_head g σ k_1) rfl (by decide) wf_X2_15 rfl rfl dX2_copyBent_2 ?_
  obtain ⟨k_2, hB⟩ := hB
  refine cd_cv (cd_runV (As := [.int (σ.1 (9 + n1) 1)]) (rest := []) (σ := σ) (k := 9 + n0) (ci := 2) X wm_X2_19 (show 9 + n0 < 24 by omega) (cdE_head g σ k_2) rfl rfl (c_X2_resize l g n0 (σ.1 (9 + n1) 1) σ _ hB _) hP hS rfl rfl hl.1 (Nat.le_of_ble_eq_true rfl) ⟨Nat.le_of_ble_eq_true rfl, Nat.le_of_ble_eq_true rfl⟩ ⟨Nat.zero_le _, Nat.zero_le _⟩ dX2_copyBent_5) hS (fun σ_4 H locs hB hP hS => ?_)
  refine lv_aload_n hx hb dX2_copyBent_8 rfl (lv_at hl 0 rfl) ?_
  refine cd_ci (cd_runV (As := []) (rest := []) (σ := σ_4) (k := 9 + n0) (ci := 2) X wm_X2_38 (show 9 + n0 < 24 by omega) (cdE_head g σ_4 k_2) rfl rfl (c_X2_reach l g n0 σ_4 _ hB _) hP hS rfl rfl hl.1 (Nat.le_of_ble_eq_true rfl) ⟨Nat.le_of_ble_eq_true rfl, Nat.le_of_ble_eq_true rfl⟩ ⟨Nat.zero_le _, Nat.zero_le _⟩ dX2_copyBent_9) hS (fun r_5 σ_6 H locs hB hP hS => ?_)
  obtain ⟨eσ_6, hB⟩ := hB
  rw [eσ_6] at hP
  refine lv_istore (lv' := [(4, .int r_5), (0, .ref (cdA g (9 + n0))), (1, .ref (cdA g (9 + n1))), (2, .int v2), (3, .int v3)]) hx hb dX2_copyBent_12 hl (by decide) rfl (fun ls hl => ?_)
  refine lv_iload hx hb dX2_copyBent_14 (lv_at hl 0 rfl) ?_
  refine lv_ineg hx hb dX2_copyBent_16 ?_
  refine lv_topi (fun x5_7 ex5_7 => ?_)
  have hB := hB x5_7 ex5_7
  refine lv_istore (lv' := [(5, .int x5_7), (4, .int r_5), (0, .ref (cdA g (9 + n0))), (1, .ref (cdA g (9 + n1))), (2, .int v2), (3, .int v3)]) hx hb dX2_copyBent_17 hl (by decide) rfl (fun ls hl => ?_)
  exact hB _ _ _ hP hS (lv_sub hl [2, 3, 4, 5, 1, 0] rfl)
def wp_X2_turnedAt (n0 : Nat) (v1 : Int32) (v2 : Int32) (v3 : Int32) (σ : cdS) (Q : Int32 → Prop) : Prop :=
  
    ((v1 = (1 : Int32) →
    n0 < 5 ∧ wp_X2_depthAt n0 v3 (-v2) σ (fun r_3 => 
    Q r_3)) ∧
    (¬ (v1 = (1 : Int32)) →
    ((v1 = (2 : Int32) →
    n0 < 5 ∧ wp_X2_depthAt n0 (-v2) (-v3) σ (fun r_7 => 
    Q r_7)) ∧
    (¬ (v1 = (2 : Int32)) →
    ((v1 = (3 : Int32) →
    n0 < 5 ∧ wp_X2_depthAt n0 (-v3) v2 σ (fun r_11 => 
    Q r_11)) ∧
    (¬ (v1 = (3 : Int32)) →
    n0 < 5 ∧ wp_X2_depthAt n0 v2 v3 σ (fun r_14 => 
    Q r_14)))))))
set_option maxHeartbeats 4000000 in
set_option maxRecDepth 100000 in
theorem c_X2_turnedAt (l : Launch) (g : cdG) (n0 : Nat) (v1 : Int32) (v2 : Int32) (v3 : Int32) (σ : cdS) (Q : Int32 → Prop) (hwp : wp_X2_turnedAt n0 v1 v2 v3 σ Q) : cdCi l g yX2_turnedAt cX2_turnedAt 4 (some .int) 1 23 [.ref (cdA g (9 + n0)), .int v1, .int v2, .int v3] σ (fun r σ' => σ' = σ ∧ Q r) := by
  intro sz
  refine Met.ofW (cc := cX2_turnedAt) (maxL := 4) (ret := (some .int)) (by decide) rfl ?_
  intro p e s m args below meth c s₁ B hml hv
  obtain ⟨rfl, hsz, hP, hK, hdi, hV⟩ := hv
  subst hsz
  have hx := B.exec
  have hb := B.bytes
  have hr := B.returns
  have hlocks := B.notSynchronized
  have hown : s.vm.findClass RX2 = some m.cls := findClass_of_methodNamed B.named
  have hts : ∀ w ∈ cdL, w.before _ s = true := fun w hw => atoms_spec (ws := cdWs yX2_turnedAt cX2_turnedAt 4 (some .int)) B.pre w (List.mem_cons_of_mem _ hw)
  have X : cdX p s m _ c cX2_turnedAt 4 RX2 g := ⟨hx, hb, hml, hown, hts, hK, hdi, hV⟩
  have hS : va_S (cdZ g s.heap.size) s.heap s.heap [] := va_S.rf
  have hl := lv_entry ([.ref (cdA g (9 + n0)), .int v1, .int v2, .int v3]) (n := 4) (Nat.le_of_ble_eq_true rfl)
  rw [lg_entry_eq]
  generalize (lg_sl ([.ref (cdA g (9 + n0)), .int v1, .int v2, .int v3]) ++ List.replicate (4 - (lg_sl ([.ref (cdA g (9 + n0)), .int v1, .int v2, .int v3])).length) Slot.unset).toArray = ls at hl ⊢
  have hl : lv_has ls 4 [(0, .ref (cdA g (9 + n0))), (1, .int v1), (2, .int v2), (3, .int v3)] := hl
  obtain ⟨Qm, hQm⟩ : ∃ z, z = MQ below (va_Qi (fun r σ' => σ' = σ ∧ Q r) (fun σ' t => va_P (cdD g) vwCl (cdW g σ') t.heap) (cdZ g s.heap.size)) ([.ref (cdA g (9 + n0)), .int v1, .int v2, .int v3] : List Value).toArray s 0 0 (cdZ g s.heap.size) := ⟨_, rfl⟩
  rw [← hQm]
  have hB := hwp
  refine lv_iload_n hx hb dX2_turnedAt_0 rfl (lv_at hl 1 rfl) ?_
  by_cases c_1 : v1 = (1 : Int32)
  · have hB := hB.1 c_1
    refine lv_tableIn (tgt := 28) hx hb dX2_turnedAt_1 (by rw [c_1]; decide) (by rw [c_1]; decide) (by rw [c_1]; rfl) (by decide) ?_
    refine lv_aload_n hx hb dX2_turnedAt_28 rfl (lv_at hl 0 rfl) ?_
    refine lv_iload_n hx hb dX2_turnedAt_29 rfl (lv_at hl 3 rfl) ?_
    refine lv_iload_n hx hb dX2_turnedAt_30 rfl (lv_at hl 2 rfl) ?_
    refine lv_ineg hx hb dX2_turnedAt_31 ?_
    obtain ⟨k_2, hB⟩ := hB
    refine cd_ci (cd_runV (As := [.int v3, .int (-v2)]) (rest := []) (σ := σ) (k := 9 + n0) (ci := 2) X wm_X2_50 (show 9 + n0 < 24 by omega) (cdE_head g σ k_2) rfl rfl (c_X2_depthAt l g n0 v3 (-v2) σ _ hB _) hP hS rfl rfl hl.1 (Nat.le_of_ble_eq_true rfl) ⟨Nat.le_of_ble_eq_true rfl, Nat.le_of_ble_eq_true rfl⟩ ⟨Nat.zero_le _, Nat.zero_le _⟩ dX2_turnedAt_32) hS (fun r_3 σ_4 H locs hB hP hS => ?_)
    obtain ⟨eσ_4, hB⟩ := hB
    rw [eσ_4] at hP
    rw [hQm]
    exact W.iret hx hb hr (fun t ht hW => ⟨⟨r_3, σ, rfl, ⟨rfl, hB⟩, cd_hp ht hP⟩, hS.F ht⟩) hS.2.2 dX2_turnedAt_35
  · have hB := hB.2 c_1
    by_cases c_5 : v1 = (2 : Int32)
    · have hB := hB.1 c_5
      refine lv_tableIn (tgt := 36) hx hb dX2_turnedAt_1 (by rw [c_5]; decide) (by rw [c_5]; decide) (by rw [c_5]; rfl) (by decide) ?_
      refine lv_aload_n hx hb dX2_turnedAt_36 rfl (lv_at hl 0 rfl) ?_
      refine lv_iload_n hx hb dX2_turnedAt_37 rfl (lv_at hl 2 rfl) ?_
      refine lv_ineg hx hb dX2_turnedAt_38 ?_
      refine lv_iload_n hx hb dX2_turnedAt_39 rfl (lv_at hl 3 rfl) ?_
      refine lv_ineg hx hb dX2_turnedAt_40 ?_
      obtain ⟨k_6, hB⟩ := hB
      refine cd_ci (cd_runV (As := [.int (-v2), .int (-v3)]) (rest := []) (σ := σ) (k := 9 + n0) (ci := 2) X wm_X2_50 (show 9 + n0 < 24 by omega) (cdE_head g σ k_6) rfl rfl (c_X2_depthAt l g n0 (-v2) (-v3) σ _ hB _) hP hS rfl rfl hl.1 (Nat.le_of_ble_eq_true rfl) ⟨Nat.le_of_ble_eq_true rfl, Nat.le_of_ble_eq_true rfl⟩ ⟨Nat.zero_le _, Nat.zero_le _⟩ dX2_turnedAt_41) hS (fun r_7 σ_8 H locs hB hP hS => ?_)
      obtain ⟨eσ_8, hB⟩ := hB
      rw [eσ_8] at hP
      rw [hQm]
      exact W.iret hx hb hr (fun t ht hW => ⟨⟨r_7, σ, rfl, ⟨rfl, hB⟩, cd_hp ht hP⟩, hS.F ht⟩) hS.2.2 dX2_turnedAt_44
    · have hB := hB.2 c_5
      by_cases c_9 : v1 = (3 : Int32)
      · have hB := hB.1 c_9
        refine lv_tableIn (tgt := 45) hx hb dX2_turnedAt_1 (by rw [c_9]; decide) (by rw [c_9]; decide) (by rw [c_9]; rfl) (by decide) ?_
        refine lv_aload_n hx hb dX2_turnedAt_45 rfl (lv_at hl 0 rfl) ?_
        refine lv_iload_n hx hb dX2_turnedAt_46 rfl (lv_at hl 3 rfl) ?_
        refine lv_ineg hx hb dX2_turnedAt_47 ?_
        refine lv_iload_n hx hb dX2_turnedAt_48 rfl (lv_at hl 2 rfl) ?_
        obtain ⟨k_10, hB⟩ := hB
        refine cd_ci (cd_runV (As := [.int (-v3), .int v2]) (rest := []) (σ := σ) (k := 9 + n0) (ci := 2) X wm_X2_50 (show 9 + n0 < 24 by omega) (cdE_head g σ k_10) rfl rfl (c_X2_depthAt l g n0 (-v3) v2 σ _ hB _) hP hS rfl rfl hl.1 (Nat.le_of_ble_eq_true rfl) ⟨Nat.le_of_ble_eq_true rfl, Nat.le_of_ble_eq_true rfl⟩ ⟨Nat.zero_le _, Nat.zero_le _⟩ dX2_turnedAt_49) hS (fun r_11 σ_12 H locs hB hP hS => ?_)
        obtain ⟨eσ_12, hB⟩ := hB
        rw [eσ_12] at hP
        rw [hQm]
        exact W.iret hx hb hr (fun t ht hW => ⟨⟨r_11, σ, rfl, ⟨rfl, hB⟩, cd_hp ht hP⟩, hS.F ht⟩) hS.2.2 dX2_turnedAt_52
      · have hB := hB.2 c_9
        have qc_1 := cd_ni (z := 1) (by decide) c_1
        have qc_5 := cd_ni (z := 2) (by decide) c_5
        have qc_9 := cd_ni (z := 3) (by decide) c_9
        refine lv_tableOut (tgt := 53) hx hb dX2_turnedAt_1 (by omega) (by decide) ?_
        refine lv_aload_n hx hb dX2_turnedAt_53 rfl (lv_at hl 0 rfl) ?_
        refine lv_iload_n hx hb dX2_turnedAt_54 rfl (lv_at hl 2 rfl) ?_
        refine lv_iload_n hx hb dX2_turnedAt_55 rfl (lv_at hl 3 rfl) ?_
        obtain ⟨k_13, hB⟩ := hB
        refine cd_ci (cd_runV (As := [.int v2, .int v3]) (rest := []) (σ := σ) (k := 9 + n0) (ci := 2) X wm_X2_50 (show 9 + n0 < 24 by omega) (cdE_head g σ k_13) rfl rfl (c_X2_depthAt l g n0 v2 v3 σ _ hB _) hP hS rfl rfl hl.1 (Nat.le_of_ble_eq_true rfl) ⟨Nat.le_of_ble_eq_true rfl, Nat.le_of_ble_eq_true rfl⟩ ⟨Nat.zero_le _, Nat.zero_le _⟩ dX2_turnedAt_56) hS (fun r_14 σ_15 H locs hB hP hS => ?_)
        obtain ⟨eσ_15, hB⟩ := hB
        rw [eσ_15] at hP
        rw [hQm]
        exact W.iret hx hb hr (fun t ht hW => ⟨⟨r_14, σ, rfl, ⟨rfl, hB⟩, cd_hp ht hP⟩, hS.F ht⟩) hS.2.2 dX2_turnedAt_59
def wp_X2_copyTurned (n0 : Nat) (n1 : Nat) (v2 : Int32) (v3 : Int32) (σ : cdS) (Q : cdS → Prop) : Prop :=
  ∀ (P19 : Int32 → Int32 → cdS → Prop) (P31 : Int32 → Int32 → Int32 → cdS → Prop) (P57 : Int32 → Int32 → Int32 → Int32 → Int32 → Int32 → Int32 → cdS → Prop),
    (∀ (x4 : Int32) (x5 : Int32) (σ : cdS), (
    ((x4 < x5 →
    Q σ) ∧
    (¬ (x4 < x5) →
    ∀ x6_9 : Int32, x6_9 = (-x4) →
    P31 x4 x5 x6_9 σ))) → P19 x4 x5 σ) →
    (∀ (x4 : Int32) (x5 : Int32) (x6 : Int32) (σ : cdS), (
    ((x4 < x6 →
    ∀ x5_11 : Int32, x5_11 = x5 + 1 →
    P19 x4 x5_11 σ) ∧
    (¬ (x4 < x6) →
    ((v3 = 0 →
    P57 x4 x5 x6 x6 v2 x5 x6 σ) ∧
    (¬ (v3 = 0) →
    P57 x4 x5 x6 (-x6) v2 x5 x6 σ))))) → P31 x4 x5 x6 σ) →
    (∀ (x4 : Int32) (x5 : Int32) (x6 : Int32) (t0 : Int32) (t1 : Int32) (t3 : Int32) (t4 : Int32) (σ : cdS), (
    n1 < 5 ∧ wp_X2_turnedAt n1 t1 t0 x5 σ (fun r_14 => 
    n0 < 5 ∧ wp_X2_put n0 t4 t3 r_14 σ (fun σ_18 => 
    ∀ x6_19 : Int32, x6_19 = x6 + 1 →
    P31 x4 x5 x6_19 σ_18))) → P57 x4 x5 x6 t0 t1 t3 t4 σ) →
    
    n1 < 5 ∧ n0 < 5 ∧ wp_X2_resize n0 (σ.1 (9 + n1) 1) σ (fun σ_4 => 
    wp_X2_reach n0 σ_4 (fun r_5 => 
    ∀ x5_7 : Int32, x5_7 = (-r_5) →
    P19 r_5 x5_7 σ_4))
set_option maxHeartbeats 4000000 in
set_option maxRecDepth 100000 in
theorem c_X2_copyTurned (l : Launch) (g : cdG) (n0 : Nat) (n1 : Nat) (v2 : Int32) (v3 : Int32) (σ : cdS) (Q : cdS → Prop) (hwp : wp_X2_copyTurned n0 n1 v2 v3 σ Q) : cdCv l g yX2_copyTurned cX2_copyTurned 7 none 2 46 [.ref (cdA g (9 + n0)), .ref (cdA g (9 + n1)), .int v2, .int v3] σ Q := by
  intro sz
  refine Met.ofW (cc := cX2_copyTurned) (maxL := 7) (ret := none) (by decide) rfl ?_
  intro p e s m args below meth c s₁ B hml hv
  obtain ⟨rfl, hsz, hP, hK, hdi, hV⟩ := hv
  subst hsz
  have hx := B.exec
  have hb := B.bytes
  have hr := B.returns
  have hlocks := B.notSynchronized
  have hown : s.vm.findClass RX2 = some m.cls := findClass_of_methodNamed B.named
  have hts : ∀ w ∈ cdL, w.before _ s = true := fun w hw => atoms_spec (ws := cdWs yX2_copyTurned cX2_copyTurned 7 none) B.pre w (List.mem_cons_of_mem _ hw)
  have X : cdX p s m _ c cX2_copyTurned 7 RX2 g := ⟨hx, hb, hml, hown, hts, hK, hdi, hV⟩
  have hS : va_S (cdZ g s.heap.size) s.heap s.heap [] := va_S.rf
  have hl := lv_entry ([.ref (cdA g (9 + n0)), .ref (cdA g (9 + n1)), .int v2, .int v3]) (n := 7) (Nat.le_of_ble_eq_true rfl)
  rw [lg_entry_eq]
  generalize (lg_sl ([.ref (cdA g (9 + n0)), .ref (cdA g (9 + n1)), .int v2, .int v3]) ++ List.replicate (7 - (lg_sl ([.ref (cdA g (9 + n0)), .ref (cdA g (9 + n1)), .int v2, .int v3])).length) Slot.unset).toArray = ls at hl ⊢
  have hl : lv_has ls 7 [(0, .ref (cdA g (9 + n0))), (1, .ref (cdA g (9 + n1))), (2, .int v2), (3, .int v3)] := hl
  obtain ⟨Qm, hQm⟩ : ∃ z, z = MQ below (va_Qv Q (fun σ' t => va_P (cdD g) vwCl (cdW g σ') t.heap) (cdZ g s.heap.size)) ([.ref (cdA g (9 + n0)), .ref (cdA g (9 + n1)), .int v2, .int v3] : List Value).toArray s 0 0 (cdZ g s.heap.size) := ⟨_, rfl⟩
  rw [← hQm]
  have hB := hwp (fun (x4 : Int32) (x5 : Int32) (σ : cdS) => cdCut p l e (headSpec (cdWs yX2_copyTurned cX2_copyTurned 7 none) (cdRm 2 46)).room s m ([.ref (cdA g (9 + n0)), .ref (cdA g (9 + n1)), .int v2, .int v3] : List Value).toArray below meth c Qm g 7 19 [(0, .ref (cdA g (9 + n0))), (1, .ref (cdA g (9 + n1))), (2, .int v2), (3, .int v3), (4, .int x4), (5, .int x5)] [] σ)
    (fun (x4 : Int32) (x5 : Int32) (x6 : Int32) (σ : cdS) => cdCut p l e (headSpec (cdWs yX2_copyTurned cX2_copyTurned 7 none) (cdRm 2 46)).room s m ([.ref (cdA g (9 + n0)), .ref (cdA g (9 + n1)), .int v2, .int v3] : List Value).toArray below meth c Qm g 7 31 [(0, .ref (cdA g (9 + n0))), (1, .ref (cdA g (9 + n1))), (2, .int v2), (3, .int v3), (4, .int x4), (5, .int x5), (6, .int x6)] [] σ)
    (fun (x4 : Int32) (x5 : Int32) (x6 : Int32) (t0 : Int32) (t1 : Int32) (t3 : Int32) (t4 : Int32) (σ : cdS) => cdCut p l e (headSpec (cdWs yX2_copyTurned cX2_copyTurned 7 none) (cdRm 2 46)).room s m ([.ref (cdA g (9 + n0)), .ref (cdA g (9 + n1)), .int v2, .int v3] : List Value).toArray below meth c Qm g 7 57 [(0, .ref (cdA g (9 + n0))), (1, .ref (cdA g (9 + n1))), (2, .int v2), (3, .int v3), (4, .int x4), (5, .int x5), (6, .int x6)] [.int t0, .int t1, .ref (cdA g (9 + n1)), .int t3, .int t4, .ref (cdA g (9 + n0))] σ)
    (by
    intro x4 x5 σ hB H locs ls hP hS hl
    refine lv_iload hx hb dX2_copyTurned_19 (lv_at hl 5 rfl) ?_
    refine lv_iload hx hb dX2_copyTurned_21 (lv_at hl 4 rfl) ?_
    refine lv_icmp_gt (tgt := 77) hx hb dX2_copyTurned_23 (by decide) (fun c_8 => ?_) (fun c_8 => ?_)
    · have hB := hB.1 c_8
      rw [hQm]
      exact W.vret hx hb hr (fun t ht hW => ⟨⟨σ, rfl, hB, cd_hp ht hP⟩, hS.F ht⟩) hS.2.2 dX2_copyTurned_77
    · have hB := hB.2 c_8
      refine lv_iload hx hb dX2_copyTurned_26 (lv_at hl 4 rfl) ?_
      refine lv_ineg hx hb dX2_copyTurned_28 ?_
      refine lv_topi (fun x6_9 ex6_9 => ?_)
      have hB := hB x6_9 ex6_9
      refine lv_istore (lv' := [(6, .int x6_9), (0, .ref (cdA g (9 + n0))), (1, .ref (cdA g (9 + n1))), (2, .int v2), (3, .int v3), (4, .int x4), (5, .int x5)]) hx hb dX2_copyTurned_29 hl (by decide) rfl (fun ls hl => ?_)
      exact hB _ _ _ hP hS (lv_sub hl [1, 2, 3, 4, 5, 6, 0] rfl))
    (by
    intro x4 x5 x6 σ hB H locs ls hP hS hl
    refine lv_iload hx hb dX2_copyTurned_31 (lv_at hl 6 rfl) ?_
    refine lv_iload hx hb dX2_copyTurned_33 (lv_at hl 4 rfl) ?_
    refine lv_icmp_gt (tgt := 71) hx hb dX2_copyTurned_35 (by decide) (fun c_10 => ?_) (fun c_10 => ?_)
    · have hB := hB.1 c_10
      obtain ⟨x5_11, ex5_11⟩ : ∃ z : Int32, z = x5 + 1 := ⟨_, rfl⟩
      have hB := hB x5_11 ex5_11
      refine lv_iinc (v := x5_11) (lv' := [(5, .int x5_11), (0, .ref (cdA g (9 + n0))), (1, .ref (cdA g (9 + n1))), (2, .int v2), (3, .int v3), (4, .int x4), (6, .int x6)]) hx hb dX2_copyTurned_71 hl (k := 5) rfl (by rw [ex5_11]; rfl) (by decide) rfl (fun ls hl => ?_)
      refine lv_goto (tgt := 19) hx hb dX2_copyTurned_74 (by decide) ?_
      exact hB _ _ _ hP hS (lv_sub hl [1, 2, 3, 4, 5, 0] rfl)
    · have hB := hB.2 c_10
      refine lv_aload_n hx hb dX2_copyTurned_38 rfl (lv_at hl 0 rfl) ?_
      refine lv_iload hx hb dX2_copyTurned_39 (lv_at hl 6 rfl) ?_
      refine lv_iload hx hb dX2_copyTurned_41 (lv_at hl 5 rfl) ?_
      refine lv_aload_n hx hb dX2_copyTurned_43 rfl (lv_at hl 1 rfl) ?_
      refine lv_iload_n hx hb dX2_copyTurned_44 rfl (lv_at hl 2 rfl) ?_
      refine lv_iload_n hx hb dX2_copyTurned_45 rfl (lv_at hl 3 rfl) ?_
      refine lv_if_eq (tgt := 55) hx hb dX2_copyTurned_46 (by decide) (fun c_12 => ?_) (fun c_12 => ?_)
      · have hB := hB.1 c_12
        refine lv_iload hx hb dX2_copyTurned_55 (lv_at hl 6 rfl) ?_
        exact hB _ _ _ hP hS (lv_sub hl [0, 1, 2, 3, 4, 5, 6] rfl)
      · have hB := hB.2 c_12
        refine lv_iload hx hb dX2_copyTurned_49 (lv_at hl 6 rfl) ?_
        refine lv_ineg hx hb dX2_copyTurned_51 ?_
        refine lv_goto (tgt := 57) hx hb dX2_copyTurned_52 (by decide) ?_
        exact hB _ _ _ hP hS (lv_sub hl [0, 1, 2, 3, 4, 5, 6] rfl))
    (by
    intro x4 x5 x6 t0 t1 t3 t4 σ hB H locs ls hP hS hl
    refine lv_iload hx hb dX2_copyTurned_57 (lv_at hl 5 rfl) ?_
    obtain ⟨k_13, hB⟩ := hB
    refine cd_ci (cd_runV (As := [.int t1, .int t0, .int x5]) (rest := [.int t3, .int t4, .ref (cdA g (9 + n0))]) (σ := σ) (k := 9 + n1) (ci := 2) X wm_X2_42 (show 9 + n1 < 24 by omega) (cdE_head g σ k_13) rfl rfl (c_X2_turnedAt l g n1 t1 t0 x5 σ _ hB _) hP hS rfl rfl hl.1 (Nat.le_of_ble_eq_true rfl) ⟨Nat.le_of_ble_eq_true rfl, Nat.le_of_ble_eq_true rfl⟩ ⟨Nat.zero_le _, Nat.zero_le _⟩ dX2_copyTurned_59) hS (fun r_14 σ_15 H locs hB hP hS => ?_)
    obtain ⟨eσ_15, hB⟩ := hB
    rw [eσ_15] at hP
    obtain ⟨k_16, hB⟩ := hB
    refine cd_cv (cd_runV (As := [.int t4, .int t3, .int r_14]) (rest := []) (σ := σ) (k := 9 + n0) (ci := 2) X wm_X2_46 (show 9 + n0 < 24 by omega) (cdE_head g σ k_16) rfl rfl (c_X2_put l g n0 t4 t3 r_14 σ _ hB _) hP hS rfl rfl hl.1 (Nat.le_of_ble_eq_true rfl) ⟨Nat.le_of_ble_eq_true rfl, Nat.le_of_ble_eq_true rfl⟩ ⟨Nat.zero_le _, Nat.zero_le _⟩ dX2_copyTurned_62) hS (fun σ_18 H locs hB hP hS => ?_)
    obtain ⟨x6_19, ex6_19⟩ : ∃ z : Int32, z = x6 + 1 := ⟨_, rfl⟩
    have hB := hB x6_19 ex6_19
    refine lv_iinc (v := x6_19) (lv' := [(6, .int x6_19), (0, .ref (cdA g (9 + n0))), (1, .ref (cdA g (9 + n1))), (2, .int v2), (3, .int v3), (4, .int x4), (5, .int x5)]) hx hb dX2_copyTurned_65 hl (k := 6) rfl (by rw [ex6_19]; rfl) (by decide) rfl (fun ls hl => ?_)
    refine lv_goto (tgt := 31) hx hb dX2_copyTurned_68 (by decide) ?_
    exact hB _ _ _ hP hS (lv_sub hl [1, 2, 3, 4, 5, 6, 0] rfl))
  refine lv_aload_n hx hb dX2_copyTurned_0 rfl (lv_at hl 0 rfl) ?_
  refine lv_aload_n hx hb dX2_copyTurned_1 rfl (lv_at hl 1 rfl) ?_
  obtain ⟨k_1, hB⟩ := hB
  refine cd_get X hP (C := RX2) (T := TX2) (N := 2) (ci := 2) (k := 9 + n1) (j := 1) (v := .int (σ.1 (9 + n1) 1)) inX2 (show 9 + n1 < 24 by omega) (cdE_head g σ k_1) rfl (by decide) wf_X2_15 rfl rfl dX2_copyTurned_2 ?_
  obtain ⟨k_2, hB⟩ := hB
  refine cd_cv (cd_runV (As := [.int (σ.1 (9 + n1) 1)]) (rest := []) (σ := σ) (k := 9 + n0) (ci := 2) X wm_X2_19 (show 9 + n0 < 24 by omega) (cdE_head g σ k_2) rfl rfl (c_X2_resize l g n0 (σ.1 (9 + n1) 1) σ _ hB _) hP hS rfl rfl hl.1 (Nat.le_of_ble_eq_true rfl) ⟨Nat.le_of_ble_eq_true rfl, Nat.le_of_ble_eq_true rfl⟩ ⟨Nat.zero_le _, Nat.zero_le _⟩ dX2_copyTurned_5) hS (fun σ_4 H locs hB hP hS => ?_)
  refine lv_aload_n hx hb dX2_copyTurned_8 rfl (lv_at hl 0 rfl) ?_
  refine cd_ci (cd_runV (As := []) (rest := []) (σ := σ_4) (k := 9 + n0) (ci := 2) X wm_X2_38 (show 9 + n0 < 24 by omega) (cdE_head g σ_4 k_2) rfl rfl (c_X2_reach l g n0 σ_4 _ hB _) hP hS rfl rfl hl.1 (Nat.le_of_ble_eq_true rfl) ⟨Nat.le_of_ble_eq_true rfl, Nat.le_of_ble_eq_true rfl⟩ ⟨Nat.zero_le _, Nat.zero_le _⟩ dX2_copyTurned_9) hS (fun r_5 σ_6 H locs hB hP hS => ?_)
  obtain ⟨eσ_6, hB⟩ := hB
  rw [eσ_6] at hP
  refine lv_istore (lv' := [(4, .int r_5), (0, .ref (cdA g (9 + n0))), (1, .ref (cdA g (9 + n1))), (2, .int v2), (3, .int v3)]) hx hb dX2_copyTurned_12 hl (by decide) rfl (fun ls hl => ?_)
  refine lv_iload hx hb dX2_copyTurned_14 (lv_at hl 0 rfl) ?_
  refine lv_ineg hx hb dX2_copyTurned_16 ?_
  refine lv_topi (fun x5_7 ex5_7 => ?_)
  have hB := hB x5_7 ex5_7
  refine lv_istore (lv' := [(5, .int x5_7), (4, .int r_5), (0, .ref (cdA g (9 + n0))), (1, .ref (cdA g (9 + n1))), (2, .int v2), (3, .int v3)]) hx hb dX2_copyTurned_17 hl (by decide) rfl (fun ls hl => ?_)
  exact hB _ _ _ hP hS (lv_sub hl [2, 3, 4, 5, 1, 0] rfl)
def wp_X2_greatest (n0 : Nat) (σ : cdS) (Q : Int32 → Prop) : Prop :=
  ∀ (P4 : Int32 → Int32 → Prop),
    (∀ (x1 : Int32) (x2 : Int32), (
    n0 < 5 ∧ ((((σ.1 (9 + n0) 1) * (σ.1 (9 + n0) 1)) ≤ x2 →
    Q x1) ∧
    (¬ (((σ.1 (9 + n0) 1) * (σ.1 (9 + n0) 1)) ≤ x2) →
    vp_in x2 49 ∧
    ∀ x1_4 : Int32, x1_4 = (if x1 < (σ.1 (14 + n0) (x2).toNatClampNeg) then (σ.1 (14 + n0) (x2).toNatClampNeg) else x1) →
    ∀ x2_5 : Int32, x2_5 = x2 + 1 →
    P4 x1_4 x2_5))) → P4 x1 x2) →
    
    P4 (0 : Int32) (0 : Int32)
set_option maxHeartbeats 4000000 in
set_option maxRecDepth 100000 in
theorem c_X2_greatest (l : Launch) (g : cdG) (n0 : Nat) (σ : cdS) (Q : Int32 → Prop) (hwp : wp_X2_greatest n0 σ Q) : cdCi l g yX2_greatest cX2_greatest 3 (some .int) 1 21 [.ref (cdA g (9 + n0))] σ (fun r σ' => σ' = σ ∧ Q r) := by
  intro sz
  refine Met.ofW (cc := cX2_greatest) (maxL := 3) (ret := (some .int)) (by decide) rfl ?_
  intro p e s m args below meth c s₁ B hml hv
  obtain ⟨rfl, hsz, hP, hK, hdi, hV⟩ := hv
  subst hsz
  have hx := B.exec
  have hb := B.bytes
  have hr := B.returns
  have hlocks := B.notSynchronized
  have hown : s.vm.findClass RX2 = some m.cls := findClass_of_methodNamed B.named
  have hts : ∀ w ∈ cdL, w.before _ s = true := fun w hw => atoms_spec (ws := cdWs yX2_greatest cX2_greatest 3 (some .int)) B.pre w (List.mem_cons_of_mem _ hw)
  have X : cdX p s m _ c cX2_greatest 3 RX2 g := ⟨hx, hb, hml, hown, hts, hK, hdi, hV⟩
  have hS : va_S (cdZ g s.heap.size) s.heap s.heap [] := va_S.rf
  have hl := lv_entry ([.ref (cdA g (9 + n0))]) (n := 3) (Nat.le_of_ble_eq_true rfl)
  rw [lg_entry_eq]
  generalize (lg_sl ([.ref (cdA g (9 + n0))]) ++ List.replicate (3 - (lg_sl ([.ref (cdA g (9 + n0))])).length) Slot.unset).toArray = ls at hl ⊢
  have hl : lv_has ls 3 [(0, .ref (cdA g (9 + n0)))] := hl
  obtain ⟨Qm, hQm⟩ : ∃ z, z = MQ below (va_Qi (fun r σ' => σ' = σ ∧ Q r) (fun σ' t => va_P (cdD g) vwCl (cdW g σ') t.heap) (cdZ g s.heap.size)) ([.ref (cdA g (9 + n0))] : List Value).toArray s 0 0 (cdZ g s.heap.size) := ⟨_, rfl⟩
  rw [← hQm]
  have hB := hwp (fun (x1 : Int32) (x2 : Int32) => cdCut p l e (headSpec (cdWs yX2_greatest cX2_greatest 3 (some .int)) (cdRm 1 21)).room s m ([.ref (cdA g (9 + n0))] : List Value).toArray below meth c Qm g 3 4 [(0, .ref (cdA g (9 + n0))), (1, .int x1), (2, .int x2)] [] σ)
    (by
    intro x1 x2 hB H locs ls hP hS hl
    refine lv_iload_n hx hb dX2_greatest_4 rfl (lv_at hl 2 rfl) ?_
    refine lv_aload_n hx hb dX2_greatest_5 rfl (lv_at hl 0 rfl) ?_
    obtain ⟨k_1, hB⟩ := hB
    refine cd_get X hP (C := RX2) (T := TX2) (N := 2) (ci := 2) (k := 9 + n0) (j := 1) (v := .int (σ.1 (9 + n0) 1)) inX2 (show 9 + n0 < 24 by omega) (cdE_head g σ k_1) rfl (by decide) wf_X2_15 rfl rfl dX2_greatest_6 ?_
    refine lv_aload_n hx hb dX2_greatest_9 rfl (lv_at hl 0 rfl) ?_
    refine cd_get X hP (C := RX2) (T := TX2) (N := 2) (ci := 2) (k := 9 + n0) (j := 1) (v := .int (σ.1 (9 + n0) 1)) inX2 (show 9 + n0 < 24 by omega) (cdE_head g σ k_1) rfl (by decide) wf_X2_15 rfl rfl dX2_greatest_10 ?_
    refine lv_imul hx hb dX2_greatest_13 ?_
    refine lv_icmp_ge (tgt := 34) hx hb dX2_greatest_14 (by decide) (fun c_2 => ?_) (fun c_2 => ?_)
    · have hB := hB.1 c_2
      refine lv_iload_n hx hb dX2_greatest_34 rfl (lv_at hl 1 rfl) ?_
      rw [hQm]
      exact W.iret hx hb hr (fun t ht hW => ⟨⟨x1, σ, rfl, ⟨rfl, hB⟩, cd_hp ht hP⟩, hS.F ht⟩) hS.2.2 dX2_greatest_35
    · have hB := hB.2 c_2
      refine lv_iload_n hx hb dX2_greatest_17 rfl (lv_at hl 1 rfl) ?_
      refine lv_aload_n hx hb dX2_greatest_18 rfl (lv_at hl 0 rfl) ?_
      refine cd_get X hP (C := RX2) (T := TX2) (N := 2) (ci := 2) (k := 9 + n0) (j := 0) (v := .ref (cdA g (14 + n0))) inX2 (show 9 + n0 < 24 by omega) (cdE_head g σ k_1) rfl (by decide) wf_X2_11 rfl rfl dX2_greatest_19 ?_
      refine lv_iload_n hx hb dX2_greatest_22 rfl (lv_at hl 2 rfl) ?_
      obtain ⟨i_3, hB⟩ := hB
      refine cd_ald X hP (k := 14 + n0) (N := 49) (show 14 + n0 < 24 by omega) (cdE_deps g σ k_1) i_3 dX2_greatest_23 ?_
      refine va_mmax hx hb (hml.trans hl.1.symm) hown (hts _ wm_X2_32) (hts _ ws_max) (hts _ wi_Math) (hts _ wk_max) (Nat.le_of_ble_eq_true rfl) (Nat.le_of_ble_eq_true rfl) (Nat.zero_le _) (Nat.zero_le _) dX2_greatest_24 ?_
      refine lv_topi (fun x1_4 ex1_4 => ?_)
      have hB := hB x1_4 ex1_4
      refine lv_istore_n (lv' := [(1, .int x1_4), (0, .ref (cdA g (9 + n0))), (2, .int x2)]) hx hb dX2_greatest_27 rfl hl (by decide) rfl (fun ls hl => ?_)
      obtain ⟨x2_5, ex2_5⟩ : ∃ z : Int32, z = x2 + 1 := ⟨_, rfl⟩
      have hB := hB x2_5 ex2_5
      refine lv_iinc (v := x2_5) (lv' := [(2, .int x2_5), (1, .int x1_4), (0, .ref (cdA g (9 + n0)))]) hx hb dX2_greatest_28 hl (k := 2) rfl (by rw [ex2_5]; rfl) (by decide) rfl (fun ls hl => ?_)
      refine lv_goto (tgt := 4) hx hb dX2_greatest_31 (by decide) ?_
      exact hB _ _ _ hP hS (lv_sub hl [2, 1, 0] rfl))
  refine lv_iconst (v := 0) hx hb dX2_greatest_0 (by decide) ?_
  refine lv_istore_n (lv' := [(1, .int (0 : Int32)), (0, .ref (cdA g (9 + n0)))]) hx hb dX2_greatest_1 rfl hl (by decide) rfl (fun ls hl => ?_)
  refine lv_iconst (v := 0) hx hb dX2_greatest_2 (by decide) ?_
  refine lv_istore_n (lv' := [(2, .int (0 : Int32)), (1, .int (0 : Int32)), (0, .ref (cdA g (9 + n0)))]) hx hb dX2_greatest_3 rfl hl (by decide) rfl (fun ls hl => ?_)
  exact hB _ _ _ hP hS (lv_sub hl [2, 1, 0] rfl)
def wp_X2_isSame (n0 : Nat) (v1 : Int32) (v2 : Int32) (σ : cdS) (Q : Int32 → Prop) : Prop :=
  ∀ (P9 : Int32 → Int32 → Prop) (P19 : Int32 → Int32 → Int32 → Prop) (P47 : Int32 → Int32 → Int32 → Int32 → Int32 → Int32 → Prop),
    (∀ (x3 : Int32) (x4 : Int32), (
    ((x3 < x4 →
    Q (1 : Int32)) ∧
    (¬ (x3 < x4) →
    ∀ x5_6 : Int32, x5_6 = (-x3) →
    P19 x3 x4 x5_6))) → P9 x3 x4) →
    (∀ (x3 : Int32) (x4 : Int32) (x5 : Int32), (
    ((x3 < x5 →
    ∀ x4_8 : Int32, x4_8 = x4 + 1 →
    P9 x3 x4_8) ∧
    (¬ (x3 < x5) →
    n0 < 5 ∧ wp_X2_depthAt n0 x5 x4 σ (fun r_10 => 
    ((v2 = 0 →
    P47 x3 x4 x5 x5 v1 r_10) ∧
    (¬ (v2 = 0) →
    P47 x3 x4 x5 (-x5) v1 r_10)))))) → P19 x3 x4 x5) →
    (∀ (x3 : Int32) (x4 : Int32) (x5 : Int32) (t0 : Int32) (t1 : Int32) (t3 : Int32), (
    n0 < 5 ∧ wp_X2_turnedAt n0 t1 t0 x4 σ (fun r_14 => 
    ((t3 = r_14 →
    ∀ x5_17 : Int32, x5_17 = x5 + 1 →
    P19 x3 x4 x5_17) ∧
    (¬ (t3 = r_14) →
    Q (0 : Int32))))) → P47 x3 x4 x5 t0 t1 t3) →
    
    n0 < 5 ∧ wp_X2_reach n0 σ (fun r_2 => 
    ∀ x4_4 : Int32, x4_4 = (-r_2) →
    P9 r_2 x4_4)
set_option maxHeartbeats 4000000 in
set_option maxRecDepth 100000 in
theorem c_X2_isSame (l : Launch) (g : cdG) (n0 : Nat) (v1 : Int32) (v2 : Int32) (σ : cdS) (Q : Int32 → Prop) (hwp : wp_X2_isSame n0 v1 v2 σ Q) : cdCi l g yX2_isSame cX2_isSame 6 (some .boolean) 2 46 [.ref (cdA g (9 + n0)), .int v1, .int v2] σ (fun r σ' => σ' = σ ∧ Q r) := by
  intro sz
  refine Met.ofW (cc := cX2_isSame) (maxL := 6) (ret := (some .boolean)) (by decide) rfl ?_
  intro p e s m args below meth c s₁ B hml hv
  obtain ⟨rfl, hsz, hP, hK, hdi, hV⟩ := hv
  subst hsz
  have hx := B.exec
  have hb := B.bytes
  have hr := B.returns
  have hlocks := B.notSynchronized
  have hown : s.vm.findClass RX2 = some m.cls := findClass_of_methodNamed B.named
  have hts : ∀ w ∈ cdL, w.before _ s = true := fun w hw => atoms_spec (ws := cdWs yX2_isSame cX2_isSame 6 (some .boolean)) B.pre w (List.mem_cons_of_mem _ hw)
  have X : cdX p s m _ c cX2_isSame 6 RX2 g := ⟨hx, hb, hml, hown, hts, hK, hdi, hV⟩
  have hS : va_S (cdZ g s.heap.size) s.heap s.heap [] := va_S.rf
  have hl := lv_entry ([.ref (cdA g (9 + n0)), .int v1, .int v2]) (n := 6) (Nat.le_of_ble_eq_true rfl)
  rw [lg_entry_eq]
  generalize (lg_sl ([.ref (cdA g (9 + n0)), .int v1, .int v2]) ++ List.replicate (6 - (lg_sl ([.ref (cdA g (9 + n0)), .int v1, .int v2])).length) Slot.unset).toArray = ls at hl ⊢
  have hl : lv_has ls 6 [(0, .ref (cdA g (9 + n0))), (1, .int v1), (2, .int v2)] := hl
  obtain ⟨Qm, hQm⟩ : ∃ z, z = MQ below (va_Qi (fun r σ' => σ' = σ ∧ Q r) (fun σ' t => va_P (cdD g) vwCl (cdW g σ') t.heap) (cdZ g s.heap.size)) ([.ref (cdA g (9 + n0)), .int v1, .int v2] : List Value).toArray s 0 0 (cdZ g s.heap.size) := ⟨_, rfl⟩
  rw [← hQm]
  have hB := hwp (fun (x3 : Int32) (x4 : Int32) => cdCut p l e (headSpec (cdWs yX2_isSame cX2_isSame 6 (some .boolean)) (cdRm 2 46)).room s m ([.ref (cdA g (9 + n0)), .int v1, .int v2] : List Value).toArray below meth c Qm g 6 9 [(0, .ref (cdA g (9 + n0))), (1, .int v1), (2, .int v2), (3, .int x3), (4, .int x4)] [] σ)
    (fun (x3 : Int32) (x4 : Int32) (x5 : Int32) => cdCut p l e (headSpec (cdWs yX2_isSame cX2_isSame 6 (some .boolean)) (cdRm 2 46)).room s m ([.ref (cdA g (9 + n0)), .int v1, .int v2] : List Value).toArray below meth c Qm g 6 19 [(0, .ref (cdA g (9 + n0))), (1, .int v1), (2, .int v2), (3, .int x3), (4, .int x4), (5, .int x5)] [] σ)
    (fun (x3 : Int32) (x4 : Int32) (x5 : Int32) (t0 : Int32) (t1 : Int32) (t3 : Int32) => cdCut p l e (headSpec (cdWs yX2_isSame cX2_isSame 6 (some .boolean)) (cdRm 2 46)).room s m ([.ref (cdA g (9 + n0)), .int v1, .int v2] : List Value).toArray below meth c Qm g 6 47 [(0, .ref (cdA g (9 + n0))), (1, .int v1), (2, .int v2), (3, .int x3), (4, .int x4), (5, .int x5)] [.int t0, .int t1, .ref (cdA g (9 + n0)), .int t3] σ)
    (by
    intro x3 x4 hB H locs ls hP hS hl
    refine lv_iload hx hb dX2_isSame_9 (lv_at hl 4 rfl) ?_
    refine lv_iload_n hx hb dX2_isSame_11 rfl (lv_at hl 3 rfl) ?_
    refine lv_icmp_gt (tgt := 69) hx hb dX2_isSame_12 (by decide) (fun c_5 => ?_) (fun c_5 => ?_)
    · have hB := hB.1 c_5
      refine lv_iconst (v := 1) hx hb dX2_isSame_69 (by decide) ?_
      rw [hQm]
      exact W.zret hx hb hr rfl (fun t ht hW => ⟨⟨(1 : Int32), σ, rfl, ⟨rfl, hB⟩, cd_hp ht hP⟩, hS.F ht⟩) hS.2.2 dX2_isSame_70
    · have hB := hB.2 c_5
      refine lv_iload_n hx hb dX2_isSame_15 rfl (lv_at hl 3 rfl) ?_
      refine lv_ineg hx hb dX2_isSame_16 ?_
      refine lv_topi (fun x5_6 ex5_6 => ?_)
      have hB := hB x5_6 ex5_6
      refine lv_istore (lv' := [(5, .int x5_6), (0, .ref (cdA g (9 + n0))), (1, .int v1), (2, .int v2), (3, .int x3), (4, .int x4)]) hx hb dX2_isSame_17 hl (by decide) rfl (fun ls hl => ?_)
      exact hB _ _ _ hP hS (lv_sub hl [1, 2, 3, 4, 5, 0] rfl))
    (by
    intro x3 x4 x5 hB H locs ls hP hS hl
    refine lv_iload hx hb dX2_isSame_19 (lv_at hl 5 rfl) ?_
    refine lv_iload_n hx hb dX2_isSame_21 rfl (lv_at hl 3 rfl) ?_
    refine lv_icmp_gt (tgt := 63) hx hb dX2_isSame_22 (by decide) (fun c_7 => ?_) (fun c_7 => ?_)
    · have hB := hB.1 c_7
      obtain ⟨x4_8, ex4_8⟩ : ∃ z : Int32, z = x4 + 1 := ⟨_, rfl⟩
      have hB := hB x4_8 ex4_8
      refine lv_iinc (v := x4_8) (lv' := [(4, .int x4_8), (0, .ref (cdA g (9 + n0))), (1, .int v1), (2, .int v2), (3, .int x3), (5, .int x5)]) hx hb dX2_isSame_63 hl (k := 4) rfl (by rw [ex4_8]; rfl) (by decide) rfl (fun ls hl => ?_)
      refine lv_goto (tgt := 9) hx hb dX2_isSame_66 (by decide) ?_
      exact hB _ _ _ hP hS (lv_sub hl [1, 2, 3, 4, 0] rfl)
    · have hB := hB.2 c_7
      refine lv_aload_n hx hb dX2_isSame_25 rfl (lv_at hl 0 rfl) ?_
      refine lv_iload hx hb dX2_isSame_26 (lv_at hl 5 rfl) ?_
      refine lv_iload hx hb dX2_isSame_28 (lv_at hl 4 rfl) ?_
      obtain ⟨k_9, hB⟩ := hB
      refine cd_ci (cd_runV (As := [.int x5, .int x4]) (rest := []) (σ := σ) (k := 9 + n0) (ci := 2) X wm_X2_50 (show 9 + n0 < 24 by omega) (cdE_head g σ k_9) rfl rfl (c_X2_depthAt l g n0 x5 x4 σ _ hB _) hP hS rfl rfl hl.1 (Nat.le_of_ble_eq_true rfl) ⟨Nat.le_of_ble_eq_true rfl, Nat.le_of_ble_eq_true rfl⟩ ⟨Nat.zero_le _, Nat.zero_le _⟩ dX2_isSame_30) hS (fun r_10 σ_11 H locs hB hP hS => ?_)
      obtain ⟨eσ_11, hB⟩ := hB
      rw [eσ_11] at hP
      refine lv_aload_n hx hb dX2_isSame_33 rfl (lv_at hl 0 rfl) ?_
      refine lv_iload_n hx hb dX2_isSame_34 rfl (lv_at hl 1 rfl) ?_
      refine lv_iload_n hx hb dX2_isSame_35 rfl (lv_at hl 2 rfl) ?_
      refine lv_if_eq (tgt := 45) hx hb dX2_isSame_36 (by decide) (fun c_12 => ?_) (fun c_12 => ?_)
      · have hB := hB.1 c_12
        refine lv_iload hx hb dX2_isSame_45 (lv_at hl 5 rfl) ?_
        exact hB _ _ _ hP hS (lv_sub hl [0, 1, 2, 3, 4, 5] rfl)
      · have hB := hB.2 c_12
        refine lv_iload hx hb dX2_isSame_39 (lv_at hl 5 rfl) ?_
        refine lv_ineg hx hb dX2_isSame_41 ?_
        refine lv_goto (tgt := 47) hx hb dX2_isSame_42 (by decide) ?_
        exact hB _ _ _ hP hS (lv_sub hl [0, 1, 2, 3, 4, 5] rfl))
    (by
    intro x3 x4 x5 t0 t1 t3 hB H locs ls hP hS hl
    refine lv_iload hx hb dX2_isSame_47 (lv_at hl 4 rfl) ?_
    obtain ⟨k_13, hB⟩ := hB
    refine cd_ci (cd_runV (As := [.int t1, .int t0, .int x4]) (rest := [.int t3]) (σ := σ) (k := 9 + n0) (ci := 2) X wm_X2_42 (show 9 + n0 < 24 by omega) (cdE_head g σ k_13) rfl rfl (c_X2_turnedAt l g n0 t1 t0 x4 σ _ hB _) hP hS rfl rfl hl.1 (Nat.le_of_ble_eq_true rfl) ⟨Nat.le_of_ble_eq_true rfl, Nat.le_of_ble_eq_true rfl⟩ ⟨Nat.zero_le _, Nat.zero_le _⟩ dX2_isSame_49) hS (fun r_14 σ_15 H locs hB hP hS => ?_)
    obtain ⟨eσ_15, hB⟩ := hB
    rw [eσ_15] at hP
    refine lv_icmp_eq (tgt := 57) hx hb dX2_isSame_52 (by decide) (fun c_16 => ?_) (fun c_16 => ?_)
    · have hB := hB.1 c_16
      obtain ⟨x5_17, ex5_17⟩ : ∃ z : Int32, z = x5 + 1 := ⟨_, rfl⟩
      have hB := hB x5_17 ex5_17
      refine lv_iinc (v := x5_17) (lv' := [(5, .int x5_17), (0, .ref (cdA g (9 + n0))), (1, .int v1), (2, .int v2), (3, .int x3), (4, .int x4)]) hx hb dX2_isSame_57 hl (k := 5) rfl (by rw [ex5_17]; rfl) (by decide) rfl (fun ls hl => ?_)
      refine lv_goto (tgt := 19) hx hb dX2_isSame_60 (by decide) ?_
      exact hB _ _ _ hP hS (lv_sub hl [1, 2, 3, 4, 5, 0] rfl)
    · have hB := hB.2 c_16
      refine lv_iconst (v := 0) hx hb dX2_isSame_55 (by decide) ?_
      rw [hQm]
      exact W.zret hx hb hr rfl (fun t ht hW => ⟨⟨(0 : Int32), σ, rfl, ⟨rfl, hB⟩, cd_hp ht hP⟩, hS.F ht⟩) hS.2.2 dX2_isSame_56)
  refine lv_aload_n hx hb dX2_isSame_0 rfl (lv_at hl 0 rfl) ?_
  obtain ⟨k_1, hB⟩ := hB
  refine cd_ci (cd_runV (As := []) (rest := []) (σ := σ) (k := 9 + n0) (ci := 2) X wm_X2_38 (show 9 + n0 < 24 by omega) (cdE_head g σ k_1) rfl rfl (c_X2_reach l g n0 σ _ hB _) hP hS rfl rfl hl.1 (Nat.le_of_ble_eq_true rfl) ⟨Nat.le_of_ble_eq_true rfl, Nat.le_of_ble_eq_true rfl⟩ ⟨Nat.zero_le _, Nat.zero_le _⟩ dX2_isSame_1) hS (fun r_2 σ_3 H locs hB hP hS => ?_)
  obtain ⟨eσ_3, hB⟩ := hB
  rw [eσ_3] at hP
  refine lv_istore_n (lv' := [(3, .int r_2), (0, .ref (cdA g (9 + n0))), (1, .int v1), (2, .int v2)]) hx hb dX2_isSame_4 rfl hl (by decide) rfl (fun ls hl => ?_)
  refine lv_iload_n hx hb dX2_isSame_5 rfl (lv_at hl 0 rfl) ?_
  refine lv_ineg hx hb dX2_isSame_6 ?_
  refine lv_topi (fun x4_4 ex4_4 => ?_)
  have hB := hB x4_4 ex4_4
  refine lv_istore (lv' := [(4, .int x4_4), (3, .int r_2), (0, .ref (cdA g (9 + n0))), (1, .int v1), (2, .int v2)]) hx hb dX2_isSame_7 hl (by decide) rfl (fun ls hl => ?_)
  exact hB _ _ _ hP hS (lv_sub hl [2, 3, 4, 1, 0] rfl)
def wp_X2_leastTurn (n0 : Nat) (σ : cdS) (Q : Int32 → Prop) : Prop :=
  ∀ (P2 : Int32 → Prop),
    (∀ (x1 : Int32), (
    (((4 : Int32) ≤ x1 →
    Q (4 : Int32)) ∧
    (¬ ((4 : Int32) ≤ x1) →
    n0 < 5 ∧ wp_X2_isSame n0 x1 (0 : Int32) σ (fun r_3 => 
    ((r_3 = 0 →
    ∀ x1_6 : Int32, x1_6 = x1 + 1 →
    P2 x1_6) ∧
    (¬ (r_3 = 0) →
    Q x1)))))) → P2 x1) →
    
    P2 (1 : Int32)
set_option maxHeartbeats 4000000 in
set_option maxRecDepth 100000 in
theorem c_X2_leastTurn (l : Launch) (g : cdG) (n0 : Nat) (σ : cdS) (Q : Int32 → Prop) (hwp : wp_X2_leastTurn n0 σ Q) : cdCi l g yX2_leastTurn cX2_leastTurn 2 (some .int) 3 71 [.ref (cdA g (9 + n0))] σ (fun r σ' => σ' = σ ∧ Q r) := by
  intro sz
  refine Met.ofW (cc := cX2_leastTurn) (maxL := 2) (ret := (some .int)) (by decide) rfl ?_
  intro p e s m args below meth c s₁ B hml hv
  obtain ⟨rfl, hsz, hP, hK, hdi, hV⟩ := hv
  subst hsz
  have hx := B.exec
  have hb := B.bytes
  have hr := B.returns
  have hlocks := B.notSynchronized
  have hown : s.vm.findClass RX2 = some m.cls := findClass_of_methodNamed B.named
  have hts : ∀ w ∈ cdL, w.before _ s = true := fun w hw => atoms_spec (ws := cdWs yX2_leastTurn cX2_leastTurn 2 (some .int)) B.pre w (List.mem_cons_of_mem _ hw)
  have X : cdX p s m _ c cX2_leastTurn 2 RX2 g := ⟨hx, hb, hml, hown, hts, hK, hdi, hV⟩
  have hS : va_S (cdZ g s.heap.size) s.heap s.heap [] := va_S.rf
  have hl := lv_entry ([.ref (cdA g (9 + n0))]) (n := 2) (Nat.le_of_ble_eq_true rfl)
  rw [lg_entry_eq]
  generalize (lg_sl ([.ref (cdA g (9 + n0))]) ++ List.replicate (2 - (lg_sl ([.ref (cdA g (9 + n0))])).length) Slot.unset).toArray = ls at hl ⊢
  have hl : lv_has ls 2 [(0, .ref (cdA g (9 + n0)))] := hl
  obtain ⟨Qm, hQm⟩ : ∃ z, z = MQ below (va_Qi (fun r σ' => σ' = σ ∧ Q r) (fun σ' t => va_P (cdD g) vwCl (cdW g σ') t.heap) (cdZ g s.heap.size)) ([.ref (cdA g (9 + n0))] : List Value).toArray s 0 0 (cdZ g s.heap.size) := ⟨_, rfl⟩
  rw [← hQm]
  have hB := hwp (fun (x1 : Int32) => cdCut p l e (headSpec (cdWs yX2_leastTurn cX2_leastTurn 2 (some .int)) (cdRm 3 71)).room s m ([.ref (cdA g (9 + n0))] : List Value).toArray below meth c Qm g 2 2 [(0, .ref (cdA g (9 + n0))), (1, .int x1)] [] σ)
    (by
    intro x1 hB H locs ls hP hS hl
    refine lv_iload_n hx hb dX2_leastTurn_2 rfl (lv_at hl 1 rfl) ?_
    refine lv_iconst (v := 4) hx hb dX2_leastTurn_3 (by decide) ?_
    refine lv_icmp_ge (tgt := 24) hx hb dX2_leastTurn_4 (by decide) (fun c_1 => ?_) (fun c_1 => ?_)
    · have hB := hB.1 c_1
      refine lv_iconst (v := 4) hx hb dX2_leastTurn_24 (by decide) ?_
      rw [hQm]
      exact W.iret hx hb hr (fun t ht hW => ⟨⟨(4 : Int32), σ, rfl, ⟨rfl, hB⟩, cd_hp ht hP⟩, hS.F ht⟩) hS.2.2 dX2_leastTurn_25
    · have hB := hB.2 c_1
      refine lv_aload_n hx hb dX2_leastTurn_7 rfl (lv_at hl 0 rfl) ?_
      refine lv_iload_n hx hb dX2_leastTurn_8 rfl (lv_at hl 1 rfl) ?_
      refine lv_iconst (v := 0) hx hb dX2_leastTurn_9 (by decide) ?_
      obtain ⟨k_2, hB⟩ := hB
      refine cd_ci (cd_runV (As := [.int x1, .int (0 : Int32)]) (rest := []) (σ := σ) (k := 9 + n0) (ci := 2) X wm_X2_62 (show 9 + n0 < 24 by omega) (cdE_head g σ k_2) rfl rfl (c_X2_isSame l g n0 x1 (0 : Int32) σ _ hB _) hP hS rfl rfl hl.1 (Nat.le_of_ble_eq_true rfl) ⟨Nat.le_of_ble_eq_true rfl, Nat.le_of_ble_eq_true rfl⟩ ⟨Nat.zero_le _, Nat.zero_le _⟩ dX2_leastTurn_10) hS (fun r_3 σ_4 H locs hB hP hS => ?_)
      obtain ⟨eσ_4, hB⟩ := hB
      rw [eσ_4] at hP
      refine lv_if_eq (tgt := 18) hx hb dX2_leastTurn_13 (by decide) (fun c_5 => ?_) (fun c_5 => ?_)
      · have hB := hB.1 c_5
        obtain ⟨x1_6, ex1_6⟩ : ∃ z : Int32, z = x1 + 1 := ⟨_, rfl⟩
        have hB := hB x1_6 ex1_6
        refine lv_iinc (v := x1_6) (lv' := [(1, .int x1_6), (0, .ref (cdA g (9 + n0)))]) hx hb dX2_leastTurn_18 hl (k := 1) rfl (by rw [ex1_6]; rfl) (by decide) rfl (fun ls hl => ?_)
        refine lv_goto (tgt := 2) hx hb dX2_leastTurn_21 (by decide) ?_
        exact hB _ _ _ hP hS (lv_sub hl [1, 0] rfl)
      · have hB := hB.2 c_5
        refine lv_iload_n hx hb dX2_leastTurn_16 rfl (lv_at hl 1 rfl) ?_
        rw [hQm]
        exact W.iret hx hb hr (fun t ht hW => ⟨⟨x1, σ, rfl, ⟨rfl, hB⟩, cd_hp ht hP⟩, hS.F ht⟩) hS.2.2 dX2_leastTurn_17)
  refine lv_iconst (v := 1) hx hb dX2_leastTurn_0 (by decide) ?_
  refine lv_istore_n (lv' := [(1, .int (1 : Int32)), (0, .ref (cdA g (9 + n0)))]) hx hb dX2_leastTurn_1 rfl hl (by decide) rfl (fun ls hl => ?_)
  exact hB _ _ _ hP hS (lv_sub hl [1, 0] rfl)
def wp_X3_codeAt (v1 : Int32) (σ : cdS) (Q : Int32 → Prop) : Prop :=
  
    ((v1 < 0 →
    Q (0 : Int32)) ∧
    (¬ (v1 < 0) →
    (((σ.1 1 1) ≤ v1 →
    Q (0 : Int32)) ∧
    (¬ ((σ.1 1 1) ≤ v1) →
    vp_in v1 60 ∧
    Q (σ.1 2 (v1).toNatClampNeg)))))
set_option maxHeartbeats 4000000 in
set_option maxRecDepth 100000 in
theorem c_X3_codeAt (l : Launch) (g : cdG) (v1 : Int32) (σ : cdS) (Q : Int32 → Prop) (hwp : wp_X3_codeAt v1 σ Q) : cdCi l g yX3_codeAt cX3_codeAt 2 (some .int) 0 0 [.ref (cdA g 1), .int v1] σ (fun r σ' => σ' = σ ∧ Q r) := by
  intro sz
  refine Met.ofW (cc := cX3_codeAt) (maxL := 2) (ret := (some .int)) (by decide) rfl ?_
  intro p e s m args below meth c s₁ B hml hv
  obtain ⟨rfl, hsz, hP, hK, hdi, hV⟩ := hv
  subst hsz
  have hx := B.exec
  have hb := B.bytes
  have hr := B.returns
  have hlocks := B.notSynchronized
  have hown : s.vm.findClass RX3 = some m.cls := findClass_of_methodNamed B.named
  have hts : ∀ w ∈ cdL, w.before _ s = true := fun w hw => atoms_spec (ws := cdWs yX3_codeAt cX3_codeAt 2 (some .int)) B.pre w (List.mem_cons_of_mem _ hw)
  have X : cdX p s m _ c cX3_codeAt 2 RX3 g := ⟨hx, hb, hml, hown, hts, hK, hdi, hV⟩
  have hS : va_S (cdZ g s.heap.size) s.heap s.heap [] := va_S.rf
  have hl := lv_entry ([.ref (cdA g 1), .int v1]) (n := 2) (Nat.le_of_ble_eq_true rfl)
  rw [lg_entry_eq]
  generalize (lg_sl ([.ref (cdA g 1), .int v1]) ++ List.replicate (2 - (lg_sl ([.ref (cdA g 1), .int v1])).length) Slot.unset).toArray = ls at hl ⊢
  have hl : lv_has ls 2 [(0, .ref (cdA g 1)), (1, .int v1)] := hl
  obtain ⟨Qm, hQm⟩ : ∃ z, z = MQ below (va_Qi (fun r σ' => σ' = σ ∧ Q r) (fun σ' t => va_P (cdD g) vwCl (cdW g σ') t.heap) (cdZ g s.heap.size)) ([.ref (cdA g 1), .int v1] : List Value).toArray s 0 0 (cdZ g s.heap.size) := ⟨_, rfl⟩
  rw [← hQm]
  have hB := hwp
  refine lv_iload_n hx hb dX3_codeAt_0 rfl (lv_at hl 1 rfl) ?_
  refine lv_if_lt (tgt := 21) hx hb dX3_codeAt_1 (by decide) (fun c_1 => ?_) (fun c_1 => ?_)
  · have hB := hB.1 c_1
    refine lv_iconst (v := 0) hx hb dX3_codeAt_21 (by decide) ?_
    rw [hQm]
    exact W.iret hx hb hr (fun t ht hW => ⟨⟨(0 : Int32), σ, rfl, ⟨rfl, hB⟩, cd_hp ht hP⟩, hS.F ht⟩) hS.2.2 dX3_codeAt_22
  · have hB := hB.2 c_1
    refine lv_iload_n hx hb dX3_codeAt_4 rfl (lv_at hl 1 rfl) ?_
    refine lv_aload_n hx hb dX3_codeAt_5 rfl (lv_at hl 0 rfl) ?_
    refine cd_get X hP (C := RX3) (T := TX3) (N := 2) (ci := 3) (k := 1) (j := 1) (v := .int (σ.1 1 1)) inX3 (by decide) rfl rfl (by decide) wf_X3_13 rfl rfl dX3_codeAt_6 ?_
    refine lv_icmp_ge (tgt := 21) hx hb dX3_codeAt_9 (by decide) (fun c_2 => ?_) (fun c_2 => ?_)
    · have hB := hB.1 c_2
      refine lv_iconst (v := 0) hx hb dX3_codeAt_21 (by decide) ?_
      rw [hQm]
      exact W.iret hx hb hr (fun t ht hW => ⟨⟨(0 : Int32), σ, rfl, ⟨rfl, hB⟩, cd_hp ht hP⟩, hS.F ht⟩) hS.2.2 dX3_codeAt_22
    · have hB := hB.2 c_2
      refine lv_aload_n hx hb dX3_codeAt_12 rfl (lv_at hl 0 rfl) ?_
      refine cd_get X hP (C := RX3) (T := TX3) (N := 2) (ci := 3) (k := 1) (j := 0) (v := .ref (cdA g 2)) inX3 (by decide) rfl rfl (by decide) wf_X3_9 rfl rfl dX3_codeAt_13 ?_
      refine lv_iload_n hx hb dX3_codeAt_16 rfl (lv_at hl 1 rfl) ?_
      obtain ⟨i_3, hB⟩ := hB
      refine cd_ald X hP (k := 2) (N := 60) (by decide) rfl i_3 dX3_codeAt_17 ?_
      refine lv_goto (tgt := 22) hx hb dX3_codeAt_18 (by decide) ?_
      rw [hQm]
      exact W.iret hx hb hr (fun t ht hW => ⟨⟨(σ.1 2 (v1).toNatClampNeg), σ, rfl, ⟨rfl, hB⟩, cd_hp ht hP⟩, hS.F ht⟩) hS.2.2 dX3_codeAt_22
def wp_X3_figure (v0 : Int32) (σ : cdS) (Q : Int32 → Prop) : Prop :=
  ∀ (P17 : Prop),
    ((
    ((v0 < (97 : Int32) →
    Q (-1 : Int32)) ∧
    (¬ (v0 < (97 : Int32)) →
    (((122 : Int32) < v0 →
    Q (-1 : Int32)) ∧
    (¬ ((122 : Int32) < v0) →
    Q ((v0 - (97 : Int32)) + (10 : Int32))))))) → P17 ) →
    
    ((v0 < (48 : Int32) →
    P17) ∧
    (¬ (v0 < (48 : Int32)) →
    (((57 : Int32) < v0 →
    P17) ∧
    (¬ ((57 : Int32) < v0) →
    Q (v0 - (48 : Int32))))))
set_option maxHeartbeats 4000000 in
set_option maxRecDepth 100000 in
theorem c_X3_figure (l : Launch) (g : cdG) (v0 : Int32) (σ : cdS) (Q : Int32 → Prop) (hwp : wp_X3_figure v0 σ Q) : cdCi l g yX3_figure cX3_figure 1 (some .int) 0 0 [.int v0] σ (fun r σ' => σ' = σ ∧ Q r) := by
  intro sz
  refine Met.ofW (cc := cX3_figure) (maxL := 1) (ret := (some .int)) (by decide) rfl ?_
  intro p e s m args below meth c s₁ B hml hv
  obtain ⟨rfl, hsz, hP, hK, hdi, hV⟩ := hv
  subst hsz
  have hx := B.exec
  have hb := B.bytes
  have hr := B.returns
  have hlocks := B.notSynchronized
  have hown : s.vm.findClass RX3 = some m.cls := findClass_of_methodNamed B.named
  have hts : ∀ w ∈ cdL, w.before _ s = true := fun w hw => atoms_spec (ws := cdWs yX3_figure cX3_figure 1 (some .int)) B.pre w (List.mem_cons_of_mem _ hw)
  have X : cdX p s m _ c cX3_figure 1 RX3 g := ⟨hx, hb, hml, hown, hts, hK, hdi, hV⟩
  have hS : va_S (cdZ g s.heap.size) s.heap s.heap [] := va_S.rf
  have hl := lv_entry ([.int v0]) (n := 1) (Nat.le_of_ble_eq_true rfl)
  rw [lg_entry_eq]
  generalize (lg_sl ([.int v0]) ++ List.replicate (1 - (lg_sl ([.int v0])).length) Slot.unset).toArray = ls at hl ⊢
  have hl : lv_has ls 1 [(0, .int v0)] := hl
  obtain ⟨Qm, hQm⟩ : ∃ z, z = MQ below (va_Qi (fun r σ' => σ' = σ ∧ Q r) (fun σ' t => va_P (cdD g) vwCl (cdW g σ') t.heap) (cdZ g s.heap.size)) ([.int v0] : List Value).toArray s 0 0 (cdZ g s.heap.size) := ⟨_, rfl⟩
  rw [← hQm]
  have hB := hwp (cdCut p l e (headSpec (cdWs yX3_figure cX3_figure 1 (some .int)) (cdRm 0 0)).room s m ([.int v0] : List Value).toArray below meth c Qm g 1 17 [(0, .int v0)] [] σ)
    (by
    intro  hB H locs ls hP hS hl
    refine lv_iload_n hx hb dX3_figure_17 rfl (lv_at hl 0 rfl) ?_
    refine lv_bipush (v := 97) hx hb dX3_figure_18 (by decide) ?_
    refine lv_icmp_lt (tgt := 39) hx hb dX3_figure_20 (by decide) (fun c_3 => ?_) (fun c_3 => ?_)
    · have hB := hB.1 c_3
      refine lv_iconst (v := -1) hx hb dX3_figure_39 (by decide) ?_
      rw [hQm]
      exact W.iret hx hb hr (fun t ht hW => ⟨⟨(-1 : Int32), σ, rfl, ⟨rfl, hB⟩, cd_hp ht hP⟩, hS.F ht⟩) hS.2.2 dX3_figure_40
    · have hB := hB.2 c_3
      refine lv_iload_n hx hb dX3_figure_23 rfl (lv_at hl 0 rfl) ?_
      refine lv_bipush (v := 122) hx hb dX3_figure_24 (by decide) ?_
      refine lv_icmp_gt (tgt := 39) hx hb dX3_figure_26 (by decide) (fun c_4 => ?_) (fun c_4 => ?_)
      · have hB := hB.1 c_4
        refine lv_iconst (v := -1) hx hb dX3_figure_39 (by decide) ?_
        rw [hQm]
        exact W.iret hx hb hr (fun t ht hW => ⟨⟨(-1 : Int32), σ, rfl, ⟨rfl, hB⟩, cd_hp ht hP⟩, hS.F ht⟩) hS.2.2 dX3_figure_40
      · have hB := hB.2 c_4
        refine lv_iload_n hx hb dX3_figure_29 rfl (lv_at hl 0 rfl) ?_
        refine lv_bipush (v := 97) hx hb dX3_figure_30 (by decide) ?_
        refine lv_isub hx hb dX3_figure_32 ?_
        refine lv_bipush (v := 10) hx hb dX3_figure_33 (by decide) ?_
        refine lv_iadd hx hb dX3_figure_35 ?_
        refine lv_goto (tgt := 40) hx hb dX3_figure_36 (by decide) ?_
        rw [hQm]
        exact W.iret hx hb hr (fun t ht hW => ⟨⟨((v0 - (97 : Int32)) + (10 : Int32)), σ, rfl, ⟨rfl, hB⟩, cd_hp ht hP⟩, hS.F ht⟩) hS.2.2 dX3_figure_40)
  refine lv_iload_n hx hb dX3_figure_0 rfl (lv_at hl 0 rfl) ?_
  refine lv_bipush (v := 48) hx hb dX3_figure_1 (by decide) ?_
  refine lv_icmp_lt (tgt := 17) hx hb dX3_figure_3 (by decide) (fun c_1 => ?_) (fun c_1 => ?_)
  · have hB := hB.1 c_1
    exact hB _ _ _ hP hS (lv_sub hl [0] rfl)
  · have hB := hB.2 c_1
    refine lv_iload_n hx hb dX3_figure_6 rfl (lv_at hl 0 rfl) ?_
    refine lv_bipush (v := 57) hx hb dX3_figure_7 (by decide) ?_
    refine lv_icmp_gt (tgt := 17) hx hb dX3_figure_9 (by decide) (fun c_2 => ?_) (fun c_2 => ?_)
    · have hB := hB.1 c_2
      exact hB _ _ _ hP hS (lv_sub hl [0] rfl)
    · have hB := hB.2 c_2
      refine lv_iload_n hx hb dX3_figure_12 rfl (lv_at hl 0 rfl) ?_
      refine lv_bipush (v := 48) hx hb dX3_figure_13 (by decide) ?_
      refine lv_isub hx hb dX3_figure_15 ?_
      rw [hQm]
      exact W.iret hx hb hr (fun t ht hW => ⟨⟨(v0 - (48 : Int32)), σ, rfl, ⟨rfl, hB⟩, cd_hp ht hP⟩, hS.F ht⟩) hS.2.2 dX3_figure_16
def wp_X2_read (n0 : Nat) (v2 : Int32) (σ : cdS) (Q : cdS → Prop) : Prop :=
  ∀ (P7 : Int32 → cdS → Prop) (P18 : Int32 → Int32 → cdS → Prop),
    (∀ (x3 : Int32) (σ : cdS), (
    n0 < 5 ∧ (((σ.1 (9 + n0) 1) ≤ x3 →
    Q σ) ∧
    (¬ ((σ.1 (9 + n0) 1) ≤ x3) →
    P18 x3 (0 : Int32) σ))) → P7 x3 σ) →
    (∀ (x3 : Int32) (x4 : Int32) (σ : cdS), (
    n0 < 5 ∧ (((σ.1 (9 + n0) 1) ≤ x4 →
    ∀ x3_8 : Int32, x3_8 = x3 + 1 →
    P7 x3_8 σ) ∧
    (¬ ((σ.1 (9 + n0) 1) ≤ x4) →
    wp_X3_codeAt ((x3 * ((σ.1 (9 + n0) 1) + (1 : Int32))) + x4) σ (fun r_9 => 
    wp_X3_figure r_9 σ (fun r_11 => 
    vp_in ((x3 * (σ.1 (9 + n0) 1)) + x4) 49 ∧ ∀ σ_14 : cdS, σ_14 = cdU σ (14 + n0) (((x3 * (σ.1 (9 + n0) 1)) + x4)).toNatClampNeg (if (0 : Int32) < r_11 then r_11 else (0 : Int32)) →
    ∀ x4_15 : Int32, x4_15 = x4 + 1 →
    P18 x3 x4_15 σ_14))))) → P18 x3 x4 σ) →
    
    n0 < 5 ∧ wp_X2_resize n0 v2 σ (fun σ_3 => 
    P7 (0 : Int32) σ_3)
set_option maxHeartbeats 4000000 in
set_option maxRecDepth 100000 in
theorem c_X2_read (l : Launch) (g : cdG) (n0 : Nat) (v2 : Int32) (σ : cdS) (Q : cdS → Prop) (hwp : wp_X2_read n0 v2 σ Q) : cdCv l g yX2_read cX2_read 6 none 2 42 [.ref (cdA g (9 + n0)), .ref (cdA g 1), .int v2] σ Q := by
  intro sz
  refine Met.ofW (cc := cX2_read) (maxL := 6) (ret := none) (by decide) rfl ?_
  intro p e s m args below meth c s₁ B hml hv
  obtain ⟨rfl, hsz, hP, hK, hdi, hV⟩ := hv
  subst hsz
  have hx := B.exec
  have hb := B.bytes
  have hr := B.returns
  have hlocks := B.notSynchronized
  have hown : s.vm.findClass RX2 = some m.cls := findClass_of_methodNamed B.named
  have hts : ∀ w ∈ cdL, w.before _ s = true := fun w hw => atoms_spec (ws := cdWs yX2_read cX2_read 6 none) B.pre w (List.mem_cons_of_mem _ hw)
  have X : cdX p s m _ c cX2_read 6 RX2 g := ⟨hx, hb, hml, hown, hts, hK, hdi, hV⟩
  have hS : va_S (cdZ g s.heap.size) s.heap s.heap [] := va_S.rf
  have hl := lv_entry ([.ref (cdA g (9 + n0)), .ref (cdA g 1), .int v2]) (n := 6) (Nat.le_of_ble_eq_true rfl)
  rw [lg_entry_eq]
  generalize (lg_sl ([.ref (cdA g (9 + n0)), .ref (cdA g 1), .int v2]) ++ List.replicate (6 - (lg_sl ([.ref (cdA g (9 + n0)), .ref (cdA g 1), .int v2])).length) Slot.unset).toArray = ls at hl ⊢
  have hl : lv_has ls 6 [(0, .ref (cdA g (9 + n0))), (1, .ref (cdA g 1)), (2, .int v2)] := hl
  obtain ⟨Qm, hQm⟩ : ∃ z, z = MQ below (va_Qv Q (fun σ' t => va_P (cdD g) vwCl (cdW g σ') t.heap) (cdZ g s.heap.size)) ([.ref (cdA g (9 + n0)), .ref (cdA g 1), .int v2] : List Value).toArray s 0 0 (cdZ g s.heap.size) := ⟨_, rfl⟩
  rw [← hQm]
  have hB := hwp (fun (x3 : Int32) (σ : cdS) => cdCut p l e (headSpec (cdWs yX2_read cX2_read 6 none) (cdRm 2 42)).room s m ([.ref (cdA g (9 + n0)), .ref (cdA g 1), .int v2] : List Value).toArray below meth c Qm g 6 7 [(0, .ref (cdA g (9 + n0))), (1, .ref (cdA g 1)), (3, .int x3)] [] σ)
    (fun (x3 : Int32) (x4 : Int32) (σ : cdS) => cdCut p l e (headSpec (cdWs yX2_read cX2_read 6 none) (cdRm 2 42)).room s m ([.ref (cdA g (9 + n0)), .ref (cdA g 1), .int v2] : List Value).toArray below meth c Qm g 6 18 [(0, .ref (cdA g (9 + n0))), (1, .ref (cdA g 1)), (3, .int x3), (4, .int x4)] [] σ)
    (by
    intro x3 σ hB H locs ls hP hS hl
    refine lv_iload_n hx hb dX2_read_7 rfl (lv_at hl 2 rfl) ?_
    refine lv_aload_n hx hb dX2_read_8 rfl (lv_at hl 0 rfl) ?_
    obtain ⟨k_4, hB⟩ := hB
    refine cd_get X hP (C := RX2) (T := TX2) (N := 2) (ci := 2) (k := 9 + n0) (j := 1) (v := .int (σ.1 (9 + n0) 1)) inX2 (show 9 + n0 < 24 by omega) (cdE_head g σ k_4) rfl (by decide) wf_X2_15 rfl rfl dX2_read_9 ?_
    refine lv_icmp_ge (tgt := 79) hx hb dX2_read_12 (by decide) (fun c_5 => ?_) (fun c_5 => ?_)
    · have hB := hB.1 c_5
      rw [hQm]
      exact W.vret hx hb hr (fun t ht hW => ⟨⟨σ, rfl, hB, cd_hp ht hP⟩, hS.F ht⟩) hS.2.2 dX2_read_79
    · have hB := hB.2 c_5
      refine lv_iconst (v := 0) hx hb dX2_read_15 (by decide) ?_
      refine lv_istore (lv' := [(4, .int (0 : Int32)), (0, .ref (cdA g (9 + n0))), (1, .ref (cdA g 1)), (3, .int x3)]) hx hb dX2_read_16 hl (by decide) rfl (fun ls hl => ?_)
      exact hB _ _ _ hP hS (lv_sub hl [1, 2, 3, 0] rfl))
    (by
    intro x3 x4 σ hB H locs ls hP hS hl
    refine lv_iload hx hb dX2_read_18 (lv_at hl 3 rfl) ?_
    refine lv_aload_n hx hb dX2_read_20 rfl (lv_at hl 0 rfl) ?_
    obtain ⟨k_6, hB⟩ := hB
    refine cd_get X hP (C := RX2) (T := TX2) (N := 2) (ci := 2) (k := 9 + n0) (j := 1) (v := .int (σ.1 (9 + n0) 1)) inX2 (show 9 + n0 < 24 by omega) (cdE_head g σ k_6) rfl (by decide) wf_X2_15 rfl rfl dX2_read_21 ?_
    refine lv_icmp_ge (tgt := 73) hx hb dX2_read_24 (by decide) (fun c_7 => ?_) (fun c_7 => ?_)
    · have hB := hB.1 c_7
      obtain ⟨x3_8, ex3_8⟩ : ∃ z : Int32, z = x3 + 1 := ⟨_, rfl⟩
      have hB := hB x3_8 ex3_8
      refine lv_iinc (v := x3_8) (lv' := [(3, .int x3_8), (0, .ref (cdA g (9 + n0))), (1, .ref (cdA g 1)), (4, .int x4)]) hx hb dX2_read_73 hl (k := 2) rfl (by rw [ex3_8]; rfl) (by decide) rfl (fun ls hl => ?_)
      refine lv_goto (tgt := 7) hx hb dX2_read_76 (by decide) ?_
      exact hB _ _ _ hP hS (lv_sub hl [1, 2, 0] rfl)
    · have hB := hB.2 c_7
      refine lv_aload_n hx hb dX2_read_27 rfl (lv_at hl 1 rfl) ?_
      refine lv_iload_n hx hb dX2_read_28 rfl (lv_at hl 2 rfl) ?_
      refine lv_aload_n hx hb dX2_read_29 rfl (lv_at hl 0 rfl) ?_
      refine cd_get X hP (C := RX2) (T := TX2) (N := 2) (ci := 2) (k := 9 + n0) (j := 1) (v := .int (σ.1 (9 + n0) 1)) inX2 (show 9 + n0 < 24 by omega) (cdE_head g σ k_6) rfl (by decide) wf_X2_15 rfl rfl dX2_read_30 ?_
      refine lv_iconst (v := 1) hx hb dX2_read_33 (by decide) ?_
      refine lv_iadd hx hb dX2_read_34 ?_
      refine lv_imul hx hb dX2_read_35 ?_
      refine lv_iload hx hb dX2_read_36 (lv_at hl 3 rfl) ?_
      refine lv_iadd hx hb dX2_read_38 ?_
      refine cd_ci (cd_runV (As := [.int ((x3 * ((σ.1 (9 + n0) 1) + (1 : Int32))) + x4)]) (rest := []) (σ := σ) (k := 1) (ci := 3) X wm_X2_23 (by decide) rfl rfl rfl (c_X3_codeAt l g ((x3 * ((σ.1 (9 + n0) 1) + (1 : Int32))) + x4) σ _ hB _) hP hS rfl rfl hl.1 (Nat.le_of_ble_eq_true rfl) ⟨Nat.le_of_ble_eq_true rfl, Nat.le_of_ble_eq_true rfl⟩ ⟨Nat.zero_le _, Nat.zero_le _⟩ dX2_read_39) hS (fun r_9 σ_10 H locs hB hP hS => ?_)
      obtain ⟨eσ_10, hB⟩ := hB
      rw [eσ_10] at hP
      refine lv_istore (lv' := [(5, .int r_9), (0, .ref (cdA g (9 + n0))), (1, .ref (cdA g 1)), (3, .int x3), (4, .int x4)]) hx hb dX2_read_42 hl (by decide) rfl (fun ls hl => ?_)
      refine lv_aload_n hx hb dX2_read_44 rfl (lv_at hl 1 rfl) ?_
      refine cd_get X hP (C := RX2) (T := TX2) (N := 2) (ci := 2) (k := 9 + n0) (j := 0) (v := .ref (cdA g (14 + n0))) inX2 (show 9 + n0 < 24 by omega) (cdE_head g σ k_6) rfl (by decide) wf_X2_11 rfl rfl dX2_read_45 ?_
      refine lv_iload_n hx hb dX2_read_48 rfl (lv_at hl 3 rfl) ?_
      refine lv_aload_n hx hb dX2_read_49 rfl (lv_at hl 1 rfl) ?_
      refine cd_get X hP (C := RX2) (T := TX2) (N := 2) (ci := 2) (k := 9 + n0) (j := 1) (v := .int (σ.1 (9 + n0) 1)) inX2 (show 9 + n0 < 24 by omega) (cdE_head g σ k_6) rfl (by decide) wf_X2_15 rfl rfl dX2_read_50 ?_
      refine lv_imul hx hb dX2_read_53 ?_
      refine lv_iload hx hb dX2_read_54 (lv_at hl 4 rfl) ?_
      refine lv_iadd hx hb dX2_read_56 ?_
      refine lv_iconst (v := 0) hx hb dX2_read_57 (by decide) ?_
      refine lv_iload hx hb dX2_read_58 (lv_at hl 0 rfl) ?_
      refine cd_ci (cd_runS (As := [.int r_9]) (rest := [.int (0 : Int32), .int ((x3 * (σ.1 (9 + n0) 1)) + x4), .ref (cdA g (14 + n0))]) (σ := σ) X wm_X2_29 (c_X3_figure l g r_9 σ _ hB _) hP hS rfl rfl hl.1 (Nat.le_of_ble_eq_true rfl) ⟨Nat.le_of_ble_eq_true rfl, Nat.le_of_ble_eq_true rfl⟩ ⟨Nat.zero_le _, Nat.zero_le _⟩ dX2_read_60) hS (fun r_11 σ_12 H locs hB hP hS => ?_)
      obtain ⟨eσ_12, hB⟩ := hB
      rw [eσ_12] at hP
      refine va_mmax hx hb (hml.trans hl.1.symm) hown (hts _ wm_X2_32) (hts _ ws_max) (hts _ wi_Math) (hts _ wk_max) (Nat.le_of_ble_eq_true rfl) (Nat.le_of_ble_eq_true rfl) (Nat.zero_le _) (Nat.zero_le _) dX2_read_63 ?_
      obtain ⟨i_13, hB⟩ := hB
      refine cd_ast X hP hS (k := 14 + n0) (N := 49) (show 14 + n0 < 24 by omega) (fun σ => cdE_deps g σ k_6) i_13 dX2_read_66 (fun H locs hP hS => ?_)
      obtain ⟨σ_14, eσ_14⟩ : ∃ z : cdS, z = cdU σ (14 + n0) (((x3 * (σ.1 (9 + n0) 1)) + x4)).toNatClampNeg (if (0 : Int32) < r_11 then r_11 else (0 : Int32)) := ⟨_, rfl⟩
      rw [← eσ_14] at hP
      have hB := hB σ_14 eσ_14
      obtain ⟨x4_15, ex4_15⟩ : ∃ z : Int32, z = x4 + 1 := ⟨_, rfl⟩
      have hB := hB x4_15 ex4_15
      refine lv_iinc (v := x4_15) (lv' := [(4, .int x4_15), (5, .int r_9), (0, .ref (cdA g (9 + n0))), (1, .ref (cdA g 1)), (3, .int x3)]) hx hb dX2_read_67 hl (k := 4) rfl (by rw [ex4_15]; rfl) (by decide) rfl (fun ls hl => ?_)
      refine lv_goto (tgt := 18) hx hb dX2_read_70 (by decide) ?_
      exact hB _ _ _ hP hS (lv_sub hl [2, 3, 4, 0] rfl))
  refine lv_aload_n hx hb dX2_read_0 rfl (lv_at hl 0 rfl) ?_
  refine lv_iload_n hx hb dX2_read_1 rfl (lv_at hl 2 rfl) ?_
  obtain ⟨k_1, hB⟩ := hB
  refine cd_cv (cd_runV (As := [.int v2]) (rest := []) (σ := σ) (k := 9 + n0) (ci := 2) X wm_X2_19 (show 9 + n0 < 24 by omega) (cdE_head g σ k_1) rfl rfl (c_X2_resize l g n0 v2 σ _ hB _) hP hS rfl rfl hl.1 (Nat.le_of_ble_eq_true rfl) ⟨Nat.le_of_ble_eq_true rfl, Nat.le_of_ble_eq_true rfl⟩ ⟨Nat.zero_le _, Nat.zero_le _⟩ dX2_read_2) hS (fun σ_3 H locs hB hP hS => ?_)
  refine lv_iconst (v := 0) hx hb dX2_read_5 (by decide) ?_
  refine lv_istore_n (lv' := [(3, .int (0 : Int32)), (0, .ref (cdA g (9 + n0))), (1, .ref (cdA g 1)), (2, .int v2)]) hx hb dX2_read_6 rfl hl (by decide) rfl (fun ls hl => ?_)
  exact hB _ _ _ hP hS (lv_sub hl [1, 2, 0] rfl)
def wp_X2_thrown (n0 : Nat) (σ : cdS) (Q : Int32 → Prop) : Prop :=
  ∀ (P4 : Int32 → Int32 → Prop),
    (∀ (x1 : Int32) (x2 : Int32), (
    n0 < 5 ∧ ((((σ.1 (9 + n0) 1) * (σ.1 (9 + n0) 1)) ≤ x2 →
    Q x1) ∧
    (¬ (((σ.1 (9 + n0) 1) * (σ.1 (9 + n0) 1)) ≤ x2) →
    vp_in x2 49 ∧
    ∀ x1_4 : Int32, x1_4 = (x1 + (σ.1 (14 + n0) (x2).toNatClampNeg)) →
    ∀ x2_5 : Int32, x2_5 = x2 + 1 →
    P4 x1_4 x2_5))) → P4 x1 x2) →
    
    P4 (0 : Int32) (0 : Int32)
set_option maxHeartbeats 4000000 in
set_option maxRecDepth 100000 in
theorem c_X2_thrown (l : Launch) (g : cdG) (n0 : Nat) (σ : cdS) (Q : Int32 → Prop) (hwp : wp_X2_thrown n0 σ Q) : cdCi l g yX2_thrown cX2_thrown 3 (some .int) 0 0 [.ref (cdA g (9 + n0))] σ (fun r σ' => σ' = σ ∧ Q r) := by
  intro sz
  refine Met.ofW (cc := cX2_thrown) (maxL := 3) (ret := (some .int)) (by decide) rfl ?_
  intro p e s m args below meth c s₁ B hml hv
  obtain ⟨rfl, hsz, hP, hK, hdi, hV⟩ := hv
  subst hsz
  have hx := B.exec
  have hb := B.bytes
  have hr := B.returns
  have hlocks := B.notSynchronized
  have hown : s.vm.findClass RX2 = some m.cls := findClass_of_methodNamed B.named
  have hts : ∀ w ∈ cdL, w.before _ s = true := fun w hw => atoms_spec (ws := cdWs yX2_thrown cX2_thrown 3 (some .int)) B.pre w (List.mem_cons_of_mem _ hw)
  have X : cdX p s m _ c cX2_thrown 3 RX2 g := ⟨hx, hb, hml, hown, hts, hK, hdi, hV⟩
  have hS : va_S (cdZ g s.heap.size) s.heap s.heap [] := va_S.rf
  have hl := lv_entry ([.ref (cdA g (9 + n0))]) (n := 3) (Nat.le_of_ble_eq_true rfl)
  rw [lg_entry_eq]
  generalize (lg_sl ([.ref (cdA g (9 + n0))]) ++ List.replicate (3 - (lg_sl ([.ref (cdA g (9 + n0))])).length) Slot.unset).toArray = ls at hl ⊢
  have hl : lv_has ls 3 [(0, .ref (cdA g (9 + n0)))] := hl
  obtain ⟨Qm, hQm⟩ : ∃ z, z = MQ below (va_Qi (fun r σ' => σ' = σ ∧ Q r) (fun σ' t => va_P (cdD g) vwCl (cdW g σ') t.heap) (cdZ g s.heap.size)) ([.ref (cdA g (9 + n0))] : List Value).toArray s 0 0 (cdZ g s.heap.size) := ⟨_, rfl⟩
  rw [← hQm]
  have hB := hwp (fun (x1 : Int32) (x2 : Int32) => cdCut p l e (headSpec (cdWs yX2_thrown cX2_thrown 3 (some .int)) (cdRm 0 0)).room s m ([.ref (cdA g (9 + n0))] : List Value).toArray below meth c Qm g 3 4 [(0, .ref (cdA g (9 + n0))), (1, .int x1), (2, .int x2)] [] σ)
    (by
    intro x1 x2 hB H locs ls hP hS hl
    refine lv_iload_n hx hb dX2_thrown_4 rfl (lv_at hl 2 rfl) ?_
    refine lv_aload_n hx hb dX2_thrown_5 rfl (lv_at hl 0 rfl) ?_
    obtain ⟨k_1, hB⟩ := hB
    refine cd_get X hP (C := RX2) (T := TX2) (N := 2) (ci := 2) (k := 9 + n0) (j := 1) (v := .int (σ.1 (9 + n0) 1)) inX2 (show 9 + n0 < 24 by omega) (cdE_head g σ k_1) rfl (by decide) wf_X2_15 rfl rfl dX2_thrown_6 ?_
    refine lv_aload_n hx hb dX2_thrown_9 rfl (lv_at hl 0 rfl) ?_
    refine cd_get X hP (C := RX2) (T := TX2) (N := 2) (ci := 2) (k := 9 + n0) (j := 1) (v := .int (σ.1 (9 + n0) 1)) inX2 (show 9 + n0 < 24 by omega) (cdE_head g σ k_1) rfl (by decide) wf_X2_15 rfl rfl dX2_thrown_10 ?_
    refine lv_imul hx hb dX2_thrown_13 ?_
    refine lv_icmp_ge (tgt := 32) hx hb dX2_thrown_14 (by decide) (fun c_2 => ?_) (fun c_2 => ?_)
    · have hB := hB.1 c_2
      refine lv_iload_n hx hb dX2_thrown_32 rfl (lv_at hl 1 rfl) ?_
      rw [hQm]
      exact W.iret hx hb hr (fun t ht hW => ⟨⟨x1, σ, rfl, ⟨rfl, hB⟩, cd_hp ht hP⟩, hS.F ht⟩) hS.2.2 dX2_thrown_33
    · have hB := hB.2 c_2
      refine lv_iload_n hx hb dX2_thrown_17 rfl (lv_at hl 1 rfl) ?_
      refine lv_aload_n hx hb dX2_thrown_18 rfl (lv_at hl 0 rfl) ?_
      refine cd_get X hP (C := RX2) (T := TX2) (N := 2) (ci := 2) (k := 9 + n0) (j := 0) (v := .ref (cdA g (14 + n0))) inX2 (show 9 + n0 < 24 by omega) (cdE_head g σ k_1) rfl (by decide) wf_X2_11 rfl rfl dX2_thrown_19 ?_
      refine lv_iload_n hx hb dX2_thrown_22 rfl (lv_at hl 2 rfl) ?_
      obtain ⟨i_3, hB⟩ := hB
      refine cd_ald X hP (k := 14 + n0) (N := 49) (show 14 + n0 < 24 by omega) (cdE_deps g σ k_1) i_3 dX2_thrown_23 ?_
      refine lv_iadd hx hb dX2_thrown_24 ?_
      refine lv_topi (fun x1_4 ex1_4 => ?_)
      have hB := hB x1_4 ex1_4
      refine lv_istore_n (lv' := [(1, .int x1_4), (0, .ref (cdA g (9 + n0))), (2, .int x2)]) hx hb dX2_thrown_25 rfl hl (by decide) rfl (fun ls hl => ?_)
      obtain ⟨x2_5, ex2_5⟩ : ∃ z : Int32, z = x2 + 1 := ⟨_, rfl⟩
      have hB := hB x2_5 ex2_5
      refine lv_iinc (v := x2_5) (lv' := [(2, .int x2_5), (1, .int x1_4), (0, .ref (cdA g (9 + n0)))]) hx hb dX2_thrown_26 hl (k := 2) rfl (by rw [ex2_5]; rfl) (by decide) rfl (fun ls hl => ?_)
      refine lv_goto (tgt := 4) hx hb dX2_thrown_29 (by decide) ?_
      exact hB _ _ _ hP hS (lv_sub hl [2, 1, 0] rfl))
  refine lv_iconst (v := 0) hx hb dX2_thrown_0 (by decide) ?_
  refine lv_istore_n (lv' := [(1, .int (0 : Int32)), (0, .ref (cdA g (9 + n0)))]) hx hb dX2_thrown_1 rfl hl (by decide) rfl (fun ls hl => ?_)
  refine lv_iconst (v := 0) hx hb dX2_thrown_2 (by decide) ?_
  refine lv_istore_n (lv' := [(2, .int (0 : Int32)), (1, .int (0 : Int32)), (0, .ref (cdA g (9 + n0)))]) hx hb dX2_thrown_3 rfl hl (by decide) rfl (fun ls hl => ?_)
  exact hB _ _ _ hP hS (lv_sub hl [2, 1, 0] rfl)
def wp_X2_tell (n0 : Nat) (v1 : Int32) (σ : cdS) (Q : Int32 → Prop) : Prop :=
  
    ((v1 = (0 : Int32) →
    n0 < 5 ∧ Q (σ.1 (9 + n0) 1)) ∧
    (¬ (v1 = (0 : Int32)) →
    ((v1 = (1 : Int32) →
    n0 < 5 ∧ wp_X2_thrown n0 σ (fun r_5 => 
    Q r_5)) ∧
    (¬ (v1 = (1 : Int32)) →
    ((v1 = (2 : Int32) →
    n0 < 5 ∧ wp_X2_greatest n0 σ (fun r_9 => 
    Q r_9)) ∧
    (¬ (v1 = (2 : Int32)) →
    ((v1 = (3 : Int32) →
    n0 < 5 ∧ wp_X2_leastTurn n0 σ (fun r_13 => 
    Q r_13)) ∧
    (¬ (v1 = (3 : Int32)) →
    ((v1 = (4 : Int32) →
    n0 < 5 ∧ wp_X2_isSame n0 (0 : Int32) (1 : Int32) σ (fun r_17 => 
    ((r_17 = 0 →
    Q (0 : Int32)) ∧
    (¬ (r_17 = 0) →
    Q (1 : Int32))))) ∧
    (¬ (v1 = (4 : Int32)) →
    Q (-1000003 : Int32)))))))))))
set_option maxHeartbeats 4000000 in
set_option maxRecDepth 100000 in
theorem c_X2_tell (l : Launch) (g : cdG) (n0 : Nat) (v1 : Int32) (σ : cdS) (Q : Int32 → Prop) (hwp : wp_X2_tell n0 v1 σ Q) : cdCi l g yX2_tell cX2_tell 2 (some .int) 4 92 [.ref (cdA g (9 + n0)), .int v1] σ (fun r σ' => σ' = σ ∧ Q r) := by
  intro sz
  refine Met.ofW (cc := cX2_tell) (maxL := 2) (ret := (some .int)) (by decide) rfl ?_
  intro p e s m args below meth c s₁ B hml hv
  obtain ⟨rfl, hsz, hP, hK, hdi, hV⟩ := hv
  subst hsz
  have hx := B.exec
  have hb := B.bytes
  have hr := B.returns
  have hlocks := B.notSynchronized
  have hown : s.vm.findClass RX2 = some m.cls := findClass_of_methodNamed B.named
  have hts : ∀ w ∈ cdL, w.before _ s = true := fun w hw => atoms_spec (ws := cdWs yX2_tell cX2_tell 2 (some .int)) B.pre w (List.mem_cons_of_mem _ hw)
  have X : cdX p s m _ c cX2_tell 2 RX2 g := ⟨hx, hb, hml, hown, hts, hK, hdi, hV⟩
  have hS : va_S (cdZ g s.heap.size) s.heap s.heap [] := va_S.rf
  have hl := lv_entry ([.ref (cdA g (9 + n0)), .int v1]) (n := 2) (Nat.le_of_ble_eq_true rfl)
  rw [lg_entry_eq]
  generalize (lg_sl ([.ref (cdA g (9 + n0)), .int v1]) ++ List.replicate (2 - (lg_sl ([.ref (cdA g (9 + n0)), .int v1])).length) Slot.unset).toArray = ls at hl ⊢
  have hl : lv_has ls 2 [(0, .ref (cdA g (9 + n0))), (1, .int v1)] := hl
  obtain ⟨Qm, hQm⟩ : ∃ z, z = MQ below (va_Qi (fun r σ' => σ' = σ ∧ Q r) (fun σ' t => va_P (cdD g) vwCl (cdW g σ') t.heap) (cdZ g s.heap.size)) ([.ref (cdA g (9 + n0)), .int v1] : List Value).toArray s 0 0 (cdZ g s.heap.size) := ⟨_, rfl⟩
  rw [← hQm]
  have hB := hwp
  refine lv_iload_n hx hb dX2_tell_0 rfl (lv_at hl 1 rfl) ?_
  by_cases c_1 : v1 = (0 : Int32)
  · have hB := hB.1 c_1
    refine lv_tableIn (tgt := 36) hx hb dX2_tell_1 (by rw [c_1]; decide) (by rw [c_1]; decide) (by rw [c_1]; rfl) (by decide) ?_
    refine lv_aload_n hx hb dX2_tell_36 rfl (lv_at hl 0 rfl) ?_
    obtain ⟨k_2, hB⟩ := hB
    refine cd_get X hP (C := RX2) (T := TX2) (N := 2) (ci := 2) (k := 9 + n0) (j := 1) (v := .int (σ.1 (9 + n0) 1)) inX2 (show 9 + n0 < 24 by omega) (cdE_head g σ k_2) rfl (by decide) wf_X2_15 rfl rfl dX2_tell_37 ?_
    rw [hQm]
    exact W.iret hx hb hr (fun t ht hW => ⟨⟨(σ.1 (9 + n0) 1), σ, rfl, ⟨rfl, hB⟩, cd_hp ht hP⟩, hS.F ht⟩) hS.2.2 dX2_tell_40
  · have hB := hB.2 c_1
    by_cases c_3 : v1 = (1 : Int32)
    · have hB := hB.1 c_3
      refine lv_tableIn (tgt := 41) hx hb dX2_tell_1 (by rw [c_3]; decide) (by rw [c_3]; decide) (by rw [c_3]; rfl) (by decide) ?_
      refine lv_aload_n hx hb dX2_tell_41 rfl (lv_at hl 0 rfl) ?_
      obtain ⟨k_4, hB⟩ := hB
      refine cd_ci (cd_runV (As := []) (rest := []) (σ := σ) (k := 9 + n0) (ci := 2) X wm_X2_53 (show 9 + n0 < 24 by omega) (cdE_head g σ k_4) rfl rfl (c_X2_thrown l g n0 σ _ hB _) hP hS rfl rfl hl.1 (Nat.le_of_ble_eq_true rfl) ⟨Nat.le_of_ble_eq_true rfl, Nat.le_of_ble_eq_true rfl⟩ ⟨Nat.zero_le _, Nat.zero_le _⟩ dX2_tell_42) hS (fun r_5 σ_6 H locs hB hP hS => ?_)
      obtain ⟨eσ_6, hB⟩ := hB
      rw [eσ_6] at hP
      rw [hQm]
      exact W.iret hx hb hr (fun t ht hW => ⟨⟨r_5, σ, rfl, ⟨rfl, hB⟩, cd_hp ht hP⟩, hS.F ht⟩) hS.2.2 dX2_tell_45
    · have hB := hB.2 c_3
      by_cases c_7 : v1 = (2 : Int32)
      · have hB := hB.1 c_7
        refine lv_tableIn (tgt := 46) hx hb dX2_tell_1 (by rw [c_7]; decide) (by rw [c_7]; decide) (by rw [c_7]; rfl) (by decide) ?_
        refine lv_aload_n hx hb dX2_tell_46 rfl (lv_at hl 0 rfl) ?_
        obtain ⟨k_8, hB⟩ := hB
        refine cd_ci (cd_runV (As := []) (rest := []) (σ := σ) (k := 9 + n0) (ci := 2) X wm_X2_56 (show 9 + n0 < 24 by omega) (cdE_head g σ k_8) rfl rfl (c_X2_greatest l g n0 σ _ hB _) hP hS rfl rfl hl.1 (Nat.le_of_ble_eq_true rfl) ⟨Nat.le_of_ble_eq_true rfl, Nat.le_of_ble_eq_true rfl⟩ ⟨Nat.zero_le _, Nat.zero_le _⟩ dX2_tell_47) hS (fun r_9 σ_10 H locs hB hP hS => ?_)
        obtain ⟨eσ_10, hB⟩ := hB
        rw [eσ_10] at hP
        rw [hQm]
        exact W.iret hx hb hr (fun t ht hW => ⟨⟨r_9, σ, rfl, ⟨rfl, hB⟩, cd_hp ht hP⟩, hS.F ht⟩) hS.2.2 dX2_tell_50
      · have hB := hB.2 c_7
        by_cases c_11 : v1 = (3 : Int32)
        · have hB := hB.1 c_11
          refine lv_tableIn (tgt := 51) hx hb dX2_tell_1 (by rw [c_11]; decide) (by rw [c_11]; decide) (by rw [c_11]; rfl) (by decide) ?_
          refine lv_aload_n hx hb dX2_tell_51 rfl (lv_at hl 0 rfl) ?_
          obtain ⟨k_12, hB⟩ := hB
          refine cd_ci (cd_runV (As := []) (rest := []) (σ := σ) (k := 9 + n0) (ci := 2) X wm_X2_59 (show 9 + n0 < 24 by omega) (cdE_head g σ k_12) rfl rfl (c_X2_leastTurn l g n0 σ _ hB _) hP hS rfl rfl hl.1 (Nat.le_of_ble_eq_true rfl) ⟨Nat.le_of_ble_eq_true rfl, Nat.le_of_ble_eq_true rfl⟩ ⟨Nat.zero_le _, Nat.zero_le _⟩ dX2_tell_52) hS (fun r_13 σ_14 H locs hB hP hS => ?_)
          obtain ⟨eσ_14, hB⟩ := hB
          rw [eσ_14] at hP
          rw [hQm]
          exact W.iret hx hb hr (fun t ht hW => ⟨⟨r_13, σ, rfl, ⟨rfl, hB⟩, cd_hp ht hP⟩, hS.F ht⟩) hS.2.2 dX2_tell_55
        · have hB := hB.2 c_11
          by_cases c_15 : v1 = (4 : Int32)
          · have hB := hB.1 c_15
            refine lv_tableIn (tgt := 56) hx hb dX2_tell_1 (by rw [c_15]; decide) (by rw [c_15]; decide) (by rw [c_15]; rfl) (by decide) ?_
            refine lv_aload_n hx hb dX2_tell_56 rfl (lv_at hl 0 rfl) ?_
            refine lv_iconst (v := 0) hx hb dX2_tell_57 (by decide) ?_
            refine lv_iconst (v := 1) hx hb dX2_tell_58 (by decide) ?_
            obtain ⟨k_16, hB⟩ := hB
            refine cd_ci (cd_runV (As := [.int (0 : Int32), .int (1 : Int32)]) (rest := []) (σ := σ) (k := 9 + n0) (ci := 2) X wm_X2_62 (show 9 + n0 < 24 by omega) (cdE_head g σ k_16) rfl rfl (c_X2_isSame l g n0 (0 : Int32) (1 : Int32) σ _ hB _) hP hS rfl rfl hl.1 (Nat.le_of_ble_eq_true rfl) ⟨Nat.le_of_ble_eq_true rfl, Nat.le_of_ble_eq_true rfl⟩ ⟨Nat.zero_le _, Nat.zero_le _⟩ dX2_tell_59) hS (fun r_17 σ_18 H locs hB hP hS => ?_)
            obtain ⟨eσ_18, hB⟩ := hB
            rw [eσ_18] at hP
            refine lv_if_eq (tgt := 69) hx hb dX2_tell_62 (by decide) (fun c_19 => ?_) (fun c_19 => ?_)
            · have hB := hB.1 c_19
              refine lv_iconst (v := 0) hx hb dX2_tell_69 (by decide) ?_
              rw [hQm]
              exact W.iret hx hb hr (fun t ht hW => ⟨⟨(0 : Int32), σ, rfl, ⟨rfl, hB⟩, cd_hp ht hP⟩, hS.F ht⟩) hS.2.2 dX2_tell_70
            · have hB := hB.2 c_19
              refine lv_iconst (v := 1) hx hb dX2_tell_65 (by decide) ?_
              refine lv_goto (tgt := 70) hx hb dX2_tell_66 (by decide) ?_
              rw [hQm]
              exact W.iret hx hb hr (fun t ht hW => ⟨⟨(1 : Int32), σ, rfl, ⟨rfl, hB⟩, cd_hp ht hP⟩, hS.F ht⟩) hS.2.2 dX2_tell_70
          · have hB := hB.2 c_15
            have qc_1 := cd_ni (z := 0) (by decide) c_1
            have qc_3 := cd_ni (z := 1) (by decide) c_3
            have qc_7 := cd_ni (z := 2) (by decide) c_7
            have qc_11 := cd_ni (z := 3) (by decide) c_11
            have qc_15 := cd_ni (z := 4) (by decide) c_15
            refine lv_tableOut (tgt := 71) hx hb dX2_tell_1 (by omega) (by decide) ?_
            refine lv_ldc (v := -1000003) hx hb hown (hts _ wc_X2_66) dX2_tell_71 ?_
            rw [hQm]
            exact W.iret hx hb hr (fun t ht hW => ⟨⟨(-1000003 : Int32), σ, rfl, ⟨rfl, hB⟩, cd_hp ht hP⟩, hS.F ht⟩) hS.2.2 dX2_tell_73
def wp_X3_append (v1 : Int32) (σ : cdS) (Q : Int32 → cdS → Prop) : Prop :=
  
    (((σ.1 1 1) < (60 : Int32) →
    vp_in (σ.1 1 1) 60 ∧ ∀ σ_3 : cdS, σ_3 = cdU σ 2 ((σ.1 1 1)).toNatClampNeg v1 →
    ∀ σ_4 : cdS, σ_4 = cdU σ_3 1 1 ((σ_3.1 1 1) + (1 : Int32)) →
    Q (1 : Int32) σ_4) ∧
    (¬ ((σ.1 1 1) < (60 : Int32)) →
    Q (0 : Int32) σ))
set_option maxHeartbeats 4000000 in
set_option maxRecDepth 100000 in
theorem c_X3_append (l : Launch) (g : cdG) (v1 : Int32) (σ : cdS) (Q : Int32 → cdS → Prop) (hwp : wp_X3_append v1 σ Q) : cdCi l g yX3_append cX3_append 2 (some .boolean) 0 0 [.ref (cdA g 1), .int v1] σ Q := by
  intro sz
  refine Met.ofW (cc := cX3_append) (maxL := 2) (ret := (some .boolean)) (by decide) rfl ?_
  intro p e s m args below meth c s₁ B hml hv
  obtain ⟨rfl, hsz, hP, hK, hdi, hV⟩ := hv
  subst hsz
  have hx := B.exec
  have hb := B.bytes
  have hr := B.returns
  have hlocks := B.notSynchronized
  have hown : s.vm.findClass RX3 = some m.cls := findClass_of_methodNamed B.named
  have hts : ∀ w ∈ cdL, w.before _ s = true := fun w hw => atoms_spec (ws := cdWs yX3_append cX3_append 2 (some .boolean)) B.pre w (List.mem_cons_of_mem _ hw)
  have X : cdX p s m _ c cX3_append 2 RX3 g := ⟨hx, hb, hml, hown, hts, hK, hdi, hV⟩
  have hS : va_S (cdZ g s.heap.size) s.heap s.heap [] := va_S.rf
  have hl := lv_entry ([.ref (cdA g 1), .int v1]) (n := 2) (Nat.le_of_ble_eq_true rfl)
  rw [lg_entry_eq]
  generalize (lg_sl ([.ref (cdA g 1), .int v1]) ++ List.replicate (2 - (lg_sl ([.ref (cdA g 1), .int v1])).length) Slot.unset).toArray = ls at hl ⊢
  have hl : lv_has ls 2 [(0, .ref (cdA g 1)), (1, .int v1)] := hl
  obtain ⟨Qm, hQm⟩ : ∃ z, z = MQ below (va_Qi Q (fun σ' t => va_P (cdD g) vwCl (cdW g σ') t.heap) (cdZ g s.heap.size)) ([.ref (cdA g 1), .int v1] : List Value).toArray s 0 0 (cdZ g s.heap.size) := ⟨_, rfl⟩
  rw [← hQm]
  have hB := hwp
  refine lv_aload_n hx hb dX3_append_0 rfl (lv_at hl 0 rfl) ?_
  refine cd_get X hP (C := RX3) (T := TX3) (N := 2) (ci := 3) (k := 1) (j := 1) (v := .int (σ.1 1 1)) inX3 (by decide) rfl rfl (by decide) wf_X3_13 rfl rfl dX3_append_1 ?_
  refine lv_bipush (v := 60) hx hb dX3_append_4 (by decide) ?_
  refine lv_icmp_lt (tgt := 11) hx hb dX3_append_6 (by decide) (fun c_1 => ?_) (fun c_1 => ?_)
  · have hB := hB.1 c_1
    refine lv_aload_n hx hb dX3_append_11 rfl (lv_at hl 0 rfl) ?_
    refine cd_get X hP (C := RX3) (T := TX3) (N := 2) (ci := 3) (k := 1) (j := 0) (v := .ref (cdA g 2)) inX3 (by decide) rfl rfl (by decide) wf_X3_9 rfl rfl dX3_append_12 ?_
    refine lv_aload_n hx hb dX3_append_15 rfl (lv_at hl 0 rfl) ?_
    refine cd_get X hP (C := RX3) (T := TX3) (N := 2) (ci := 3) (k := 1) (j := 1) (v := .int (σ.1 1 1)) inX3 (by decide) rfl rfl (by decide) wf_X3_13 rfl rfl dX3_append_16 ?_
    refine lv_iload_n hx hb dX3_append_19 rfl (lv_at hl 1 rfl) ?_
    obtain ⟨i_2, hB⟩ := hB
    refine cd_ast X hP hS (k := 2) (N := 60) (by decide) (fun _ => rfl) i_2 dX3_append_20 (fun H locs hP hS => ?_)
    obtain ⟨σ_3, eσ_3⟩ : ∃ z : cdS, z = cdU σ 2 ((σ.1 1 1)).toNatClampNeg v1 := ⟨_, rfl⟩
    rw [← eσ_3] at hP
    have hB := hB σ_3 eσ_3
    refine lv_aload_n hx hb dX3_append_21 rfl (lv_at hl 0 rfl) ?_
    refine lv_dup hx hb dX3_append_22 rfl ?_
    refine cd_get X hP (C := RX3) (T := TX3) (N := 2) (ci := 3) (k := 1) (j := 1) (v := .int (σ_3.1 1 1)) inX3 (by decide) rfl rfl (by decide) wf_X3_13 rfl rfl dX3_append_23 ?_
    refine lv_iconst (v := 1) hx hb dX3_append_26 (by decide) ?_
    refine lv_iadd hx hb dX3_append_27 ?_
    refine cd_put X hP hS (C := RX3) (T := TX3) (N := 2) (ci := 3) (k := 1) (j := 1) (v := .int ((σ_3.1 1 1) + (1 : Int32))) (σ' := cdU σ_3 1 1 ((σ_3.1 1 1) + (1 : Int32))) inX3 tyX3 tyX3_ok nmX3 (by decide) rfl rfl (by decide) wf_X3_13 rfl rfl (tyX3_ok 1 (by decide)) rfl rfl (Nat.le_of_ble_eq_true rfl) (cdW_U (by decide) rfl) dX3_append_28 (fun H locs hP hS => ?_)
    obtain ⟨σ_4, eσ_4⟩ : ∃ z : cdS, z = cdU σ_3 1 1 ((σ_3.1 1 1) + (1 : Int32)) := ⟨_, rfl⟩
    rw [← eσ_4] at hP
    have hB := hB σ_4 eσ_4
    refine lv_iconst (v := 1) hx hb dX3_append_31 (by decide) ?_
    rw [hQm]
    exact W.zret hx hb hr rfl (fun t ht hW => ⟨⟨(1 : Int32), σ_4, rfl, hB, cd_hp ht hP⟩, hS.F ht⟩) hS.2.2 dX3_append_32
  · have hB := hB.2 c_1
    refine lv_iconst (v := 0) hx hb dX3_append_9 (by decide) ?_
    rw [hQm]
    exact W.zret hx hb hr rfl (fun t ht hW => ⟨⟨(0 : Int32), σ, rfl, hB, cd_hp ht hP⟩, hS.F ht⟩) hS.2.2 dX3_append_10
def wp_X3_clear  (σ : cdS) (Q : cdS → Prop) : Prop :=
  
    ∀ σ_1 : cdS, σ_1 = cdU σ 1 1 (0 : Int32) →
    Q σ_1
set_option maxHeartbeats 4000000 in
set_option maxRecDepth 100000 in
theorem c_X3_clear (l : Launch) (g : cdG)  (σ : cdS) (Q : cdS → Prop) (hwp : wp_X3_clear  σ Q) : cdCv l g yX3_clear cX3_clear 1 none 0 0 [.ref (cdA g 1)] σ Q := by
  intro sz
  refine Met.ofW (cc := cX3_clear) (maxL := 1) (ret := none) (by decide) rfl ?_
  intro p e s m args below meth c s₁ B hml hv
  obtain ⟨rfl, hsz, hP, hK, hdi, hV⟩ := hv
  subst hsz
  have hx := B.exec
  have hb := B.bytes
  have hr := B.returns
  have hlocks := B.notSynchronized
  have hown : s.vm.findClass RX3 = some m.cls := findClass_of_methodNamed B.named
  have hts : ∀ w ∈ cdL, w.before _ s = true := fun w hw => atoms_spec (ws := cdWs yX3_clear cX3_clear 1 none) B.pre w (List.mem_cons_of_mem _ hw)
  have X : cdX p s m _ c cX3_clear 1 RX3 g := ⟨hx, hb, hml, hown, hts, hK, hdi, hV⟩
  have hS : va_S (cdZ g s.heap.size) s.heap s.heap [] := va_S.rf
  have hl := lv_entry ([.ref (cdA g 1)]) (n := 1) (Nat.le_of_ble_eq_true rfl)
  rw [lg_entry_eq]
  generalize (lg_sl ([.ref (cdA g 1)]) ++ List.replicate (1 - (lg_sl ([.ref (cdA g 1)])).length) Slot.unset).toArray = ls at hl ⊢
  have hl : lv_has ls 1 [(0, .ref (cdA g 1))] := hl
  obtain ⟨Qm, hQm⟩ : ∃ z, z = MQ below (va_Qv Q (fun σ' t => va_P (cdD g) vwCl (cdW g σ') t.heap) (cdZ g s.heap.size)) ([.ref (cdA g 1)] : List Value).toArray s 0 0 (cdZ g s.heap.size) := ⟨_, rfl⟩
  rw [← hQm]
  have hB := hwp
  refine lv_aload_n hx hb dX3_clear_0 rfl (lv_at hl 0 rfl) ?_
  refine lv_iconst (v := 0) hx hb dX3_clear_1 (by decide) ?_
  refine cd_put X hP hS (C := RX3) (T := TX3) (N := 2) (ci := 3) (k := 1) (j := 1) (v := .int (0 : Int32)) (σ' := cdU σ 1 1 (0 : Int32)) inX3 tyX3 tyX3_ok nmX3 (by decide) rfl rfl (by decide) wf_X3_13 rfl rfl (tyX3_ok 1 (by decide)) rfl rfl (Nat.le_of_ble_eq_true rfl) (cdW_U (by decide) rfl) dX3_clear_2 (fun H locs hP hS => ?_)
  obtain ⟨σ_1, eσ_1⟩ : ∃ z : cdS, z = cdU σ 1 1 (0 : Int32) := ⟨_, rfl⟩
  rw [← eσ_1] at hP
  have hB := hB σ_1 eσ_1
  rw [hQm]
  exact W.vret hx hb hr (fun t ht hW => ⟨⟨σ_1, rfl, hB, cd_hp ht hP⟩, hS.F ht⟩) hS.2.2 dX3_clear_5
def wp_X3_lettersOf (v0 : Int32) (σ : cdS) (Q : Int32 → Prop) : Prop :=
  
    Q ((v0 * (v0 + (1 : Int32))) - (1 : Int32))
set_option maxHeartbeats 4000000 in
set_option maxRecDepth 100000 in
theorem c_X3_lettersOf (l : Launch) (g : cdG) (v0 : Int32) (σ : cdS) (Q : Int32 → Prop) (hwp : wp_X3_lettersOf v0 σ Q) : cdCi l g yX3_lettersOf cX3_lettersOf 1 (some .int) 0 0 [.int v0] σ (fun r σ' => σ' = σ ∧ Q r) := by
  intro sz
  refine Met.ofW (cc := cX3_lettersOf) (maxL := 1) (ret := (some .int)) (by decide) rfl ?_
  intro p e s m args below meth c s₁ B hml hv
  obtain ⟨rfl, hsz, hP, hK, hdi, hV⟩ := hv
  subst hsz
  have hx := B.exec
  have hb := B.bytes
  have hr := B.returns
  have hlocks := B.notSynchronized
  have hown : s.vm.findClass RX3 = some m.cls := findClass_of_methodNamed B.named
  have hts : ∀ w ∈ cdL, w.before _ s = true := fun w hw => atoms_spec (ws := cdWs yX3_lettersOf cX3_lettersOf 1 (some .int)) B.pre w (List.mem_cons_of_mem _ hw)
  have X : cdX p s m _ c cX3_lettersOf 1 RX3 g := ⟨hx, hb, hml, hown, hts, hK, hdi, hV⟩
  have hS : va_S (cdZ g s.heap.size) s.heap s.heap [] := va_S.rf
  have hl := lv_entry ([.int v0]) (n := 1) (Nat.le_of_ble_eq_true rfl)
  rw [lg_entry_eq]
  generalize (lg_sl ([.int v0]) ++ List.replicate (1 - (lg_sl ([.int v0])).length) Slot.unset).toArray = ls at hl ⊢
  have hl : lv_has ls 1 [(0, .int v0)] := hl
  obtain ⟨Qm, hQm⟩ : ∃ z, z = MQ below (va_Qi (fun r σ' => σ' = σ ∧ Q r) (fun σ' t => va_P (cdD g) vwCl (cdW g σ') t.heap) (cdZ g s.heap.size)) ([.int v0] : List Value).toArray s 0 0 (cdZ g s.heap.size) := ⟨_, rfl⟩
  rw [← hQm]
  have hB := hwp
  refine lv_iload_n hx hb dX3_lettersOf_0 rfl (lv_at hl 0 rfl) ?_
  refine lv_iload_n hx hb dX3_lettersOf_1 rfl (lv_at hl 0 rfl) ?_
  refine lv_iconst (v := 1) hx hb dX3_lettersOf_2 (by decide) ?_
  refine lv_iadd hx hb dX3_lettersOf_3 ?_
  refine lv_imul hx hb dX3_lettersOf_4 ?_
  refine lv_iconst (v := 1) hx hb dX3_lettersOf_5 (by decide) ?_
  refine lv_isub hx hb dX3_lettersOf_6 ?_
  rw [hQm]
  exact W.iret hx hb hr (fun t ht hW => ⟨⟨((v0 * (v0 + (1 : Int32))) - (1 : Int32)), σ, rfl, ⟨rfl, hB⟩, cd_hp ht hP⟩, hS.F ht⟩) hS.2.2 dX3_lettersOf_7
def wp_X3_fitting (v1 : Int32) (σ : cdS) (Q : Int32 → Prop) : Prop :=
  ∀ (P17 : Int32 → Int32 → Int32 → Prop) (P66 : Int32 → Int32 → Int32 → Int32 → Prop) (P88 : Int32 → Int32 → Int32 → Prop),
    (∀ (x2 : Int32) (x3 : Int32) (x4 : Int32), (
    ((x2 ≤ x4 →
    Q x2) ∧
    (¬ (x2 ≤ x4) →
    ((¬ x3 = v1 →
    vp_in x4 60 ∧
    wp_X3_figure (σ.1 2 (x4).toNatClampNeg) σ (fun r_7 => 
    ((r_7 < 0 →
    P66 x2 x3 x4 (0 : Int32)) ∧
    (¬ (r_7 < 0) →
    P66 x2 x3 x4 (1 : Int32))))) ∧
    (x3 = v1 →
    vp_in x4 60 ∧
    ((¬ (σ.1 2 (x4).toNatClampNeg) = (47 : Int32) →
    P66 x2 x3 x4 (0 : Int32)) ∧
    ((σ.1 2 (x4).toNatClampNeg) = (47 : Int32) →
    P66 x2 x3 x4 (1 : Int32)))))))) → P17 x2 x3 x4) →
    (∀ (x2 : Int32) (x3 : Int32) (x4 : Int32) (t0 : Int32), (
    ((¬ t0 = 0 →
    ((¬ x3 = v1 →
    P88 x2 x4 (x3 + (1 : Int32))) ∧
    (x3 = v1 →
    P88 x2 x4 (0 : Int32)))) ∧
    (t0 = 0 →
    Q x4))) → P66 x2 x3 x4 t0) →
    (∀ (x2 : Int32) (x4 : Int32) (t0 : Int32), (
    ∀ x4_14 : Int32, x4_14 = x4 + 1 →
    P17 x2 t0 x4_14) → P88 x2 x4 t0) →
    
    wp_X3_lettersOf v1 σ (fun r_1 => 
    ∀ x2_3 : Int32, x2_3 = (if r_1 < (σ.1 1 1) then r_1 else (σ.1 1 1)) →
    P17 x2_3 (0 : Int32) (0 : Int32))
set_option maxHeartbeats 4000000 in
set_option maxRecDepth 100000 in
theorem c_X3_fitting (l : Launch) (g : cdG) (v1 : Int32) (σ : cdS) (Q : Int32 → Prop) (hwp : wp_X3_fitting v1 σ Q) : cdCi l g yX3_fitting cX3_fitting 6 (some .int) 1 21 [.ref (cdA g 1), .int v1] σ (fun r σ' => σ' = σ ∧ Q r) := by
  intro sz
  refine Met.ofW (cc := cX3_fitting) (maxL := 6) (ret := (some .int)) (by decide) rfl ?_
  intro p e s m args below meth c s₁ B hml hv
  obtain ⟨rfl, hsz, hP, hK, hdi, hV⟩ := hv
  subst hsz
  have hx := B.exec
  have hb := B.bytes
  have hr := B.returns
  have hlocks := B.notSynchronized
  have hown : s.vm.findClass RX3 = some m.cls := findClass_of_methodNamed B.named
  have hts : ∀ w ∈ cdL, w.before _ s = true := fun w hw => atoms_spec (ws := cdWs yX3_fitting cX3_fitting 6 (some .int)) B.pre w (List.mem_cons_of_mem _ hw)
  have X : cdX p s m _ c cX3_fitting 6 RX3 g := ⟨hx, hb, hml, hown, hts, hK, hdi, hV⟩
  have hS : va_S (cdZ g s.heap.size) s.heap s.heap [] := va_S.rf
  have hl := lv_entry ([.ref (cdA g 1), .int v1]) (n := 6) (Nat.le_of_ble_eq_true rfl)
  rw [lg_entry_eq]
  generalize (lg_sl ([.ref (cdA g 1), .int v1]) ++ List.replicate (6 - (lg_sl ([.ref (cdA g 1), .int v1])).length) Slot.unset).toArray = ls at hl ⊢
  have hl : lv_has ls 6 [(0, .ref (cdA g 1)), (1, .int v1)] := hl
  obtain ⟨Qm, hQm⟩ : ∃ z, z = MQ below (va_Qi (fun r σ' => σ' = σ ∧ Q r) (fun σ' t => va_P (cdD g) vwCl (cdW g σ') t.heap) (cdZ g s.heap.size)) ([.ref (cdA g 1), .int v1] : List Value).toArray s 0 0 (cdZ g s.heap.size) := ⟨_, rfl⟩
  rw [← hQm]
  have hB := hwp (fun (x2 : Int32) (x3 : Int32) (x4 : Int32) => cdCut p l e (headSpec (cdWs yX3_fitting cX3_fitting 6 (some .int)) (cdRm 1 21)).room s m ([.ref (cdA g 1), .int v1] : List Value).toArray below meth c Qm g 6 17 [(0, .ref (cdA g 1)), (1, .int v1), (2, .int x2), (3, .int x3), (4, .int x4)] [] σ)
    (fun (x2 : Int32) (x3 : Int32) (x4 : Int32) (t0 : Int32) => cdCut p l e (headSpec (cdWs yX3_fitting cX3_fitting 6 (some .int)) (cdRm 1 21)).room s m ([.ref (cdA g 1), .int v1] : List Value).toArray below meth c Qm g 6 66 [(0, .ref (cdA g 1)), (1, .int v1), (2, .int x2), (3, .int x3), (4, .int x4)] [.int t0] σ)
    (fun (x2 : Int32) (x4 : Int32) (t0 : Int32) => cdCut p l e (headSpec (cdWs yX3_fitting cX3_fitting 6 (some .int)) (cdRm 1 21)).room s m ([.ref (cdA g 1), .int v1] : List Value).toArray below meth c Qm g 6 88 [(0, .ref (cdA g 1)), (1, .int v1), (2, .int x2), (4, .int x4)] [.int t0] σ)
    (by
    intro x2 x3 x4 hB H locs ls hP hS hl
    refine lv_iload hx hb dX3_fitting_17 (lv_at hl 4 rfl) ?_
    refine lv_iload_n hx hb dX3_fitting_19 rfl (lv_at hl 2 rfl) ?_
    refine lv_icmp_ge (tgt := 95) hx hb dX3_fitting_20 (by decide) (fun c_4 => ?_) (fun c_4 => ?_)
    · have hB := hB.1 c_4
      refine lv_iload_n hx hb dX3_fitting_95 rfl (lv_at hl 2 rfl) ?_
      rw [hQm]
      exact W.iret hx hb hr (fun t ht hW => ⟨⟨x2, σ, rfl, ⟨rfl, hB⟩, cd_hp ht hP⟩, hS.F ht⟩) hS.2.2 dX3_fitting_96
    · have hB := hB.2 c_4
      refine lv_iload_n hx hb dX3_fitting_23 rfl (lv_at hl 3 rfl) ?_
      refine lv_iload_n hx hb dX3_fitting_24 rfl (lv_at hl 1 rfl) ?_
      refine lv_icmp_ne (tgt := 48) hx hb dX3_fitting_25 (by decide) (fun c_5 => ?_) (fun c_5 => ?_)
      · have hB := hB.1 c_5
        refine lv_aload_n hx hb dX3_fitting_48 rfl (lv_at hl 0 rfl) ?_
        refine cd_get X hP (C := RX3) (T := TX3) (N := 2) (ci := 3) (k := 1) (j := 0) (v := .ref (cdA g 2)) inX3 (by decide) rfl rfl (by decide) wf_X3_9 rfl rfl dX3_fitting_49 ?_
        refine lv_iload hx hb dX3_fitting_52 (lv_at hl 4 rfl) ?_
        obtain ⟨i_6, hB⟩ := hB
        refine cd_ald X hP (k := 2) (N := 60) (by decide) rfl i_6 dX3_fitting_54 ?_
        refine cd_ci (cd_runS (As := [.int (σ.1 2 (x4).toNatClampNeg)]) (rest := []) (σ := σ) X wm_X3_36 (c_X3_figure l g (σ.1 2 (x4).toNatClampNeg) σ _ hB _) hP hS rfl rfl hl.1 (Nat.le_of_ble_eq_true rfl) ⟨Nat.le_of_ble_eq_true rfl, Nat.le_of_ble_eq_true rfl⟩ ⟨Nat.zero_le _, Nat.zero_le _⟩ dX3_fitting_55) hS (fun r_7 σ_8 H locs hB hP hS => ?_)
        obtain ⟨eσ_8, hB⟩ := hB
        rw [eσ_8] at hP
        refine lv_if_lt (tgt := 65) hx hb dX3_fitting_58 (by decide) (fun c_9 => ?_) (fun c_9 => ?_)
        · have hB := hB.1 c_9
          refine lv_iconst (v := 0) hx hb dX3_fitting_65 (by decide) ?_
          exact hB _ _ _ hP hS (lv_sub hl [0, 1, 2, 3, 4] rfl)
        · have hB := hB.2 c_9
          refine lv_iconst (v := 1) hx hb dX3_fitting_61 (by decide) ?_
          refine lv_goto (tgt := 66) hx hb dX3_fitting_62 (by decide) ?_
          exact hB _ _ _ hP hS (lv_sub hl [0, 1, 2, 3, 4] rfl)
      · have hB := hB.2 c_5
        refine lv_aload_n hx hb dX3_fitting_28 rfl (lv_at hl 0 rfl) ?_
        refine cd_get X hP (C := RX3) (T := TX3) (N := 2) (ci := 3) (k := 1) (j := 0) (v := .ref (cdA g 2)) inX3 (by decide) rfl rfl (by decide) wf_X3_9 rfl rfl dX3_fitting_29 ?_
        refine lv_iload hx hb dX3_fitting_32 (lv_at hl 4 rfl) ?_
        obtain ⟨i_10, hB⟩ := hB
        refine cd_ald X hP (k := 2) (N := 60) (by decide) rfl i_10 dX3_fitting_34 ?_
        refine lv_bipush (v := 47) hx hb dX3_fitting_35 (by decide) ?_
        refine lv_icmp_ne (tgt := 44) hx hb dX3_fitting_37 (by decide) (fun c_11 => ?_) (fun c_11 => ?_)
        · have hB := hB.1 c_11
          refine lv_iconst (v := 0) hx hb dX3_fitting_44 (by decide) ?_
          refine lv_goto (tgt := 66) hx hb dX3_fitting_45 (by decide) ?_
          exact hB _ _ _ hP hS (lv_sub hl [0, 1, 2, 3, 4] rfl)
        · have hB := hB.2 c_11
          refine lv_iconst (v := 1) hx hb dX3_fitting_40 (by decide) ?_
          refine lv_goto (tgt := 66) hx hb dX3_fitting_41 (by decide) ?_
          exact hB _ _ _ hP hS (lv_sub hl [0, 1, 2, 3, 4] rfl))
    (by
    intro x2 x3 x4 t0 hB H locs ls hP hS hl
    refine lv_istore (lv' := [(5, .int t0), (0, .ref (cdA g 1)), (1, .int v1), (2, .int x2), (3, .int x3), (4, .int x4)]) hx hb dX3_fitting_66 hl (by decide) rfl (fun ls hl => ?_)
    refine lv_iload hx hb dX3_fitting_68 (lv_at hl 0 rfl) ?_
    refine lv_if_ne (tgt := 76) hx hb dX3_fitting_70 (by decide) (fun c_12 => ?_) (fun c_12 => ?_)
    · have hB := hB.1 c_12
      refine lv_iload_n hx hb dX3_fitting_76 rfl (lv_at hl 4 rfl) ?_
      refine lv_iload_n hx hb dX3_fitting_77 rfl (lv_at hl 2 rfl) ?_
      refine lv_icmp_ne (tgt := 85) hx hb dX3_fitting_78 (by decide) (fun c_13 => ?_) (fun c_13 => ?_)
      · have hB := hB.1 c_13
        refine lv_iload_n hx hb dX3_fitting_85 rfl (lv_at hl 4 rfl) ?_
        refine lv_iconst (v := 1) hx hb dX3_fitting_86 (by decide) ?_
        refine lv_iadd hx hb dX3_fitting_87 ?_
        exact hB _ _ _ hP hS (lv_sub hl [1, 2, 3, 5] rfl)
      · have hB := hB.2 c_13
        refine lv_iconst (v := 0) hx hb dX3_fitting_81 (by decide) ?_
        refine lv_goto (tgt := 88) hx hb dX3_fitting_82 (by decide) ?_
        exact hB _ _ _ hP hS (lv_sub hl [1, 2, 3, 5] rfl)
    · have hB := hB.2 c_12
      refine lv_iload hx hb dX3_fitting_73 (lv_at hl 5 rfl) ?_
      rw [hQm]
      exact W.iret hx hb hr (fun t ht hW => ⟨⟨x4, σ, rfl, ⟨rfl, hB⟩, cd_hp ht hP⟩, hS.F ht⟩) hS.2.2 dX3_fitting_75)
    (by
    intro x2 x4 t0 hB H locs ls hP hS hl
    refine lv_istore_n (lv' := [(3, .int t0), (0, .ref (cdA g 1)), (1, .int v1), (2, .int x2), (4, .int x4)]) hx hb dX3_fitting_88 rfl hl (by decide) rfl (fun ls hl => ?_)
    obtain ⟨x4_14, ex4_14⟩ : ∃ z : Int32, z = x4 + 1 := ⟨_, rfl⟩
    have hB := hB x4_14 ex4_14
    refine lv_iinc (v := x4_14) (lv' := [(4, .int x4_14), (3, .int t0), (0, .ref (cdA g 1)), (1, .int v1), (2, .int x2)]) hx hb dX3_fitting_89 hl (k := 4) rfl (by rw [ex4_14]; rfl) (by decide) rfl (fun ls hl => ?_)
    refine lv_goto (tgt := 17) hx hb dX3_fitting_92 (by decide) ?_
    exact hB _ _ _ hP hS (lv_sub hl [2, 3, 4, 1, 0] rfl))
  refine lv_aload_n hx hb dX3_fitting_0 rfl (lv_at hl 0 rfl) ?_
  refine cd_get X hP (C := RX3) (T := TX3) (N := 2) (ci := 3) (k := 1) (j := 1) (v := .int (σ.1 1 1)) inX3 (by decide) rfl rfl (by decide) wf_X3_13 rfl rfl dX3_fitting_1 ?_
  refine lv_iload_n hx hb dX3_fitting_4 rfl (lv_at hl 1 rfl) ?_
  refine cd_ci (cd_runS (As := [.int v1]) (rest := [.int (σ.1 1 1)]) (σ := σ) X wm_X3_30 (c_X3_lettersOf l g v1 σ _ hB _) hP hS rfl rfl hl.1 (Nat.le_of_ble_eq_true rfl) ⟨Nat.le_of_ble_eq_true rfl, Nat.le_of_ble_eq_true rfl⟩ ⟨Nat.zero_le _, Nat.zero_le _⟩ dX3_fitting_5) hS (fun r_1 σ_2 H locs hB hP hS => ?_)
  obtain ⟨eσ_2, hB⟩ := hB
  rw [eσ_2] at hP
  refine va_mmin hx hb (hml.trans hl.1.symm) hown (hts _ wm_X3_33) (hts _ ws_min) (hts _ wi_Math) (hts _ wk_min) (Nat.le_of_ble_eq_true rfl) (Nat.le_of_ble_eq_true rfl) (Nat.zero_le _) (Nat.zero_le _) dX3_fitting_8 ?_
  refine lv_topi (fun x2_3 ex2_3 => ?_)
  have hB := hB x2_3 ex2_3
  refine lv_istore_n (lv' := [(2, .int x2_3), (0, .ref (cdA g 1)), (1, .int v1)]) hx hb dX3_fitting_11 rfl hl (by decide) rfl (fun ls hl => ?_)
  refine lv_iconst (v := 0) hx hb dX3_fitting_12 (by decide) ?_
  refine lv_istore_n (lv' := [(3, .int (0 : Int32)), (2, .int x2_3), (0, .ref (cdA g 1)), (1, .int v1)]) hx hb dX3_fitting_13 rfl hl (by decide) rfl (fun ls hl => ?_)
  refine lv_iconst (v := 0) hx hb dX3_fitting_14 (by decide) ?_
  refine lv_istore (lv' := [(4, .int (0 : Int32)), (3, .int (0 : Int32)), (2, .int x2_3), (0, .ref (cdA g 1)), (1, .int v1)]) hx hb dX3_fitting_15 hl (by decide) rfl (fun ls hl => ?_)
  exact hB _ _ _ hP hS (lv_sub hl [3, 4, 2, 1, 0] rfl)
def wp_X3_firstFault  (σ : cdS) (Q : Int32 → Prop) : Prop :=
  ∀ (P12 : Int32 → Int32 → Int32 → Prop),
    (∀ (x1 : Int32) (x3 : Int32) (x4 : Int32), (
    ((x3 ≤ x4 →
    Q x1) ∧
    (¬ (x3 ≤ x4) →
    vp_in x4 3 ∧
    ∀ x5_3 : Int32, x5_3 = (cdSides (x4).toNatClampNeg) →
    wp_X3_fitting x5_3 σ (fun r_4 => 
    ∀ x1_6 : Int32, x1_6 = (if x1 < r_4 then r_4 else x1) →
    ∀ x4_7 : Int32, x4_7 = x4 + 1 →
    P12 x1_6 x3 x4_7)))) → P12 x1 x3 x4) →
    
    P12 (0 : Int32) (3 : Int32) (0 : Int32)
set_option maxHeartbeats 4000000 in
set_option maxRecDepth 100000 in
theorem c_X3_firstFault (l : Launch) (g : cdG)  (σ : cdS) (Q : Int32 → Prop) (hwp : wp_X3_firstFault  σ Q) : cdCi l g yX3_firstFault cX3_firstFault 6 (some .int) 2 46 [.ref (cdA g 1)] σ (fun r σ' => σ' = σ ∧ Q r) := by
  intro sz
  refine Met.ofW (cc := cX3_firstFault) (maxL := 6) (ret := (some .int)) (by decide) rfl ?_
  intro p e s m args below meth c s₁ B hml hv
  obtain ⟨rfl, hsz, hP, hK, hdi, hV⟩ := hv
  subst hsz
  have hx := B.exec
  have hb := B.bytes
  have hr := B.returns
  have hlocks := B.notSynchronized
  have hown : s.vm.findClass RX3 = some m.cls := findClass_of_methodNamed B.named
  have hts : ∀ w ∈ cdL, w.before _ s = true := fun w hw => atoms_spec (ws := cdWs yX3_firstFault cX3_firstFault 6 (some .int)) B.pre w (List.mem_cons_of_mem _ hw)
  have X : cdX p s m _ c cX3_firstFault 6 RX3 g := ⟨hx, hb, hml, hown, hts, hK, hdi, hV⟩
  have hS : va_S (cdZ g s.heap.size) s.heap s.heap [] := va_S.rf
  have hl := lv_entry ([.ref (cdA g 1)]) (n := 6) (Nat.le_of_ble_eq_true rfl)
  rw [lg_entry_eq]
  generalize (lg_sl ([.ref (cdA g 1)]) ++ List.replicate (6 - (lg_sl ([.ref (cdA g 1)])).length) Slot.unset).toArray = ls at hl ⊢
  have hl : lv_has ls 6 [(0, .ref (cdA g 1))] := hl
  obtain ⟨Qm, hQm⟩ : ∃ z, z = MQ below (va_Qi (fun r σ' => σ' = σ ∧ Q r) (fun σ' t => va_P (cdD g) vwCl (cdW g σ') t.heap) (cdZ g s.heap.size)) ([.ref (cdA g 1)] : List Value).toArray s 0 0 (cdZ g s.heap.size) := ⟨_, rfl⟩
  rw [← hQm]
  have hB := hwp (fun (x1 : Int32) (x3 : Int32) (x4 : Int32) => cdCut p l e (headSpec (cdWs yX3_firstFault cX3_firstFault 6 (some .int)) (cdRm 2 46)).room s m ([.ref (cdA g 1)] : List Value).toArray below meth c Qm g 6 12 [(0, .ref (cdA g 1)), (1, .int x1), (2, .ref (cdSd g)), (3, .int x3), (4, .int x4)] [] σ)
    (by
    intro x1 x3 x4 hB H locs ls hP hS hl
    refine lv_iload hx hb dX3_firstFault_12 (lv_at hl 4 rfl) ?_
    refine lv_iload_n hx hb dX3_firstFault_14 rfl (lv_at hl 3 rfl) ?_
    refine lv_icmp_ge (tgt := 41) hx hb dX3_firstFault_15 (by decide) (fun c_1 => ?_) (fun c_1 => ?_)
    · have hB := hB.1 c_1
      refine lv_iload_n hx hb dX3_firstFault_41 rfl (lv_at hl 1 rfl) ?_
      rw [hQm]
      exact W.iret hx hb hr (fun t ht hW => ⟨⟨x1, σ, rfl, ⟨rfl, hB⟩, cd_hp ht hP⟩, hS.F ht⟩) hS.2.2 dX3_firstFault_42
    · have hB := hB.2 c_1
      refine lv_aload_n hx hb dX3_firstFault_18 rfl (lv_at hl 2 rfl) ?_
      refine lv_iload hx hb dX3_firstFault_19 (lv_at hl 4 rfl) ?_
      obtain ⟨i_2, hB⟩ := hB
      refine cd_sld X hS i_2 dX3_firstFault_21 ?_
      refine lv_topi (fun x5_3 ex5_3 => ?_)
      have hB := hB x5_3 ex5_3
      refine lv_istore (lv' := [(5, .int x5_3), (0, .ref (cdA g 1)), (1, .int x1), (2, .ref (cdSd g)), (3, .int x3), (4, .int x4)]) hx hb dX3_firstFault_22 hl (by decide) rfl (fun ls hl => ?_)
      refine lv_iload_n hx hb dX3_firstFault_24 rfl (lv_at hl 2 rfl) ?_
      refine lv_aload_n hx hb dX3_firstFault_25 rfl (lv_at hl 1 rfl) ?_
      refine lv_iload hx hb dX3_firstFault_26 (lv_at hl 0 rfl) ?_
      refine cd_ci (cd_runV (As := [.int x5_3]) (rest := [.int x1]) (σ := σ) (k := 1) (ci := 3) X wm_X3_20 (by decide) rfl rfl rfl (c_X3_fitting l g x5_3 σ _ hB _) hP hS rfl rfl hl.1 (Nat.le_of_ble_eq_true rfl) ⟨Nat.le_of_ble_eq_true rfl, Nat.le_of_ble_eq_true rfl⟩ ⟨Nat.zero_le _, Nat.zero_le _⟩ dX3_firstFault_28) hS (fun r_4 σ_5 H locs hB hP hS => ?_)
      obtain ⟨eσ_5, hB⟩ := hB
      rw [eσ_5] at hP
      refine va_mmax hx hb (hml.trans hl.1.symm) hown (hts _ wm_X3_24) (hts _ ws_max) (hts _ wi_Math) (hts _ wk_max) (Nat.le_of_ble_eq_true rfl) (Nat.le_of_ble_eq_true rfl) (Nat.zero_le _) (Nat.zero_le _) dX3_firstFault_31 ?_
      refine lv_topi (fun x1_6 ex1_6 => ?_)
      have hB := hB x1_6 ex1_6
      refine lv_istore_n (lv' := [(1, .int x1_6), (5, .int x5_3), (0, .ref (cdA g 1)), (2, .ref (cdSd g)), (3, .int x3), (4, .int x4)]) hx hb dX3_firstFault_34 rfl hl (by decide) rfl (fun ls hl => ?_)
      obtain ⟨x4_7, ex4_7⟩ : ∃ z : Int32, z = x4 + 1 := ⟨_, rfl⟩
      have hB := hB x4_7 ex4_7
      refine lv_iinc (v := x4_7) (lv' := [(4, .int x4_7), (1, .int x1_6), (5, .int x5_3), (0, .ref (cdA g 1)), (2, .ref (cdSd g)), (3, .int x3)]) hx hb dX3_firstFault_35 hl (k := 5) rfl (by rw [ex4_7]; rfl) (by decide) rfl (fun ls hl => ?_)
      refine lv_goto (tgt := 12) hx hb dX3_firstFault_38 (by decide) ?_
      exact hB _ _ _ hP hS (lv_sub hl [3, 1, 4, 5, 0] rfl))
  refine lv_iconst (v := 0) hx hb dX3_firstFault_0 (by decide) ?_
  refine lv_istore_n (lv' := [(1, .int (0 : Int32)), (0, .ref (cdA g 1))]) hx hb dX3_firstFault_1 rfl hl (by decide) rfl (fun ls hl => ?_)
  refine cd_gts X hS wf_X3_17 dX3_firstFault_2 ?_
  refine lv_astore_n (lv' := [(2, .ref (cdSd g)), (1, .int (0 : Int32)), (0, .ref (cdA g 1))]) hx hb dX3_firstFault_5 rfl hl (by decide) rfl (fun ls hl => ?_)
  refine lv_aload_n hx hb dX3_firstFault_6 rfl (lv_at hl 0 rfl) ?_
  refine cd_sln X hS dX3_firstFault_7 ?_
  refine lv_istore_n (lv' := [(3, .int (3 : Int32)), (2, .ref (cdSd g)), (1, .int (0 : Int32)), (0, .ref (cdA g 1))]) hx hb dX3_firstFault_8 rfl hl (by decide) rfl (fun ls hl => ?_)
  refine lv_iconst (v := 0) hx hb dX3_firstFault_9 (by decide) ?_
  refine lv_istore (lv' := [(4, .int (0 : Int32)), (3, .int (3 : Int32)), (2, .ref (cdSd g)), (1, .int (0 : Int32)), (0, .ref (cdA g 1))]) hx hb dX3_firstFault_10 hl (by decide) rfl (fun ls hl => ?_)
  exact hB _ _ _ hP hS (lv_sub hl [4, 3, 2, 1, 0] rfl)
def wp_X3_length  (σ : cdS) (Q : Int32 → Prop) : Prop :=
  
    Q (σ.1 1 1)
set_option maxHeartbeats 4000000 in
set_option maxRecDepth 100000 in
theorem c_X3_length (l : Launch) (g : cdG)  (σ : cdS) (Q : Int32 → Prop) (hwp : wp_X3_length  σ Q) : cdCi l g yX3_length cX3_length 1 (some .int) 0 0 [.ref (cdA g 1)] σ (fun r σ' => σ' = σ ∧ Q r) := by
  intro sz
  refine Met.ofW (cc := cX3_length) (maxL := 1) (ret := (some .int)) (by decide) rfl ?_
  intro p e s m args below meth c s₁ B hml hv
  obtain ⟨rfl, hsz, hP, hK, hdi, hV⟩ := hv
  subst hsz
  have hx := B.exec
  have hb := B.bytes
  have hr := B.returns
  have hlocks := B.notSynchronized
  have hown : s.vm.findClass RX3 = some m.cls := findClass_of_methodNamed B.named
  have hts : ∀ w ∈ cdL, w.before _ s = true := fun w hw => atoms_spec (ws := cdWs yX3_length cX3_length 1 (some .int)) B.pre w (List.mem_cons_of_mem _ hw)
  have X : cdX p s m _ c cX3_length 1 RX3 g := ⟨hx, hb, hml, hown, hts, hK, hdi, hV⟩
  have hS : va_S (cdZ g s.heap.size) s.heap s.heap [] := va_S.rf
  have hl := lv_entry ([.ref (cdA g 1)]) (n := 1) (Nat.le_of_ble_eq_true rfl)
  rw [lg_entry_eq]
  generalize (lg_sl ([.ref (cdA g 1)]) ++ List.replicate (1 - (lg_sl ([.ref (cdA g 1)])).length) Slot.unset).toArray = ls at hl ⊢
  have hl : lv_has ls 1 [(0, .ref (cdA g 1))] := hl
  obtain ⟨Qm, hQm⟩ : ∃ z, z = MQ below (va_Qi (fun r σ' => σ' = σ ∧ Q r) (fun σ' t => va_P (cdD g) vwCl (cdW g σ') t.heap) (cdZ g s.heap.size)) ([.ref (cdA g 1)] : List Value).toArray s 0 0 (cdZ g s.heap.size) := ⟨_, rfl⟩
  rw [← hQm]
  have hB := hwp
  refine lv_aload_n hx hb dX3_length_0 rfl (lv_at hl 0 rfl) ?_
  refine cd_get X hP (C := RX3) (T := TX3) (N := 2) (ci := 3) (k := 1) (j := 1) (v := .int (σ.1 1 1)) inX3 (by decide) rfl rfl (by decide) wf_X3_13 rfl rfl dX3_length_1 ?_
  rw [hQm]
  exact W.iret hx hb hr (fun t ht hW => ⟨⟨(σ.1 1 1), σ, rfl, ⟨rfl, hB⟩, cd_hp ht hP⟩, hS.F ht⟩) hS.2.2 dX3_length_4
def wp_X3_sideOfHead  (σ : cdS) (Q : Int32 → Prop) : Prop :=
  ∀ (P9 : Int32 → Int32 → Prop) (P47 : Int32 → Int32 → Prop),
    (∀ (x2 : Int32) (x3 : Int32), (
    ((x2 ≤ x3 →
    Q (0 : Int32)) ∧
    (¬ (x2 ≤ x3) →
    vp_in x3 3 ∧
    ∀ x4_3 : Int32, x4_3 = (cdSides (x3).toNatClampNeg) →
    wp_X3_lettersOf x4_3 σ (fun r_4 => 
    ((¬ (σ.1 1 1) = r_4 →
    P47 x2 x3) ∧
    ((σ.1 1 1) = r_4 →
    wp_X3_fitting x4_3 σ (fun r_7 => 
    ((¬ r_7 = (σ.1 1 1) →
    P47 x2 x3) ∧
    (r_7 = (σ.1 1 1) →
    Q x4_3))))))))) → P9 x2 x3) →
    (∀ (x2 : Int32) (x3 : Int32), (
    ∀ x3_10 : Int32, x3_10 = x3 + 1 →
    P9 x2 x3_10) → P47 x2 x3) →
    
    P9 (3 : Int32) (0 : Int32)
set_option maxHeartbeats 4000000 in
set_option maxRecDepth 100000 in
theorem c_X3_sideOfHead (l : Launch) (g : cdG)  (σ : cdS) (Q : Int32 → Prop) (hwp : wp_X3_sideOfHead  σ Q) : cdCi l g yX3_sideOfHead cX3_sideOfHead 5 (some .int) 2 46 [.ref (cdA g 1)] σ (fun r σ' => σ' = σ ∧ Q r) := by
  intro sz
  refine Met.ofW (cc := cX3_sideOfHead) (maxL := 5) (ret := (some .int)) (by decide) rfl ?_
  intro p e s m args below meth c s₁ B hml hv
  obtain ⟨rfl, hsz, hP, hK, hdi, hV⟩ := hv
  subst hsz
  have hx := B.exec
  have hb := B.bytes
  have hr := B.returns
  have hlocks := B.notSynchronized
  have hown : s.vm.findClass RX3 = some m.cls := findClass_of_methodNamed B.named
  have hts : ∀ w ∈ cdL, w.before _ s = true := fun w hw => atoms_spec (ws := cdWs yX3_sideOfHead cX3_sideOfHead 5 (some .int)) B.pre w (List.mem_cons_of_mem _ hw)
  have X : cdX p s m _ c cX3_sideOfHead 5 RX3 g := ⟨hx, hb, hml, hown, hts, hK, hdi, hV⟩
  have hS : va_S (cdZ g s.heap.size) s.heap s.heap [] := va_S.rf
  have hl := lv_entry ([.ref (cdA g 1)]) (n := 5) (Nat.le_of_ble_eq_true rfl)
  rw [lg_entry_eq]
  generalize (lg_sl ([.ref (cdA g 1)]) ++ List.replicate (5 - (lg_sl ([.ref (cdA g 1)])).length) Slot.unset).toArray = ls at hl ⊢
  have hl : lv_has ls 5 [(0, .ref (cdA g 1))] := hl
  obtain ⟨Qm, hQm⟩ : ∃ z, z = MQ below (va_Qi (fun r σ' => σ' = σ ∧ Q r) (fun σ' t => va_P (cdD g) vwCl (cdW g σ') t.heap) (cdZ g s.heap.size)) ([.ref (cdA g 1)] : List Value).toArray s 0 0 (cdZ g s.heap.size) := ⟨_, rfl⟩
  rw [← hQm]
  have hB := hwp (fun (x2 : Int32) (x3 : Int32) => cdCut p l e (headSpec (cdWs yX3_sideOfHead cX3_sideOfHead 5 (some .int)) (cdRm 2 46)).room s m ([.ref (cdA g 1)] : List Value).toArray below meth c Qm g 5 9 [(0, .ref (cdA g 1)), (1, .ref (cdSd g)), (2, .int x2), (3, .int x3)] [] σ)
    (fun (x2 : Int32) (x3 : Int32) => cdCut p l e (headSpec (cdWs yX3_sideOfHead cX3_sideOfHead 5 (some .int)) (cdRm 2 46)).room s m ([.ref (cdA g 1)] : List Value).toArray below meth c Qm g 5 47 [(0, .ref (cdA g 1)), (1, .ref (cdSd g)), (2, .int x2), (3, .int x3)] [] σ)
    (by
    intro x2 x3 hB H locs ls hP hS hl
    refine lv_iload_n hx hb dX3_sideOfHead_9 rfl (lv_at hl 3 rfl) ?_
    refine lv_iload_n hx hb dX3_sideOfHead_10 rfl (lv_at hl 2 rfl) ?_
    refine lv_icmp_ge (tgt := 53) hx hb dX3_sideOfHead_11 (by decide) (fun c_1 => ?_) (fun c_1 => ?_)
    · have hB := hB.1 c_1
      refine lv_iconst (v := 0) hx hb dX3_sideOfHead_53 (by decide) ?_
      rw [hQm]
      exact W.iret hx hb hr (fun t ht hW => ⟨⟨(0 : Int32), σ, rfl, ⟨rfl, hB⟩, cd_hp ht hP⟩, hS.F ht⟩) hS.2.2 dX3_sideOfHead_54
    · have hB := hB.2 c_1
      refine lv_aload_n hx hb dX3_sideOfHead_14 rfl (lv_at hl 1 rfl) ?_
      refine lv_iload_n hx hb dX3_sideOfHead_15 rfl (lv_at hl 3 rfl) ?_
      obtain ⟨i_2, hB⟩ := hB
      refine cd_sld X hS i_2 dX3_sideOfHead_16 ?_
      refine lv_topi (fun x4_3 ex4_3 => ?_)
      have hB := hB x4_3 ex4_3
      refine lv_istore (lv' := [(4, .int x4_3), (0, .ref (cdA g 1)), (1, .ref (cdSd g)), (2, .int x2), (3, .int x3)]) hx hb dX3_sideOfHead_17 hl (by decide) rfl (fun ls hl => ?_)
      refine lv_aload_n hx hb dX3_sideOfHead_19 rfl (lv_at hl 1 rfl) ?_
      refine cd_get X hP (C := RX3) (T := TX3) (N := 2) (ci := 3) (k := 1) (j := 1) (v := .int (σ.1 1 1)) inX3 (by decide) rfl rfl (by decide) wf_X3_13 rfl rfl dX3_sideOfHead_20 ?_
      refine lv_iload hx hb dX3_sideOfHead_23 (lv_at hl 0 rfl) ?_
      refine cd_ci (cd_runS (As := [.int x4_3]) (rest := [.int (σ.1 1 1)]) (σ := σ) X wm_X3_30 (c_X3_lettersOf l g x4_3 σ _ hB _) hP hS rfl rfl hl.1 (Nat.le_of_ble_eq_true rfl) ⟨Nat.le_of_ble_eq_true rfl, Nat.le_of_ble_eq_true rfl⟩ ⟨Nat.zero_le _, Nat.zero_le _⟩ dX3_sideOfHead_25) hS (fun r_4 σ_5 H locs hB hP hS => ?_)
      obtain ⟨eσ_5, hB⟩ := hB
      rw [eσ_5] at hP
      refine lv_icmp_ne (tgt := 47) hx hb dX3_sideOfHead_28 (by decide) (fun c_6 => ?_) (fun c_6 => ?_)
      · have hB := hB.1 c_6
        exact hB _ _ _ hP hS (lv_sub hl [1, 2, 3, 4] rfl)
      · have hB := hB.2 c_6
        refine lv_aload_n hx hb dX3_sideOfHead_31 rfl (lv_at hl 1 rfl) ?_
        refine lv_iload hx hb dX3_sideOfHead_32 (lv_at hl 0 rfl) ?_
        refine cd_ci (cd_runV (As := [.int x4_3]) (rest := []) (σ := σ) (k := 1) (ci := 3) X wm_X3_20 (by decide) rfl rfl rfl (c_X3_fitting l g x4_3 σ _ hB _) hP hS rfl rfl hl.1 (Nat.le_of_ble_eq_true rfl) ⟨Nat.le_of_ble_eq_true rfl, Nat.le_of_ble_eq_true rfl⟩ ⟨Nat.zero_le _, Nat.zero_le _⟩ dX3_sideOfHead_34) hS (fun r_7 σ_8 H locs hB hP hS => ?_)
        obtain ⟨eσ_8, hB⟩ := hB
        rw [eσ_8] at hP
        refine lv_aload_n hx hb dX3_sideOfHead_37 rfl (lv_at hl 1 rfl) ?_
        refine cd_get X hP (C := RX3) (T := TX3) (N := 2) (ci := 3) (k := 1) (j := 1) (v := .int (σ.1 1 1)) inX3 (by decide) rfl rfl (by decide) wf_X3_13 rfl rfl dX3_sideOfHead_38 ?_
        refine lv_icmp_ne (tgt := 47) hx hb dX3_sideOfHead_41 (by decide) (fun c_9 => ?_) (fun c_9 => ?_)
        · have hB := hB.1 c_9
          exact hB _ _ _ hP hS (lv_sub hl [1, 2, 3, 4] rfl)
        · have hB := hB.2 c_9
          refine lv_iload hx hb dX3_sideOfHead_44 (lv_at hl 0 rfl) ?_
          rw [hQm]
          exact W.iret hx hb hr (fun t ht hW => ⟨⟨x4_3, σ, rfl, ⟨rfl, hB⟩, cd_hp ht hP⟩, hS.F ht⟩) hS.2.2 dX3_sideOfHead_46)
    (by
    intro x2 x3 hB H locs ls hP hS hl
    obtain ⟨x3_10, ex3_10⟩ : ∃ z : Int32, z = x3 + 1 := ⟨_, rfl⟩
    have hB := hB x3_10 ex3_10
    refine lv_iinc (v := x3_10) (lv' := [(3, .int x3_10), (0, .ref (cdA g 1)), (1, .ref (cdSd g)), (2, .int x2)]) hx hb dX3_sideOfHead_47 hl (k := 3) rfl (by rw [ex3_10]; rfl) (by decide) rfl (fun ls hl => ?_)
    refine lv_goto (tgt := 9) hx hb dX3_sideOfHead_50 (by decide) ?_
    exact hB _ _ _ hP hS (lv_sub hl [1, 2, 3, 0] rfl))
  refine cd_gts X hS wf_X3_17 dX3_sideOfHead_0 ?_
  refine lv_astore_n (lv' := [(1, .ref (cdSd g)), (0, .ref (cdA g 1))]) hx hb dX3_sideOfHead_3 rfl hl (by decide) rfl (fun ls hl => ?_)
  refine lv_aload_n hx hb dX3_sideOfHead_4 rfl (lv_at hl 0 rfl) ?_
  refine cd_sln X hS dX3_sideOfHead_5 ?_
  refine lv_istore_n (lv' := [(2, .int (3 : Int32)), (1, .ref (cdSd g)), (0, .ref (cdA g 1))]) hx hb dX3_sideOfHead_6 rfl hl (by decide) rfl (fun ls hl => ?_)
  refine lv_iconst (v := 0) hx hb dX3_sideOfHead_7 (by decide) ?_
  refine lv_istore_n (lv' := [(3, .int (0 : Int32)), (2, .int (3 : Int32)), (1, .ref (cdSd g)), (0, .ref (cdA g 1))]) hx hb dX3_sideOfHead_8 rfl hl (by decide) rfl (fun ls hl => ?_)
  exact hB _ _ _ hP hS (lv_sub hl [3, 2, 1, 0] rfl)
