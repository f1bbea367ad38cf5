def wp_X1_addWithin (n1 : Nat) (v2 : Int32) (v3 : Int32) (σ : cdS) (Q : cdS → Prop) : Prop :=
  ∀ (P3 : Int32 → cdS → Prop) (P15 : Int32 → Int32 → cdS → Prop),
    (∀ (x4 : Int32) (σ : cdS), (
    (((σ.1 4 4) ≤ x4 →
    Q σ) ∧
    (¬ ((σ.1 4 4) ≤ x4) →
    P15 x4 (0 : Int32) σ))) → P3 x4 σ) →
    (∀ (x4 : Int32) (x5 : Int32) (σ : cdS), (
    (((σ.1 4 3) ≤ x5 →
    ∀ x4_3 : Int32, x4_3 = x4 + 1 →
    P3 x4_3 σ) ∧
    (¬ ((σ.1 4 3) ≤ x5) →
    vp_in ((x4 * (σ.1 4 3)) + x5) 361 ∧
    n1 < 5 ∧ wp_X2_depthAt n1 (x5 - v2) (x4 - v3) σ (fun r_6 => 
    vp_in ((x4 * (σ.1 4 3)) + x5) 361 ∧ ∀ σ_9 : cdS, σ_9 = cdU σ 5 (((x4 * (σ.1 4 3)) + x5)).toNatClampNeg ((σ.1 5 (((x4 * (σ.1 4 3)) + x5)).toNatClampNeg) + r_6) →
    ∀ x5_10 : Int32, x5_10 = x5 + 1 →
    P15 x4 x5_10 σ_9)))) → P15 x4 x5 σ) →
    
    P3 (0 : Int32) σ
set_option maxHeartbeats 4000000 in
set_option maxRecDepth 100000 in
theorem c_X1_addWithin (l : Launch) (g : cdG) (n1 : Nat) (v2 : Int32) (v3 : Int32) (σ : cdS) (Q : cdS → Prop) (hwp : wp_X1_addWithin n1 v2 v3 σ Q) : cdCv l g yX1_addWithin cX1_addWithin 6 none 1 23 [.ref (cdA g 4), .ref (cdA g (9 + n1)), .int v2, .int v3] σ Q := by
  intro sz
  refine Met.ofW (cc := cX1_addWithin) (maxL := 6) (ret := none) (by decide) rfl ?_
  intro p e s m args below meth c s₁ B hml hv
  obtain ⟨rfl, hsz, hP, hK, hdi, hV⟩ := hv
  subst hsz
  have hx := B.exec
  have hb := B.bytes
  have hr := B.returns
  have hlocks := B.notSynchronized
  have hown : s.vm.findClass RX1 = some m.cls := findClass_of_methodNamed B.named
  have hts : ∀ w ∈ cdL, w.before _ s = true := fun w hw => atoms_spec (ws := cdWs yX1_addWithin cX1_addWithin 6 none) B.pre w (List.mem_cons_of_mem _ hw)
  have X : cdX p s m _ c cX1_addWithin 6 RX1 g := ⟨hx, hb, hml, hown, hts, hK, hdi, hV⟩
  have hS : va_S (cdZ g s.heap.size) s.heap s.heap [] := va_S.rf
  have hl := lv_entry ([.ref (cdA g 4), .ref (cdA g (9 + n1)), .int v2, .int v3]) (n := 6) (Nat.le_of_ble_eq_true rfl)
  rw [lg_entry_eq]
  generalize (lg_sl ([.ref (cdA g 4), .ref (cdA g (9 + n1)), .int v2, .int v3]) ++ List.replicate (6 - (lg_sl ([.ref (cdA g 4), .ref (cdA g (9 + n1)), .int v2, .int v3])).length) Slot.unset).toArray = ls at hl ⊢
  have hl : lv_has ls 6 [(0, .ref (cdA g 4)), (1, .ref (cdA g (9 + n1))), (2, .int v2), (3, .int v3)] := hl
  obtain ⟨Qm, hQm⟩ : ∃ z, z = MQ below (va_Qv Q (fun σ' t => va_P (cdD g) vwCl (cdW g σ') t.heap) (cdZ g s.heap.size)) ([.ref (cdA g 4), .ref (cdA g (9 + n1)), .int v2, .int v3] : List Value).toArray s 0 0 (cdZ g s.heap.size) := ⟨_, rfl⟩
  rw [← hQm]
  have hB := hwp (fun (x4 : Int32) (σ : cdS) => cdCut p l e (headSpec (cdWs yX1_addWithin cX1_addWithin 6 none) (cdRm 1 23)).room s m ([.ref (cdA g 4), .ref (cdA g (9 + n1)), .int v2, .int v3] : List Value).toArray below meth c Qm g 6 3 [(0, .ref (cdA g 4)), (1, .ref (cdA g (9 + n1))), (2, .int v2), (3, .int v3), (4, .int x4)] [] σ)
    (fun (x4 : Int32) (x5 : Int32) (σ : cdS) => cdCut p l e (headSpec (cdWs yX1_addWithin cX1_addWithin 6 none) (cdRm 1 23)).room s m ([.ref (cdA g 4), .ref (cdA g (9 + n1)), .int v2, .int v3] : List Value).toArray below meth c Qm g 6 15 [(0, .ref (cdA g 4)), (1, .ref (cdA g (9 + n1))), (2, .int v2), (3, .int v3), (4, .int x4), (5, .int x5)] [] σ)
    (by
    intro x4 σ hB H locs ls hP hS hl
    refine lv_iload hx hb dX1_addWithin_3 (lv_at hl 4 rfl) ?_
    refine lv_aload_n hx hb dX1_addWithin_5 rfl (lv_at hl 0 rfl) ?_
    refine cd_get X hP (C := RX1) (T := TX1) (N := 5) (ci := 1) (k := 4) (j := 4) (v := .int (σ.1 4 4)) inX1 (by decide) rfl rfl (by decide) wf_X1_29 rfl rfl dX1_addWithin_6 ?_
    refine lv_icmp_ge (tgt := 66) hx hb dX1_addWithin_9 (by decide) (fun c_1 => ?_) (fun c_1 => ?_)
    · have hB := hB.1 c_1
      rw [hQm]
      exact W.vret hx hb hr (fun t ht hW => ⟨⟨σ, rfl, hB, cd_hp ht hP⟩, hS.F ht⟩) hS.2.2 dX1_addWithin_66
    · have hB := hB.2 c_1
      refine lv_iconst (v := 0) hx hb dX1_addWithin_12 (by decide) ?_
      refine lv_istore (lv' := [(5, .int (0 : Int32)), (0, .ref (cdA g 4)), (1, .ref (cdA g (9 + n1))), (2, .int v2), (3, .int v3), (4, .int x4)]) hx hb dX1_addWithin_13 hl (by decide) rfl (fun ls hl => ?_)
      exact hB _ _ _ hP hS (lv_sub hl [1, 2, 3, 4, 5, 0] rfl))
    (by
    intro x4 x5 σ hB H locs ls hP hS hl
    refine lv_iload hx hb dX1_addWithin_15 (lv_at hl 5 rfl) ?_
    refine lv_aload_n hx hb dX1_addWithin_17 rfl (lv_at hl 0 rfl) ?_
    refine cd_get X hP (C := RX1) (T := TX1) (N := 5) (ci := 1) (k := 4) (j := 3) (v := .int (σ.1 4 3)) inX1 (by decide) rfl rfl (by decide) wf_X1_25 rfl rfl dX1_addWithin_18 ?_
    refine lv_icmp_ge (tgt := 60) hx hb dX1_addWithin_21 (by decide) (fun c_2 => ?_) (fun c_2 => ?_)
    · have hB := hB.1 c_2
      obtain ⟨x4_3, ex4_3⟩ : ∃ z : Int32, z = x4 + 1 := ⟨_, rfl⟩
      have hB := hB x4_3 ex4_3
      refine lv_iinc (v := x4_3) (lv' := [(4, .int x4_3), (0, .ref (cdA g 4)), (1, .ref (cdA g (9 + n1))), (2, .int v2), (3, .int v3), (5, .int x5)]) hx hb dX1_addWithin_60 hl (k := 4) rfl (by rw [ex4_3]; rfl) (by decide) rfl (fun ls hl => ?_)
      refine lv_goto (tgt := 3) hx hb dX1_addWithin_63 (by decide) ?_
      exact hB _ _ _ hP hS (lv_sub hl [1, 2, 3, 4, 0] rfl)
    · have hB := hB.2 c_2
      refine lv_aload_n hx hb dX1_addWithin_24 rfl (lv_at hl 0 rfl) ?_
      refine cd_get X hP (C := RX1) (T := TX1) (N := 5) (ci := 1) (k := 4) (j := 0) (v := .ref (cdA g 5)) inX1 (by decide) rfl rfl (by decide) wf_X1_11 rfl rfl dX1_addWithin_25 ?_
      refine lv_iload hx hb dX1_addWithin_28 (lv_at hl 4 rfl) ?_
      refine lv_aload_n hx hb dX1_addWithin_30 rfl (lv_at hl 0 rfl) ?_
      refine cd_get X hP (C := RX1) (T := TX1) (N := 5) (ci := 1) (k := 4) (j := 3) (v := .int (σ.1 4 3)) inX1 (by decide) rfl rfl (by decide) wf_X1_25 rfl rfl dX1_addWithin_31 ?_
      refine lv_imul hx hb dX1_addWithin_34 ?_
      refine lv_iload hx hb dX1_addWithin_35 (lv_at hl 5 rfl) ?_
      refine lv_iadd hx hb dX1_addWithin_37 ?_
      refine lv_dup2_11 hx hb dX1_addWithin_38 rfl rfl ?_
      obtain ⟨i_4, hB⟩ := hB
      refine cd_ald X hP (k := 5) (N := 361) (by decide) rfl i_4 dX1_addWithin_39 ?_
      refine lv_aload_n hx hb dX1_addWithin_40 rfl (lv_at hl 1 rfl) ?_
      refine lv_iload hx hb dX1_addWithin_41 (lv_at hl 5 rfl) ?_
      refine lv_iload_n hx hb dX1_addWithin_43 rfl (lv_at hl 2 rfl) ?_
      refine lv_isub hx hb dX1_addWithin_44 ?_
      refine lv_iload hx hb dX1_addWithin_45 (lv_at hl 4 rfl) ?_
      refine lv_iload_n hx hb dX1_addWithin_47 rfl (lv_at hl 3 rfl) ?_
      refine lv_isub hx hb dX1_addWithin_48 ?_
      obtain ⟨k_5, hB⟩ := hB
      refine cd_ci (cd_runV (As := [.int (x5 - v2), .int (x4 - v3)]) (rest := [.int (σ.1 5 (((x4 * (σ.1 4 3)) + x5)).toNatClampNeg), .int ((x4 * (σ.1 4 3)) + x5), .ref (cdA g 5)]) (σ := σ) (k := 9 + n1) (ci := 2) X wm_X1_61 (show 9 + n1 < 24 by omega) (cdE_head g σ k_5) rfl rfl (c_X2_depthAt l g n1 (x5 - v2) (x4 - v3) σ _ hB _) hP hS rfl rfl hl.1 (Nat.le_of_ble_eq_true rfl) ⟨Nat.le_of_ble_eq_true rfl, Nat.le_of_ble_eq_true rfl⟩ ⟨Nat.zero_le _, Nat.zero_le _⟩ dX1_addWithin_49) hS (fun r_6 σ_7 H locs hB hP hS => ?_)
      obtain ⟨eσ_7, hB⟩ := hB
      rw [eσ_7] at hP
      refine lv_iadd hx hb dX1_addWithin_52 ?_
      obtain ⟨i_8, hB⟩ := hB
      refine cd_ast X hP hS (k := 5) (N := 361) (by decide) (fun _ => rfl) i_8 dX1_addWithin_53 (fun H locs hP hS => ?_)
      obtain ⟨σ_9, eσ_9⟩ : ∃ z : cdS, z = cdU σ 5 (((x4 * (σ.1 4 3)) + x5)).toNatClampNeg ((σ.1 5 (((x4 * (σ.1 4 3)) + x5)).toNatClampNeg) + r_6) := ⟨_, rfl⟩
      rw [← eσ_9] at hP
      have hB := hB σ_9 eσ_9
      obtain ⟨x5_10, ex5_10⟩ : ∃ z : Int32, z = x5 + 1 := ⟨_, rfl⟩
      have hB := hB x5_10 ex5_10
      refine lv_iinc (v := x5_10) (lv' := [(5, .int x5_10), (0, .ref (cdA g 4)), (1, .ref (cdA g (9 + n1))), (2, .int v2), (3, .int v3), (4, .int x4)]) hx hb dX1_addWithin_54 hl (k := 5) rfl (by rw [ex5_10]; rfl) (by decide) rfl (fun ls hl => ?_)
      refine lv_goto (tgt := 15) hx hb dX1_addWithin_57 (by decide) ?_
      exact hB _ _ _ hP hS (lv_sub hl [1, 2, 3, 4, 5, 0] rfl))
  refine lv_iconst (v := 0) hx hb dX1_addWithin_0 (by decide) ?_
  refine lv_istore (lv' := [(4, .int (0 : Int32)), (0, .ref (cdA g 4)), (1, .ref (cdA g (9 + n1))), (2, .int v2), (3, .int v3)]) hx hb dX1_addWithin_1 hl (by decide) rfl (fun ls hl => ?_)
  exact hB _ _ _ hP hS (lv_sub hl [1, 2, 3, 4, 0] rfl)
def wp_X1_wrappedPlace (v1 : Int32) (v2 : Int32) (σ : cdS) (Q : Int32 → Prop) : Prop :=
  
    wp_J9_floorMod_7cf53 v2 (σ.1 4 4) σ (fun r_1 => 
    wp_J9_floorMod_7cf53 v1 (σ.1 4 3) σ (fun r_3 => 
    Q ((r_1 * (σ.1 4 3)) + r_3)))
set_option maxHeartbeats 4000000 in
set_option maxRecDepth 100000 in
theorem c_X1_wrappedPlace (l : Launch) (g : cdG) (v1 : Int32) (v2 : Int32) (σ : cdS) (Q : Int32 → Prop) (hwp : wp_X1_wrappedPlace v1 v2 σ Q) : cdCi l g yX1_wrappedPlace cX1_wrappedPlace 3 (some .int) 1 22 [.ref (cdA g 4), .int v1, .int v2] σ (fun r σ' => σ' = σ ∧ Q r) := by
  intro sz
  refine Met.ofW (cc := cX1_wrappedPlace) (maxL := 3) (ret := (some .int)) (by decide) rfl ?_
  intro p e s m args below meth c s₁ B hml hv
  obtain ⟨rfl, hsz, hP, hK, hdi, hV⟩ := hv
  subst hsz
  have hx := B.exec
  have hb := B.bytes
  have hr := B.returns
  have hlocks := B.notSynchronized
  have hown : s.vm.findClass RX1 = some m.cls := findClass_of_methodNamed B.named
  have hts : ∀ w ∈ cdL, w.before _ s = true := fun w hw => atoms_spec (ws := cdWs yX1_wrappedPlace cX1_wrappedPlace 3 (some .int)) B.pre w (List.mem_cons_of_mem _ hw)
  have X : cdX p s m _ c cX1_wrappedPlace 3 RX1 g := ⟨hx, hb, hml, hown, hts, hK, hdi, hV⟩
  have hS : va_S (cdZ g s.heap.size) s.heap s.heap [] := va_S.rf
  have hl := lv_entry ([.ref (cdA g 4), .int v1, .int v2]) (n := 3) (Nat.le_of_ble_eq_true rfl)
  rw [lg_entry_eq]
  generalize (lg_sl ([.ref (cdA g 4), .int v1, .int v2]) ++ List.replicate (3 - (lg_sl ([.ref (cdA g 4), .int v1, .int v2])).length) Slot.unset).toArray = ls at hl ⊢
  have hl : lv_has ls 3 [(0, .ref (cdA g 4)), (1, .int v1), (2, .int v2)] := hl
  obtain ⟨Qm, hQm⟩ : ∃ z, z = MQ below (va_Qi (fun r σ' => σ' = σ ∧ Q r) (fun σ' t => va_P (cdD g) vwCl (cdW g σ') t.heap) (cdZ g s.heap.size)) ([.ref (cdA g 4), .int v1, .int v2] : List Value).toArray s 0 0 (cdZ g s.heap.size) := ⟨_, rfl⟩
  rw [← hQm]
  have hB := hwp
  refine lv_iload_n hx hb dX1_wrappedPlace_0 rfl (lv_at hl 2 rfl) ?_
  refine lv_aload_n hx hb dX1_wrappedPlace_1 rfl (lv_at hl 0 rfl) ?_
  refine cd_get X hP (C := RX1) (T := TX1) (N := 5) (ci := 1) (k := 4) (j := 4) (v := .int (σ.1 4 4)) inX1 (by decide) rfl rfl (by decide) wf_X1_29 rfl rfl dX1_wrappedPlace_2 ?_
  refine cd_ci (cd_runS (As := [.int v2, .int (σ.1 4 4)]) (rest := []) (σ := σ) X wm_X1_95 (c_J9_floorMod_7cf53 l g v2 (σ.1 4 4) σ _ hB _) hP hS rfl rfl hl.1 (Nat.le_of_ble_eq_true rfl) ⟨Nat.le_of_ble_eq_true rfl, Nat.le_of_ble_eq_true rfl⟩ ⟨Nat.zero_le _, Nat.zero_le _⟩ dX1_wrappedPlace_5) hS (fun r_1 σ_2 H locs hB hP hS => ?_)
  obtain ⟨eσ_2, hB⟩ := hB
  rw [eσ_2] at hP
  refine lv_aload_n hx hb dX1_wrappedPlace_8 rfl (lv_at hl 0 rfl) ?_
  refine cd_get X hP (C := RX1) (T := TX1) (N := 5) (ci := 1) (k := 4) (j := 3) (v := .int (σ.1 4 3)) inX1 (by decide) rfl rfl (by decide) wf_X1_25 rfl rfl dX1_wrappedPlace_9 ?_
  refine lv_imul hx hb dX1_wrappedPlace_12 ?_
  refine lv_iload_n hx hb dX1_wrappedPlace_13 rfl (lv_at hl 1 rfl) ?_
  refine lv_aload_n hx hb dX1_wrappedPlace_14 rfl (lv_at hl 0 rfl) ?_
  refine cd_get X hP (C := RX1) (T := TX1) (N := 5) (ci := 1) (k := 4) (j := 3) (v := .int (σ.1 4 3)) inX1 (by decide) rfl rfl (by decide) wf_X1_25 rfl rfl dX1_wrappedPlace_15 ?_
  refine cd_ci (cd_runS (As := [.int v1, .int (σ.1 4 3)]) (rest := [.int (r_1 * (σ.1 4 3))]) (σ := σ) X wm_X1_95 (c_J9_floorMod_7cf53 l g v1 (σ.1 4 3) σ _ hB _) hP hS rfl rfl hl.1 (Nat.le_of_ble_eq_true rfl) ⟨Nat.le_of_ble_eq_true rfl, Nat.le_of_ble_eq_true rfl⟩ ⟨Nat.zero_le _, Nat.zero_le _⟩ dX1_wrappedPlace_18) hS (fun r_3 σ_4 H locs hB hP hS => ?_)
  obtain ⟨eσ_4, hB⟩ := hB
  rw [eσ_4] at hP
  refine lv_iadd hx hb dX1_wrappedPlace_21 ?_
  rw [hQm]
  exact W.iret hx hb hr (fun t ht hW => ⟨⟨((r_1 * (σ.1 4 3)) + r_3), σ, rfl, ⟨rfl, hB⟩, cd_hp ht hP⟩, hS.F ht⟩) hS.2.2 dX1_wrappedPlace_22
def wp_X1_addWrapped (n1 : Nat) (v2 : Int32) (v3 : Int32) (σ : cdS) (Q : cdS → Prop) : Prop :=
  ∀ (P11 : Int32 → Int32 → cdS → Prop) (P23 : Int32 → Int32 → Int32 → cdS → Prop),
    (∀ (x4 : Int32) (x5 : Int32) (σ : cdS), (
    ((x4 < x5 →
    Q σ) ∧
    (¬ (x4 < x5) →
    ∀ x6_6 : Int32, x6_6 = (-x4) →
    P23 x4 x5 x6_6 σ))) → P11 x4 x5 σ) →
    (∀ (x4 : Int32) (x5 : Int32) (x6 : Int32) (σ : cdS), (
    ((x4 < x6 →
    ∀ x5_8 : Int32, x5_8 = x5 + 1 →
    P11 x4 x5_8 σ) ∧
    (¬ (x4 < x6) →
    wp_X1_wrappedPlace (v2 + x6) (v3 + x5) σ (fun r_9 => 
    vp_in r_9 361 ∧
    n1 < 5 ∧ wp_X2_depthAt n1 x6 x5 σ (fun r_13 => 
    vp_in r_9 361 ∧ ∀ σ_16 : cdS, σ_16 = cdU σ 5 (r_9).toNatClampNeg ((σ.1 5 (r_9).toNatClampNeg) + r_13) →
    ∀ x6_17 : Int32, x6_17 = x6 + 1 →
    P23 x4 x5 x6_17 σ_16))))) → P23 x4 x5 x6 σ) →
    
    n1 < 5 ∧ wp_X2_reach n1 σ (fun r_2 => 
    ∀ x5_4 : Int32, x5_4 = (-r_2) →
    P11 r_2 x5_4 σ)
set_option maxHeartbeats 4000000 in
set_option maxRecDepth 100000 in
theorem c_X1_addWrapped (l : Launch) (g : cdG) (n1 : Nat) (v2 : Int32) (v3 : Int32) (σ : cdS) (Q : cdS → Prop) (hwp : wp_X1_addWrapped n1 v2 v3 σ Q) : cdCv l g yX1_addWrapped cX1_addWrapped 7 none 2 44 [.ref (cdA g 4), .ref (cdA g (9 + n1)), .int v2, .int v3] σ Q := by
  intro sz
  refine Met.ofW (cc := cX1_addWrapped) (maxL := 7) (ret := none) (by decide) rfl ?_
  intro p e s m args below meth c s₁ B hml hv
  obtain ⟨rfl, hsz, hP, hK, hdi, hV⟩ := hv
  subst hsz
  have hx := B.exec
  have hb := B.bytes
  have hr := B.returns
  have hlocks := B.notSynchronized
  have hown : s.vm.findClass RX1 = some m.cls := findClass_of_methodNamed B.named
  have hts : ∀ w ∈ cdL, w.before _ s = true := fun w hw => atoms_spec (ws := cdWs yX1_addWrapped cX1_addWrapped 7 none) B.pre w (List.mem_cons_of_mem _ hw)
  have X : cdX p s m _ c cX1_addWrapped 7 RX1 g := ⟨hx, hb, hml, hown, hts, hK, hdi, hV⟩
  have hS : va_S (cdZ g s.heap.size) s.heap s.heap [] := va_S.rf
  have hl := lv_entry ([.ref (cdA g 4), .ref (cdA g (9 + n1)), .int v2, .int v3]) (n := 7) (Nat.le_of_ble_eq_true rfl)
  rw [lg_entry_eq]
  generalize (lg_sl ([.ref (cdA g 4), .ref (cdA g (9 + n1)), .int v2, .int v3]) ++ List.replicate (7 - (lg_sl ([.ref (cdA g 4), .ref (cdA g (9 + n1)), .int v2, .int v3])).length) Slot.unset).toArray = ls at hl ⊢
  have hl : lv_has ls 7 [(0, .ref (cdA g 4)), (1, .ref (cdA g (9 + n1))), (2, .int v2), (3, .int v3)] := hl
  obtain ⟨Qm, hQm⟩ : ∃ z, z = MQ below (va_Qv Q (fun σ' t => va_P (cdD g) vwCl (cdW g σ') t.heap) (cdZ g s.heap.size)) ([.ref (cdA g 4), .ref (cdA g (9 + n1)), .int v2, .int v3] : List Value).toArray s 0 0 (cdZ g s.heap.size) := ⟨_, rfl⟩
  rw [← hQm]
  have hB := hwp (fun (x4 : Int32) (x5 : Int32) (σ : cdS) => cdCut p l e (headSpec (cdWs yX1_addWrapped cX1_addWrapped 7 none) (cdRm 2 44)).room s m ([.ref (cdA g 4), .ref (cdA g (9 + n1)), .int v2, .int v3] : List Value).toArray below meth c Qm g 7 11 [(0, .ref (cdA g 4)), (1, .ref (cdA g (9 + n1))), (2, .int v2), (3, .int v3), (4, .int x4), (5, .int x5)] [] σ)
    (fun (x4 : Int32) (x5 : Int32) (x6 : Int32) (σ : cdS) => cdCut p l e (headSpec (cdWs yX1_addWrapped cX1_addWrapped 7 none) (cdRm 2 44)).room s m ([.ref (cdA g 4), .ref (cdA g (9 + n1)), .int v2, .int v3] : List Value).toArray below meth c Qm g 7 23 [(0, .ref (cdA g 4)), (1, .ref (cdA g (9 + n1))), (2, .int v2), (3, .int v3), (4, .int x4), (5, .int x5), (6, .int x6)] [] σ)
    (by
    intro x4 x5 σ hB H locs ls hP hS hl
    refine lv_iload hx hb dX1_addWrapped_11 (lv_at hl 5 rfl) ?_
    refine lv_iload hx hb dX1_addWrapped_13 (lv_at hl 4 rfl) ?_
    refine lv_icmp_gt (tgt := 70) hx hb dX1_addWrapped_15 (by decide) (fun c_5 => ?_) (fun c_5 => ?_)
    · have hB := hB.1 c_5
      rw [hQm]
      exact W.vret hx hb hr (fun t ht hW => ⟨⟨σ, rfl, hB, cd_hp ht hP⟩, hS.F ht⟩) hS.2.2 dX1_addWrapped_70
    · have hB := hB.2 c_5
      refine lv_iload hx hb dX1_addWrapped_18 (lv_at hl 4 rfl) ?_
      refine lv_ineg hx hb dX1_addWrapped_20 ?_
      refine lv_topi (fun x6_6 ex6_6 => ?_)
      have hB := hB x6_6 ex6_6
      refine lv_istore (lv' := [(6, .int x6_6), (0, .ref (cdA g 4)), (1, .ref (cdA g (9 + n1))), (2, .int v2), (3, .int v3), (4, .int x4), (5, .int x5)]) hx hb dX1_addWrapped_21 hl (by decide) rfl (fun ls hl => ?_)
      exact hB _ _ _ hP hS (lv_sub hl [1, 2, 3, 4, 5, 6, 0] rfl))
    (by
    intro x4 x5 x6 σ hB H locs ls hP hS hl
    refine lv_iload hx hb dX1_addWrapped_23 (lv_at hl 6 rfl) ?_
    refine lv_iload hx hb dX1_addWrapped_25 (lv_at hl 4 rfl) ?_
    refine lv_icmp_gt (tgt := 64) hx hb dX1_addWrapped_27 (by decide) (fun c_7 => ?_) (fun c_7 => ?_)
    · have hB := hB.1 c_7
      obtain ⟨x5_8, ex5_8⟩ : ∃ z : Int32, z = x5 + 1 := ⟨_, rfl⟩
      have hB := hB x5_8 ex5_8
      refine lv_iinc (v := x5_8) (lv' := [(5, .int x5_8), (0, .ref (cdA g 4)), (1, .ref (cdA g (9 + n1))), (2, .int v2), (3, .int v3), (4, .int x4), (6, .int x6)]) hx hb dX1_addWrapped_64 hl (k := 5) rfl (by rw [ex5_8]; rfl) (by decide) rfl (fun ls hl => ?_)
      refine lv_goto (tgt := 11) hx hb dX1_addWrapped_67 (by decide) ?_
      exact hB _ _ _ hP hS (lv_sub hl [1, 2, 3, 4, 5, 0] rfl)
    · have hB := hB.2 c_7
      refine lv_aload_n hx hb dX1_addWrapped_30 rfl (lv_at hl 0 rfl) ?_
      refine cd_get X hP (C := RX1) (T := TX1) (N := 5) (ci := 1) (k := 4) (j := 0) (v := .ref (cdA g 5)) inX1 (by decide) rfl rfl (by decide) wf_X1_11 rfl rfl dX1_addWrapped_31 ?_
      refine lv_aload_n hx hb dX1_addWrapped_34 rfl (lv_at hl 0 rfl) ?_
      refine lv_iload_n hx hb dX1_addWrapped_35 rfl (lv_at hl 2 rfl) ?_
      refine lv_iload hx hb dX1_addWrapped_36 (lv_at hl 6 rfl) ?_
      refine lv_iadd hx hb dX1_addWrapped_38 ?_
      refine lv_iload_n hx hb dX1_addWrapped_39 rfl (lv_at hl 3 rfl) ?_
      refine lv_iload hx hb dX1_addWrapped_40 (lv_at hl 5 rfl) ?_
      refine lv_iadd hx hb dX1_addWrapped_42 ?_
      refine cd_ci (cd_runV (As := [.int (v2 + x6), .int (v3 + x5)]) (rest := [.ref (cdA g 5)]) (σ := σ) (k := 4) (ci := 1) X wm_X1_58 (by decide) rfl rfl rfl (c_X1_wrappedPlace l g (v2 + x6) (v3 + x5) σ _ hB _) hP hS rfl rfl hl.1 (Nat.le_of_ble_eq_true rfl) ⟨Nat.le_of_ble_eq_true rfl, Nat.le_of_ble_eq_true rfl⟩ ⟨Nat.zero_le _, Nat.zero_le _⟩ dX1_addWrapped_43) hS (fun r_9 σ_10 H locs hB hP hS => ?_)
      obtain ⟨eσ_10, hB⟩ := hB
      rw [eσ_10] at hP
      refine lv_dup2_11 hx hb dX1_addWrapped_46 rfl rfl ?_
      obtain ⟨i_11, hB⟩ := hB
      refine cd_ald X hP (k := 5) (N := 361) (by decide) rfl i_11 dX1_addWrapped_47 ?_
      refine lv_aload_n hx hb dX1_addWrapped_48 rfl (lv_at hl 1 rfl) ?_
      refine lv_iload hx hb dX1_addWrapped_49 (lv_at hl 6 rfl) ?_
      refine lv_iload hx hb dX1_addWrapped_51 (lv_at hl 5 rfl) ?_
      obtain ⟨k_12, hB⟩ := hB
      refine cd_ci (cd_runV (As := [.int x6, .int x5]) (rest := [.int (σ.1 5 (r_9).toNatClampNeg), .int r_9, .ref (cdA g 5)]) (σ := σ) (k := 9 + n1) (ci := 2) X wm_X1_61 (show 9 + n1 < 24 by omega) (cdE_head g σ k_12) rfl rfl (c_X2_depthAt l g n1 x6 x5 σ _ hB _) hP hS rfl rfl hl.1 (Nat.le_of_ble_eq_true rfl) ⟨Nat.le_of_ble_eq_true rfl, Nat.le_of_ble_eq_true rfl⟩ ⟨Nat.zero_le _, Nat.zero_le _⟩ dX1_addWrapped_53) hS (fun r_13 σ_14 H locs hB hP hS => ?_)
      obtain ⟨eσ_14, hB⟩ := hB
      rw [eσ_14] at hP
      refine lv_iadd hx hb dX1_addWrapped_56 ?_
      obtain ⟨i_15, hB⟩ := hB
      refine cd_ast X hP hS (k := 5) (N := 361) (by decide) (fun _ => rfl) i_15 dX1_addWrapped_57 (fun H locs hP hS => ?_)
      obtain ⟨σ_16, eσ_16⟩ : ∃ z : cdS, z = cdU σ 5 (r_9).toNatClampNeg ((σ.1 5 (r_9).toNatClampNeg) + r_13) := ⟨_, rfl⟩
      rw [← eσ_16] at hP
      have hB := hB σ_16 eσ_16
      obtain ⟨x6_17, ex6_17⟩ : ∃ z : Int32, z = x6 + 1 := ⟨_, rfl⟩
      have hB := hB x6_17 ex6_17
      refine lv_iinc (v := x6_17) (lv' := [(6, .int x6_17), (0, .ref (cdA g 4)), (1, .ref (cdA g (9 + n1))), (2, .int v2), (3, .int v3), (4, .int x4), (5, .int x5)]) hx hb dX1_addWrapped_58 hl (k := 6) rfl (by rw [ex6_17]; rfl) (by decide) rfl (fun ls hl => ?_)
      refine lv_goto (tgt := 23) hx hb dX1_addWrapped_61 (by decide) ?_
      exact hB _ _ _ hP hS (lv_sub hl [1, 2, 3, 4, 5, 6, 0] rfl))
  refine lv_aload_n hx hb dX1_addWrapped_0 rfl (lv_at hl 1 rfl) ?_
  obtain ⟨k_1, hB⟩ := hB
  refine cd_ci (cd_runV (As := []) (rest := []) (σ := σ) (k := 9 + n1) (ci := 2) X wm_X1_53 (show 9 + n1 < 24 by omega) (cdE_head g σ k_1) rfl rfl (c_X2_reach l g n1 σ _ hB _) hP hS rfl rfl hl.1 (Nat.le_of_ble_eq_true rfl) ⟨Nat.le_of_ble_eq_true rfl, Nat.le_of_ble_eq_true rfl⟩ ⟨Nat.zero_le _, Nat.zero_le _⟩ dX1_addWrapped_1) hS (fun r_2 σ_3 H locs hB hP hS => ?_)
  obtain ⟨eσ_3, hB⟩ := hB
  rw [eσ_3] at hP
  refine lv_istore (lv' := [(4, .int r_2), (0, .ref (cdA g 4)), (1, .ref (cdA g (9 + n1))), (2, .int v2), (3, .int v3)]) hx hb dX1_addWrapped_4 hl (by decide) rfl (fun ls hl => ?_)
  refine lv_iload hx hb dX1_addWrapped_6 (lv_at hl 0 rfl) ?_
  refine lv_ineg hx hb dX1_addWrapped_8 ?_
  refine lv_topi (fun x5_4 ex5_4 => ?_)
  have hB := hB x5_4 ex5_4
  refine lv_istore (lv' := [(5, .int x5_4), (4, .int r_2), (0, .ref (cdA g 4)), (1, .ref (cdA g (9 + n1))), (2, .int v2), (3, .int v3)]) hx hb dX1_addWrapped_9 hl (by decide) rfl (fun ls hl => ?_)
  exact hB _ _ _ hP hS (lv_sub hl [2, 3, 4, 5, 1, 0] rfl)
def wp_X1_many  (σ : cdS) (Q : Int32 → Prop) : Prop :=
  
    Q ((σ.1 4 3) * (σ.1 4 4))
set_option maxHeartbeats 4000000 in
set_option maxRecDepth 100000 in
theorem c_X1_many (l : Launch) (g : cdG)  (σ : cdS) (Q : Int32 → Prop) (hwp : wp_X1_many  σ Q) : cdCi l g yX1_many cX1_many 1 (some .int) 0 0 [.ref (cdA g 4)] σ (fun r σ' => σ' = σ ∧ Q r) := by
  intro sz
  refine Met.ofW (cc := cX1_many) (maxL := 1) (ret := (some .int)) (by decide) rfl ?_
  intro p e s m args below meth c s₁ B hml hv
  obtain ⟨rfl, hsz, hP, hK, hdi, hV⟩ := hv
  subst hsz
  have hx := B.exec
  have hb := B.bytes
  have hr := B.returns
  have hlocks := B.notSynchronized
  have hown : s.vm.findClass RX1 = some m.cls := findClass_of_methodNamed B.named
  have hts : ∀ w ∈ cdL, w.before _ s = true := fun w hw => atoms_spec (ws := cdWs yX1_many cX1_many 1 (some .int)) B.pre w (List.mem_cons_of_mem _ hw)
  have X : cdX p s m _ c cX1_many 1 RX1 g := ⟨hx, hb, hml, hown, hts, hK, hdi, hV⟩
  have hS : va_S (cdZ g s.heap.size) s.heap s.heap [] := va_S.rf
  have hl := lv_entry ([.ref (cdA g 4)]) (n := 1) (Nat.le_of_ble_eq_true rfl)
  rw [lg_entry_eq]
  generalize (lg_sl ([.ref (cdA g 4)]) ++ List.replicate (1 - (lg_sl ([.ref (cdA g 4)])).length) Slot.unset).toArray = ls at hl ⊢
  have hl : lv_has ls 1 [(0, .ref (cdA g 4))] := hl
  obtain ⟨Qm, hQm⟩ : ∃ z, z = MQ below (va_Qi (fun r σ' => σ' = σ ∧ Q r) (fun σ' t => va_P (cdD g) vwCl (cdW g σ') t.heap) (cdZ g s.heap.size)) ([.ref (cdA g 4)] : List Value).toArray s 0 0 (cdZ g s.heap.size) := ⟨_, rfl⟩
  rw [← hQm]
  have hB := hwp
  refine lv_aload_n hx hb dX1_many_0 rfl (lv_at hl 0 rfl) ?_
  refine cd_get X hP (C := RX1) (T := TX1) (N := 5) (ci := 1) (k := 4) (j := 3) (v := .int (σ.1 4 3)) inX1 (by decide) rfl rfl (by decide) wf_X1_25 rfl rfl dX1_many_1 ?_
  refine lv_aload_n hx hb dX1_many_4 rfl (lv_at hl 0 rfl) ?_
  refine cd_get X hP (C := RX1) (T := TX1) (N := 5) (ci := 1) (k := 4) (j := 4) (v := .int (σ.1 4 4)) inX1 (by decide) rfl rfl (by decide) wf_X1_29 rfl rfl dX1_many_5 ?_
  refine lv_imul hx hb dX1_many_8 ?_
  rw [hQm]
  exact W.iret hx hb hr (fun t ht hW => ⟨⟨((σ.1 4 3) * (σ.1 4 4)), σ, rfl, ⟨rfl, hB⟩, cd_hp ht hP⟩, hS.F ht⟩) hS.2.2 dX1_many_9
def wp_X1_clear (v1 : Int32) (v2 : Int32) (σ : cdS) (Q : cdS → Prop) : Prop :=
  ∀ (P30 : Int32 → cdS → Prop),
    (∀ (x3 : Int32) (σ : cdS), (
    wp_X1_many σ (fun r_3 => 
    ((r_3 ≤ x3 →
    Q σ) ∧
    (¬ (r_3 ≤ x3) →
    vp_in x3 361 ∧ ∀ σ_7 : cdS, σ_7 = cdU σ 5 (x3).toNatClampNeg (0 : Int32) →
    ∀ x3_8 : Int32, x3_8 = x3 + 1 →
    P30 x3_8 σ_7)))) → P30 x3 σ) →
    
    ∀ σ_1 : cdS, σ_1 = cdU σ 4 3 (if (1 : Int32) < (if v1 < (19 : Int32) then v1 else (19 : Int32)) then (if v1 < (19 : Int32) then v1 else (19 : Int32)) else (1 : Int32)) →
    ∀ σ_2 : cdS, σ_2 = cdU σ_1 4 4 (if (1 : Int32) < (if v2 < (19 : Int32) then v2 else (19 : Int32)) then (if v2 < (19 : Int32) then v2 else (19 : Int32)) else (1 : Int32)) →
    P30 (0 : Int32) σ_2
set_option maxHeartbeats 4000000 in
set_option maxRecDepth 100000 in
theorem c_X1_clear (l : Launch) (g : cdG) (v1 : Int32) (v2 : Int32) (σ : cdS) (Q : cdS → Prop) (hwp : wp_X1_clear v1 v2 σ Q) : cdCv l g yX1_clear cX1_clear 4 none 1 21 [.ref (cdA g 4), .int v1, .int v2] σ Q := by
  intro sz
  refine Met.ofW (cc := cX1_clear) (maxL := 4) (ret := none) (by decide) rfl ?_
  intro p e s m args below meth c s₁ B hml hv
  obtain ⟨rfl, hsz, hP, hK, hdi, hV⟩ := hv
  subst hsz
  have hx := B.exec
  have hb := B.bytes
  have hr := B.returns
  have hlocks := B.notSynchronized
  have hown : s.vm.findClass RX1 = some m.cls := findClass_of_methodNamed B.named
  have hts : ∀ w ∈ cdL, w.before _ s = true := fun w hw => atoms_spec (ws := cdWs yX1_clear cX1_clear 4 none) B.pre w (List.mem_cons_of_mem _ hw)
  have X : cdX p s m _ c cX1_clear 4 RX1 g := ⟨hx, hb, hml, hown, hts, hK, hdi, hV⟩
  have hS : va_S (cdZ g s.heap.size) s.heap s.heap [] := va_S.rf
  have hl := lv_entry ([.ref (cdA g 4), .int v1, .int v2]) (n := 4) (Nat.le_of_ble_eq_true rfl)
  rw [lg_entry_eq]
  generalize (lg_sl ([.ref (cdA g 4), .int v1, .int v2]) ++ List.replicate (4 - (lg_sl ([.ref (cdA g 4), .int v1, .int v2])).length) Slot.unset).toArray = ls at hl ⊢
  have hl : lv_has ls 4 [(0, .ref (cdA g 4)), (1, .int v1), (2, .int v2)] := hl
  obtain ⟨Qm, hQm⟩ : ∃ z, z = MQ below (va_Qv Q (fun σ' t => va_P (cdD g) vwCl (cdW g σ') t.heap) (cdZ g s.heap.size)) ([.ref (cdA g 4), .int v1, .int v2] : List Value).toArray s 0 0 (cdZ g s.heap.size) := ⟨_, rfl⟩
  rw [← hQm]
  have hB := hwp (fun (x3 : Int32) (σ : cdS) => cdCut p l e (headSpec (cdWs yX1_clear cX1_clear 4 none) (cdRm 1 21)).room s m ([.ref (cdA g 4), .int v1, .int v2] : List Value).toArray below meth c Qm g 4 30 [(0, .ref (cdA g 4)), (3, .int x3)] [] σ)
    (by
    intro x3 σ hB H locs ls hP hS hl
    refine lv_iload_n hx hb dX1_clear_30 rfl (lv_at hl 1 rfl) ?_
    refine lv_aload_n hx hb dX1_clear_31 rfl (lv_at hl 0 rfl) ?_
    refine cd_ci (cd_runV (As := []) (rest := [.int x3]) (σ := σ) (k := 4) (ci := 1) X wm_X1_41 (by decide) rfl rfl rfl (c_X1_many l g  σ _ hB _) hP hS rfl rfl hl.1 (Nat.le_of_ble_eq_true rfl) ⟨Nat.le_of_ble_eq_true rfl, Nat.le_of_ble_eq_true rfl⟩ ⟨Nat.zero_le _, Nat.zero_le _⟩ dX1_clear_32) hS (fun r_3 σ_4 H locs hB hP hS => ?_)
    obtain ⟨eσ_4, hB⟩ := hB
    rw [eσ_4] at hP
    refine lv_icmp_ge (tgt := 51) hx hb dX1_clear_35 (by decide) (fun c_5 => ?_) (fun c_5 => ?_)
    · have hB := hB.1 c_5
      rw [hQm]
      exact W.vret hx hb hr (fun t ht hW => ⟨⟨σ, rfl, hB, cd_hp ht hP⟩, hS.F ht⟩) hS.2.2 dX1_clear_51
    · have hB := hB.2 c_5
      refine lv_aload_n hx hb dX1_clear_38 rfl (lv_at hl 0 rfl) ?_
      refine cd_get X hP (C := RX1) (T := TX1) (N := 5) (ci := 1) (k := 4) (j := 0) (v := .ref (cdA g 5)) inX1 (by decide) rfl rfl (by decide) wf_X1_11 rfl rfl dX1_clear_39 ?_
      refine lv_iload_n hx hb dX1_clear_42 rfl (lv_at hl 1 rfl) ?_
      refine lv_iconst (v := 0) hx hb dX1_clear_43 (by decide) ?_
      obtain ⟨i_6, hB⟩ := hB
      refine cd_ast X hP hS (k := 5) (N := 361) (by decide) (fun _ => rfl) i_6 dX1_clear_44 (fun H locs hP hS => ?_)
      obtain ⟨σ_7, eσ_7⟩ : ∃ z : cdS, z = cdU σ 5 (x3).toNatClampNeg (0 : Int32) := ⟨_, rfl⟩
      rw [← eσ_7] at hP
      have hB := hB σ_7 eσ_7
      obtain ⟨x3_8, ex3_8⟩ : ∃ z : Int32, z = x3 + 1 := ⟨_, rfl⟩
      have hB := hB x3_8 ex3_8
      refine lv_iinc (v := x3_8) (lv' := [(3, .int x3_8), (0, .ref (cdA g 4))]) hx hb dX1_clear_45 hl (k := 1) rfl (by rw [ex3_8]; rfl) (by decide) rfl (fun ls hl => ?_)
      refine lv_goto (tgt := 30) hx hb dX1_clear_48 (by decide) ?_
      exact hB _ _ _ hP hS (lv_sub hl [1, 0] rfl))
  refine lv_aload_n hx hb dX1_clear_0 rfl (lv_at hl 0 rfl) ?_
  refine lv_iconst (v := 1) hx hb dX1_clear_1 (by decide) ?_
  refine lv_bipush (v := 19) hx hb dX1_clear_2 (by decide) ?_
  refine lv_iload_n hx hb dX1_clear_4 rfl (lv_at hl 1 rfl) ?_
  refine va_mmin hx hb (hml.trans hl.1.symm) hown (hts _ wm_X1_32) (hts _ ws_min) (hts _ wi_Math) (hts _ wk_min) (Nat.le_of_ble_eq_true rfl) (Nat.le_of_ble_eq_true rfl) (Nat.zero_le _) (Nat.zero_le _) dX1_clear_5 ?_
  refine va_mmax hx hb (hml.trans hl.1.symm) hown (hts _ wm_X1_38) (hts _ ws_max) (hts _ wi_Math) (hts _ wk_max) (Nat.le_of_ble_eq_true rfl) (Nat.le_of_ble_eq_true rfl) (Nat.zero_le _) (Nat.zero_le _) dX1_clear_8 ?_
  refine cd_put X hP hS (C := RX1) (T := TX1) (N := 5) (ci := 1) (k := 4) (j := 3) (v := .int (if (1 : Int32) < (if v1 < (19 : Int32) then v1 else (19 : Int32)) then (if v1 < (19 : Int32) then v1 else (19 : Int32)) else (1 : Int32))) (σ' := cdU σ 4 3 (if (1 : Int32) < (if v1 < (19 : Int32) then v1 else (19 : Int32)) then (if v1 < (19 : Int32) then v1 else (19 : Int32)) else (1 : Int32))) inX1 tyX1 tyX1_ok nmX1 (by decide) rfl rfl (by decide) wf_X1_25 rfl rfl (tyX1_ok 3 (by decide)) rfl rfl (Nat.le_of_ble_eq_true rfl) (cdW_U (by decide) rfl) dX1_clear_11 (fun H locs hP hS => ?_)
  obtain ⟨σ_1, eσ_1⟩ : ∃ z : cdS, z = cdU σ 4 3 (if (1 : Int32) < (if v1 < (19 : Int32) then v1 else (19 : Int32)) then (if v1 < (19 : Int32) then v1 else (19 : Int32)) else (1 : Int32)) := ⟨_, rfl⟩
  rw [← eσ_1] at hP
  have hB := hB σ_1 eσ_1
  refine lv_aload_n hx hb dX1_clear_14 rfl (lv_at hl 0 rfl) ?_
  refine lv_iconst (v := 1) hx hb dX1_clear_15 (by decide) ?_
  refine lv_bipush (v := 19) hx hb dX1_clear_16 (by decide) ?_
  refine lv_iload_n hx hb dX1_clear_18 rfl (lv_at hl 2 rfl) ?_
  refine va_mmin hx hb (hml.trans hl.1.symm) hown (hts _ wm_X1_32) (hts _ ws_min) (hts _ wi_Math) (hts _ wk_min) (Nat.le_of_ble_eq_true rfl) (Nat.le_of_ble_eq_true rfl) (Nat.zero_le _) (Nat.zero_le _) dX1_clear_19 ?_
  refine va_mmax hx hb (hml.trans hl.1.symm) hown (hts _ wm_X1_38) (hts _ ws_max) (hts _ wi_Math) (hts _ wk_max) (Nat.le_of_ble_eq_true rfl) (Nat.le_of_ble_eq_true rfl) (Nat.zero_le _) (Nat.zero_le _) dX1_clear_22 ?_
  refine cd_put X hP hS (C := RX1) (T := TX1) (N := 5) (ci := 1) (k := 4) (j := 4) (v := .int (if (1 : Int32) < (if v2 < (19 : Int32) then v2 else (19 : Int32)) then (if v2 < (19 : Int32) then v2 else (19 : Int32)) else (1 : Int32))) (σ' := cdU σ_1 4 4 (if (1 : Int32) < (if v2 < (19 : Int32) then v2 else (19 : Int32)) then (if v2 < (19 : Int32) then v2 else (19 : Int32)) else (1 : Int32))) inX1 tyX1 tyX1_ok nmX1 (by decide) rfl rfl (by decide) wf_X1_29 rfl rfl (tyX1_ok 4 (by decide)) rfl rfl (Nat.le_of_ble_eq_true rfl) (cdW_U (by decide) rfl) dX1_clear_25 (fun H locs hP hS => ?_)
  obtain ⟨σ_2, eσ_2⟩ : ∃ z : cdS, z = cdU σ_1 4 4 (if (1 : Int32) < (if v2 < (19 : Int32) then v2 else (19 : Int32)) then (if v2 < (19 : Int32) then v2 else (19 : Int32)) else (1 : Int32)) := ⟨_, rfl⟩
  rw [← eσ_2] at hP
  have hB := hB σ_2 eσ_2
  refine lv_iconst (v := 0) hx hb dX1_clear_28 (by decide) ?_
  refine lv_istore_n (lv' := [(3, .int (0 : Int32)), (0, .ref (cdA g 4)), (1, .int v1), (2, .int v2)]) hx hb dX1_clear_29 rfl hl (by decide) rfl (fun ls hl => ?_)
  exact hB _ _ _ hP hS (lv_sub hl [1, 0] rfl)
def wp_X1_driestPlace  (σ : cdS) (Q : Int32 → Prop) : Prop :=
  ∀ (P4 : Int32 → Int32 → Prop) (P29 : Int32 → Int32 → Prop),
    (∀ (x1 : Int32) (x2 : Int32), (
    wp_X1_many σ (fun r_1 => 
    ((r_1 ≤ x2 →
    Q x1) ∧
    (¬ (r_1 ≤ x2) →
    vp_in x2 361 ∧
    vp_in x1 361 ∧
    (((σ.1 5 (x1).toNatClampNeg) ≤ (σ.1 5 (x2).toNatClampNeg) →
    P29 x1 x2) ∧
    (¬ ((σ.1 5 (x1).toNatClampNeg) ≤ (σ.1 5 (x2).toNatClampNeg)) →
    P29 x2 x2)))))) → P4 x1 x2) →
    (∀ (x1 : Int32) (x2 : Int32), (
    ∀ x2_7 : Int32, x2_7 = x2 + 1 →
    P4 x1 x2_7) → P29 x1 x2) →
    
    P4 (0 : Int32) (1 : Int32)
set_option maxHeartbeats 4000000 in
set_option maxRecDepth 100000 in
theorem c_X1_driestPlace (l : Launch) (g : cdG)  (σ : cdS) (Q : Int32 → Prop) (hwp : wp_X1_driestPlace  σ Q) : cdCi l g yX1_driestPlace cX1_driestPlace 3 (some .int) 1 20 [.ref (cdA g 4)] σ (fun r σ' => σ' = σ ∧ Q r) := by
  intro sz
  refine Met.ofW (cc := cX1_driestPlace) (maxL := 3) (ret := (some .int)) (by decide) rfl ?_
  intro p e s m args below meth c s₁ B hml hv
  obtain ⟨rfl, hsz, hP, hK, hdi, hV⟩ := hv
  subst hsz
  have hx := B.exec
  have hb := B.bytes
  have hr := B.returns
  have hlocks := B.notSynchronized
  have hown : s.vm.findClass RX1 = some m.cls := findClass_of_methodNamed B.named
  have hts : ∀ w ∈ cdL, w.before _ s = true := fun w hw => atoms_spec (ws := cdWs yX1_driestPlace cX1_driestPlace 3 (some .int)) B.pre w (List.mem_cons_of_mem _ hw)
  have X : cdX p s m _ c cX1_driestPlace 3 RX1 g := ⟨hx, hb, hml, hown, hts, hK, hdi, hV⟩
  have hS : va_S (cdZ g s.heap.size) s.heap s.heap [] := va_S.rf
  have hl := lv_entry ([.ref (cdA g 4)]) (n := 3) (Nat.le_of_ble_eq_true rfl)
  rw [lg_entry_eq]
  generalize (lg_sl ([.ref (cdA g 4)]) ++ List.replicate (3 - (lg_sl ([.ref (cdA g 4)])).length) Slot.unset).toArray = ls at hl ⊢
  have hl : lv_has ls 3 [(0, .ref (cdA g 4))] := hl
  obtain ⟨Qm, hQm⟩ : ∃ z, z = MQ below (va_Qi (fun r σ' => σ' = σ ∧ Q r) (fun σ' t => va_P (cdD g) vwCl (cdW g σ') t.heap) (cdZ g s.heap.size)) ([.ref (cdA g 4)] : List Value).toArray s 0 0 (cdZ g s.heap.size) := ⟨_, rfl⟩
  rw [← hQm]
  have hB := hwp (fun (x1 : Int32) (x2 : Int32) => cdCut p l e (headSpec (cdWs yX1_driestPlace cX1_driestPlace 3 (some .int)) (cdRm 1 20)).room s m ([.ref (cdA g 4)] : List Value).toArray below meth c Qm g 3 4 [(0, .ref (cdA g 4)), (1, .int x1), (2, .int x2)] [] σ)
    (fun (x1 : Int32) (x2 : Int32) => cdCut p l e (headSpec (cdWs yX1_driestPlace cX1_driestPlace 3 (some .int)) (cdRm 1 20)).room s m ([.ref (cdA g 4)] : List Value).toArray below meth c Qm g 3 29 [(0, .ref (cdA g 4)), (1, .int x1), (2, .int x2)] [] σ)
    (by
    intro x1 x2 hB H locs ls hP hS hl
    refine lv_iload_n hx hb dX1_driestPlace_4 rfl (lv_at hl 2 rfl) ?_
    refine lv_aload_n hx hb dX1_driestPlace_5 rfl (lv_at hl 0 rfl) ?_
    refine cd_ci (cd_runV (As := []) (rest := [.int x2]) (σ := σ) (k := 4) (ci := 1) X wm_X1_41 (by decide) rfl rfl rfl (c_X1_many l g  σ _ hB _) hP hS rfl rfl hl.1 (Nat.le_of_ble_eq_true rfl) ⟨Nat.le_of_ble_eq_true rfl, Nat.le_of_ble_eq_true rfl⟩ ⟨Nat.zero_le _, Nat.zero_le _⟩ dX1_driestPlace_6) hS (fun r_1 σ_2 H locs hB hP hS => ?_)
    obtain ⟨eσ_2, hB⟩ := hB
    rw [eσ_2] at hP
    refine lv_icmp_ge (tgt := 35) hx hb dX1_driestPlace_9 (by decide) (fun c_3 => ?_) (fun c_3 => ?_)
    · have hB := hB.1 c_3
      refine lv_iload_n hx hb dX1_driestPlace_35 rfl (lv_at hl 1 rfl) ?_
      rw [hQm]
      exact W.iret hx hb hr (fun t ht hW => ⟨⟨x1, σ, rfl, ⟨rfl, hB⟩, cd_hp ht hP⟩, hS.F ht⟩) hS.2.2 dX1_driestPlace_36
    · have hB := hB.2 c_3
      refine lv_aload_n hx hb dX1_driestPlace_12 rfl (lv_at hl 0 rfl) ?_
      refine cd_get X hP (C := RX1) (T := TX1) (N := 5) (ci := 1) (k := 4) (j := 0) (v := .ref (cdA g 5)) inX1 (by decide) rfl rfl (by decide) wf_X1_11 rfl rfl dX1_driestPlace_13 ?_
      refine lv_iload_n hx hb dX1_driestPlace_16 rfl (lv_at hl 2 rfl) ?_
      obtain ⟨i_4, hB⟩ := hB
      refine cd_ald X hP (k := 5) (N := 361) (by decide) rfl i_4 dX1_driestPlace_17 ?_
      refine lv_aload_n hx hb dX1_driestPlace_18 rfl (lv_at hl 0 rfl) ?_
      refine cd_get X hP (C := RX1) (T := TX1) (N := 5) (ci := 1) (k := 4) (j := 0) (v := .ref (cdA g 5)) inX1 (by decide) rfl rfl (by decide) wf_X1_11 rfl rfl dX1_driestPlace_19 ?_
      refine lv_iload_n hx hb dX1_driestPlace_22 rfl (lv_at hl 1 rfl) ?_
      obtain ⟨i_5, hB⟩ := hB
      refine cd_ald X hP (k := 5) (N := 361) (by decide) rfl i_5 dX1_driestPlace_23 ?_
      refine lv_icmp_ge (tgt := 29) hx hb dX1_driestPlace_24 (by decide) (fun c_6 => ?_) (fun c_6 => ?_)
      · have hB := hB.1 c_6
        exact hB _ _ _ hP hS (lv_sub hl [0, 1, 2] rfl)
      · have hB := hB.2 c_6
        refine lv_iload_n hx hb dX1_driestPlace_27 rfl (lv_at hl 2 rfl) ?_
        refine lv_istore_n (lv' := [(1, .int x2), (0, .ref (cdA g 4)), (2, .int x2)]) hx hb dX1_driestPlace_28 rfl hl (by decide) rfl (fun ls hl => ?_)
        exact hB _ _ _ hP hS (lv_sub hl [1, 0, 2] rfl))
    (by
    intro x1 x2 hB H locs ls hP hS hl
    obtain ⟨x2_7, ex2_7⟩ : ∃ z : Int32, z = x2 + 1 := ⟨_, rfl⟩
    have hB := hB x2_7 ex2_7
    refine lv_iinc (v := x2_7) (lv' := [(2, .int x2_7), (0, .ref (cdA g 4)), (1, .int x1)]) hx hb dX1_driestPlace_29 hl (k := 2) rfl (by rw [ex2_7]; rfl) (by decide) rfl (fun ls hl => ?_)
    refine lv_goto (tgt := 4) hx hb dX1_driestPlace_32 (by decide) ?_
    exact hB _ _ _ hP hS (lv_sub hl [1, 2, 0] rfl))
  refine lv_iconst (v := 0) hx hb dX1_driestPlace_0 (by decide) ?_
  refine lv_istore_n (lv' := [(1, .int (0 : Int32)), (0, .ref (cdA g 4))]) hx hb dX1_driestPlace_1 rfl hl (by decide) rfl (fun ls hl => ?_)
  refine lv_iconst (v := 1) hx hb dX1_driestPlace_2 (by decide) ?_
  refine lv_istore_n (lv' := [(2, .int (1 : Int32)), (1, .int (0 : Int32)), (0, .ref (cdA g 4))]) hx hb dX1_driestPlace_3 rfl hl (by decide) rfl (fun ls hl => ?_)
  exact hB _ _ _ hP hS (lv_sub hl [2, 1, 0] rfl)
def wp_X1_tallyDepths  (σ : cdS) (Q : cdS → Prop) : Prop :=
  ∀ (P10 : Int32 → cdS → Prop) (P49 : Int32 → cdS → Prop),
    (∀ (x1 : Int32) (σ : cdS), (
    wp_X1_many σ (fun r_3 => 
    ((r_3 ≤ x1 →
    Q σ) ∧
    (¬ (r_3 ≤ x1) →
    vp_in x1 361 ∧
    wp_X5_isWithin (σ.1 5 (x1).toNatClampNeg) (0 : Int32) (560 : Int32) σ (fun r_7 => 
    ((r_7 = 0 →
    P49 x1 σ) ∧
    (¬ (r_7 = 0) →
    vp_in x1 361 ∧
    vp_in (σ.1 5 (x1).toNatClampNeg) 561 ∧
    vp_in (σ.1 5 (x1).toNatClampNeg) 561 ∧ ∀ σ_13 : cdS, σ_13 = cdU σ 6 ((σ.1 5 (x1).toNatClampNeg)).toNatClampNeg ((σ.1 6 ((σ.1 5 (x1).toNatClampNeg)).toNatClampNeg) + (1 : Int32)) →
    P49 x1 σ_13))))))) → P10 x1 σ) →
    (∀ (x1 : Int32) (σ : cdS), (
    ∀ x1_14 : Int32, x1_14 = x1 + 1 →
    P10 x1_14 σ) → P49 x1 σ) →
    
    wp_J7_fill_53178 (0 : Int32) σ (fun σ_2 => 
    P10 (0 : Int32) σ_2)
set_option maxHeartbeats 4000000 in
set_option maxRecDepth 100000 in
theorem c_X1_tallyDepths (l : Launch) (g : cdG)  (σ : cdS) (Q : cdS → Prop) (hwp : wp_X1_tallyDepths  σ Q) : cdCv l g yX1_tallyDepths cX1_tallyDepths 2 none 1 23 [.ref (cdA g 4)] σ Q := by
  intro sz
  refine Met.ofW (cc := cX1_tallyDepths) (maxL := 2) (ret := none) (by decide) rfl ?_
  intro p e s m args below meth c s₁ B hml hv
  obtain ⟨rfl, hsz, hP, hK, hdi, hV⟩ := hv
  subst hsz
  have hx := B.exec
  have hb := B.bytes
  have hr := B.returns
  have hlocks := B.notSynchronized
  have hown : s.vm.findClass RX1 = some m.cls := findClass_of_methodNamed B.named
  have hts : ∀ w ∈ cdL, w.before _ s = true := fun w hw => atoms_spec (ws := cdWs yX1_tallyDepths cX1_tallyDepths 2 none) B.pre w (List.mem_cons_of_mem _ hw)
  have X : cdX p s m _ c cX1_tallyDepths 2 RX1 g := ⟨hx, hb, hml, hown, hts, hK, hdi, hV⟩
  have hS : va_S (cdZ g s.heap.size) s.heap s.heap [] := va_S.rf
  have hl := lv_entry ([.ref (cdA g 4)]) (n := 2) (Nat.le_of_ble_eq_true rfl)
  rw [lg_entry_eq]
  generalize (lg_sl ([.ref (cdA g 4)]) ++ List.replicate (2 - (lg_sl ([.ref (cdA g 4)])).length) Slot.unset).toArray = ls at hl ⊢
  have hl : lv_has ls 2 [(0, .ref (cdA g 4))] := hl
  obtain ⟨Qm, hQm⟩ : ∃ z, z = MQ below (va_Qv Q (fun σ' t => va_P (cdD g) vwCl (cdW g σ') t.heap) (cdZ g s.heap.size)) ([.ref (cdA g 4)] : List Value).toArray s 0 0 (cdZ g s.heap.size) := ⟨_, rfl⟩
  rw [← hQm]
  have hB := hwp (fun (x1 : Int32) (σ : cdS) => cdCut p l e (headSpec (cdWs yX1_tallyDepths cX1_tallyDepths 2 none) (cdRm 1 23)).room s m ([.ref (cdA g 4)] : List Value).toArray below meth c Qm g 2 10 [(0, .ref (cdA g 4)), (1, .int x1)] [] σ)
    (fun (x1 : Int32) (σ : cdS) => cdCut p l e (headSpec (cdWs yX1_tallyDepths cX1_tallyDepths 2 none) (cdRm 1 23)).room s m ([.ref (cdA g 4)] : List Value).toArray below meth c Qm g 2 49 [(0, .ref (cdA g 4)), (1, .int x1)] [] σ)
    (by
    intro x1 σ hB H locs ls hP hS hl
    refine lv_iload_n hx hb dX1_tallyDepths_10 rfl (lv_at hl 1 rfl) ?_
    refine lv_aload_n hx hb dX1_tallyDepths_11 rfl (lv_at hl 0 rfl) ?_
    refine cd_ci (cd_runV (As := []) (rest := [.int x1]) (σ := σ) (k := 4) (ci := 1) X wm_X1_41 (by decide) rfl rfl rfl (c_X1_many l g  σ _ hB _) hP hS rfl rfl hl.1 (Nat.le_of_ble_eq_true rfl) ⟨Nat.le_of_ble_eq_true rfl, Nat.le_of_ble_eq_true rfl⟩ ⟨Nat.zero_le _, Nat.zero_le _⟩ dX1_tallyDepths_12) hS (fun r_3 σ_4 H locs hB hP hS => ?_)
    obtain ⟨eσ_4, hB⟩ := hB
    rw [eσ_4] at hP
    refine lv_icmp_ge (tgt := 55) hx hb dX1_tallyDepths_15 (by decide) (fun c_5 => ?_) (fun c_5 => ?_)
    · have hB := hB.1 c_5
      rw [hQm]
      exact W.vret hx hb hr (fun t ht hW => ⟨⟨σ, rfl, hB, cd_hp ht hP⟩, hS.F ht⟩) hS.2.2 dX1_tallyDepths_55
    · have hB := hB.2 c_5
      refine lv_aload_n hx hb dX1_tallyDepths_18 rfl (lv_at hl 0 rfl) ?_
      refine cd_get X hP (C := RX1) (T := TX1) (N := 5) (ci := 1) (k := 4) (j := 0) (v := .ref (cdA g 5)) inX1 (by decide) rfl rfl (by decide) wf_X1_11 rfl rfl dX1_tallyDepths_19 ?_
      refine lv_iload_n hx hb dX1_tallyDepths_22 rfl (lv_at hl 1 rfl) ?_
      obtain ⟨i_6, hB⟩ := hB
      refine cd_ald X hP (k := 5) (N := 361) (by decide) rfl i_6 dX1_tallyDepths_23 ?_
      refine lv_iconst (v := 0) hx hb dX1_tallyDepths_24 (by decide) ?_
      refine lv_sipush (v := 560) hx hb dX1_tallyDepths_25 (by decide) ?_
      refine cd_ci (cd_runN (As := [.int (σ.1 5 (x1).toNatClampNeg), .int (0 : Int32), .int (560 : Int32)]) (rest := []) (σ := σ) X wn_X5_isWithin X.2.2.2.2.2.2.2.1.1 (c_X5_isWithin l g (σ.1 5 (x1).toNatClampNeg) (0 : Int32) (560 : Int32) σ _ hB _) hP hS rfl rfl hl.1 (Nat.le_of_ble_eq_true rfl) ⟨Nat.le_of_ble_eq_true rfl, Nat.le_of_ble_eq_true rfl⟩ ⟨Nat.zero_le _, Nat.zero_le _⟩ dX1_tallyDepths_28) hS (fun r_7 σ_8 H locs hB hP hS => ?_)
      obtain ⟨eσ_8, hB⟩ := hB
      rw [eσ_8] at hP
      refine lv_if_eq (tgt := 49) hx hb dX1_tallyDepths_31 (by decide) (fun c_9 => ?_) (fun c_9 => ?_)
      · have hB := hB.1 c_9
        exact hB _ _ _ hP hS (lv_sub hl [0, 1] rfl)
      · have hB := hB.2 c_9
        refine lv_aload_n hx hb dX1_tallyDepths_34 rfl (lv_at hl 0 rfl) ?_
        refine cd_get X hP (C := RX1) (T := TX1) (N := 5) (ci := 1) (k := 4) (j := 1) (v := .ref (cdA g 6)) inX1 (by decide) rfl rfl (by decide) wf_X1_15 rfl rfl dX1_tallyDepths_35 ?_
        refine lv_aload_n hx hb dX1_tallyDepths_38 rfl (lv_at hl 0 rfl) ?_
        refine cd_get X hP (C := RX1) (T := TX1) (N := 5) (ci := 1) (k := 4) (j := 0) (v := .ref (cdA g 5)) inX1 (by decide) rfl rfl (by decide) wf_X1_11 rfl rfl dX1_tallyDepths_39 ?_
        refine lv_iload_n hx hb dX1_tallyDepths_42 rfl (lv_at hl 1 rfl) ?_
        obtain ⟨i_10, hB⟩ := hB
        refine cd_ald X hP (k := 5) (N := 361) (by decide) rfl i_10 dX1_tallyDepths_43 ?_
        refine lv_dup2_11 hx hb dX1_tallyDepths_44 rfl rfl ?_
        obtain ⟨i_11, hB⟩ := hB
        refine cd_ald X hP (k := 6) (N := 561) (by decide) rfl i_11 dX1_tallyDepths_45 ?_
        refine lv_iconst (v := 1) hx hb dX1_tallyDepths_46 (by decide) ?_
        refine lv_iadd hx hb dX1_tallyDepths_47 ?_
        obtain ⟨i_12, hB⟩ := hB
        refine cd_ast X hP hS (k := 6) (N := 561) (by decide) (fun _ => rfl) i_12 dX1_tallyDepths_48 (fun H locs hP hS => ?_)
        obtain ⟨σ_13, eσ_13⟩ : ∃ z : cdS, z = cdU σ 6 ((σ.1 5 (x1).toNatClampNeg)).toNatClampNeg ((σ.1 6 ((σ.1 5 (x1).toNatClampNeg)).toNatClampNeg) + (1 : Int32)) := ⟨_, rfl⟩
        rw [← eσ_13] at hP
        have hB := hB σ_13 eσ_13
        exact hB _ _ _ hP hS (lv_sub hl [0, 1] rfl))
    (by
    intro x1 σ hB H locs ls hP hS hl
    obtain ⟨x1_14, ex1_14⟩ : ∃ z : Int32, z = x1 + 1 := ⟨_, rfl⟩
    have hB := hB x1_14 ex1_14
    refine lv_iinc (v := x1_14) (lv' := [(1, .int x1_14), (0, .ref (cdA g 4))]) hx hb dX1_tallyDepths_49 hl (k := 1) rfl (by rw [ex1_14]; rfl) (by decide) rfl (fun ls hl => ?_)
    refine lv_goto (tgt := 10) hx hb dX1_tallyDepths_52 (by decide) ?_
    exact hB _ _ _ hP hS (lv_sub hl [1, 0] rfl))
  refine lv_aload_n hx hb dX1_tallyDepths_0 rfl (lv_at hl 0 rfl) ?_
  refine cd_get X hP (C := RX1) (T := TX1) (N := 5) (ci := 1) (k := 4) (j := 1) (v := .ref (cdA g 6)) inX1 (by decide) rfl rfl (by decide) wf_X1_15 rfl rfl dX1_tallyDepths_1 ?_
  refine lv_iconst (v := 0) hx hb dX1_tallyDepths_4 (by decide) ?_
  refine cd_cv (cd_runS (As := [.ref (cdA g 6), .int (0 : Int32)]) (rest := []) (σ := σ) X wm_X1_107 (c_J7_fill_53178 l g (0 : Int32) σ _ hB _) hP hS rfl rfl hl.1 (Nat.le_of_ble_eq_true rfl) ⟨Nat.le_of_ble_eq_true rfl, Nat.le_of_ble_eq_true rfl⟩ ⟨Nat.zero_le _, Nat.zero_le _⟩ dX1_tallyDepths_5) hS (fun σ_2 H locs hB hP hS => ?_)
  refine lv_iconst (v := 0) hx hb dX1_tallyDepths_8 (by decide) ?_
  refine lv_istore_n (lv' := [(1, .int (0 : Int32)), (0, .ref (cdA g 4))]) hx hb dX1_tallyDepths_9 rfl hl (by decide) rfl (fun ls hl => ?_)
  exact hB _ _ _ hP hS (lv_sub hl [1, 0] rfl)
def wp_X1_driestTogether (v1 : Int32) (σ : cdS) (Q : Int32 → cdS → Prop) : Prop :=
  ∀ (P11 : Int32 → Int32 → Int32 → cdS → Prop),
    (∀ (x2 : Int32) (x3 : Int32) (x4 : Int32) (σ : cdS), (
    (((560 : Int32) < x4 →
    Q x2 σ) ∧
    (¬ ((560 : Int32) < x4) →
    ((x3 ≤ 0 →
    Q x2 σ) ∧
    (¬ (x3 ≤ 0) →
    vp_in x4 561 ∧
    ∀ x5_6 : Int32, x5_6 = (if (σ.1 6 (x4).toNatClampNeg) < x3 then (σ.1 6 (x4).toNatClampNeg) else x3) →
    ∀ x2_7 : Int32, x2_7 = (x2 + (x5_6 * x4)) →
    ∀ x3_8 : Int32, x3_8 = (x3 - x5_6) →
    ∀ x4_9 : Int32, x4_9 = x4 + 1 →
    P11 x2_7 x3_8 x4_9 σ))))) → P11 x2 x3 x4 σ) →
    
    wp_X1_tallyDepths σ (fun σ_2 => 
    P11 (0 : Int32) v1 (0 : Int32) σ_2)
set_option maxHeartbeats 4000000 in
set_option maxRecDepth 100000 in
theorem c_X1_driestTogether (l : Launch) (g : cdG) (v1 : Int32) (σ : cdS) (Q : Int32 → cdS → Prop) (hwp : wp_X1_driestTogether v1 σ Q) : cdCi l g yX1_driestTogether cX1_driestTogether 6 (some .int) 2 44 [.ref (cdA g 4), .int v1] σ Q := by
  intro sz
  refine Met.ofW (cc := cX1_driestTogether) (maxL := 6) (ret := (some .int)) (by decide) rfl ?_
  intro p e s m args below meth c s₁ B hml hv
  obtain ⟨rfl, hsz, hP, hK, hdi, hV⟩ := hv
  subst hsz
  have hx := B.exec
  have hb := B.bytes
  have hr := B.returns
  have hlocks := B.notSynchronized
  have hown : s.vm.findClass RX1 = some m.cls := findClass_of_methodNamed B.named
  have hts : ∀ w ∈ cdL, w.before _ s = true := fun w hw => atoms_spec (ws := cdWs yX1_driestTogether cX1_driestTogether 6 (some .int)) B.pre w (List.mem_cons_of_mem _ hw)
  have X : cdX p s m _ c cX1_driestTogether 6 RX1 g := ⟨hx, hb, hml, hown, hts, hK, hdi, hV⟩
  have hS : va_S (cdZ g s.heap.size) s.heap s.heap [] := va_S.rf
  have hl := lv_entry ([.ref (cdA g 4), .int v1]) (n := 6) (Nat.le_of_ble_eq_true rfl)
  rw [lg_entry_eq]
  generalize (lg_sl ([.ref (cdA g 4), .int v1]) ++ List.replicate (6 - (lg_sl ([.ref (cdA g 4), .int v1])).length) Slot.unset).toArray = ls at hl ⊢
  have hl : lv_has ls 6 [(0, .ref (cdA g 4)), (1, .int v1)] := hl
  obtain ⟨Qm, hQm⟩ : ∃ z, z = MQ below (va_Qi Q (fun σ' t => va_P (cdD g) vwCl (cdW g σ') t.heap) (cdZ g s.heap.size)) ([.ref (cdA g 4), .int v1] : List Value).toArray s 0 0 (cdZ g s.heap.size) := ⟨_, rfl⟩
  rw [← hQm]
  have hB := hwp (fun (x2 : Int32) (x3 : Int32) (x4 : Int32) (σ : cdS) => cdCut p l e (headSpec (cdWs yX1_driestTogether cX1_driestTogether 6 (some .int)) (cdRm 2 44)).room s m ([.ref (cdA g 4), .int v1] : List Value).toArray below meth c Qm g 6 11 [(0, .ref (cdA g 4)), (2, .int x2), (3, .int x3), (4, .int x4)] [] σ)
    (by
    intro x2 x3 x4 σ hB H locs ls hP hS hl
    refine lv_iload hx hb dX1_driestTogether_11 (lv_at hl 3 rfl) ?_
    refine lv_sipush (v := 560) hx hb dX1_driestTogether_13 (by decide) ?_
    refine lv_icmp_gt (tgt := 55) hx hb dX1_driestTogether_16 (by decide) (fun c_3 => ?_) (fun c_3 => ?_)
    · have hB := hB.1 c_3
      refine lv_iload_n hx hb dX1_driestTogether_55 rfl (lv_at hl 1 rfl) ?_
      rw [hQm]
      exact W.iret hx hb hr (fun t ht hW => ⟨⟨x2, σ, rfl, hB, cd_hp ht hP⟩, hS.F ht⟩) hS.2.2 dX1_driestTogether_56
    · have hB := hB.2 c_3
      refine lv_iload_n hx hb dX1_driestTogether_19 rfl (lv_at hl 2 rfl) ?_
      refine lv_if_le (tgt := 55) hx hb dX1_driestTogether_20 (by decide) (fun c_4 => ?_) (fun c_4 => ?_)
      · have hB := hB.1 c_4
        refine lv_iload_n hx hb dX1_driestTogether_55 rfl (lv_at hl 1 rfl) ?_
        rw [hQm]
        exact W.iret hx hb hr (fun t ht hW => ⟨⟨x2, σ, rfl, hB, cd_hp ht hP⟩, hS.F ht⟩) hS.2.2 dX1_driestTogether_56
      · have hB := hB.2 c_4
        refine lv_iload_n hx hb dX1_driestTogether_23 rfl (lv_at hl 2 rfl) ?_
        refine lv_aload_n hx hb dX1_driestTogether_24 rfl (lv_at hl 0 rfl) ?_
        refine cd_get X hP (C := RX1) (T := TX1) (N := 5) (ci := 1) (k := 4) (j := 1) (v := .ref (cdA g 6)) inX1 (by decide) rfl rfl (by decide) wf_X1_15 rfl rfl dX1_driestTogether_25 ?_
        refine lv_iload hx hb dX1_driestTogether_28 (lv_at hl 3 rfl) ?_
        obtain ⟨i_5, hB⟩ := hB
        refine cd_ald X hP (k := 6) (N := 561) (by decide) rfl i_5 dX1_driestTogether_30 ?_
        refine va_mmin hx hb (hml.trans hl.1.symm) hown (hts _ wm_X1_32) (hts _ ws_min) (hts _ wi_Math) (hts _ wk_min) (Nat.le_of_ble_eq_true rfl) (Nat.le_of_ble_eq_true rfl) (Nat.zero_le _) (Nat.zero_le _) dX1_driestTogether_31 ?_
        refine lv_topi (fun x5_6 ex5_6 => ?_)
        have hB := hB x5_6 ex5_6
        refine lv_istore (lv' := [(5, .int x5_6), (0, .ref (cdA g 4)), (2, .int x2), (3, .int x3), (4, .int x4)]) hx hb dX1_driestTogether_34 hl (by decide) rfl (fun ls hl => ?_)
        refine lv_iload_n hx hb dX1_driestTogether_36 rfl (lv_at hl 2 rfl) ?_
        refine lv_iload hx hb dX1_driestTogether_37 (lv_at hl 0 rfl) ?_
        refine lv_iload hx hb dX1_driestTogether_39 (lv_at hl 4 rfl) ?_
        refine lv_imul hx hb dX1_driestTogether_41 ?_
        refine lv_iadd hx hb dX1_driestTogether_42 ?_
        refine lv_topi (fun x2_7 ex2_7 => ?_)
        have hB := hB x2_7 ex2_7
        refine lv_istore_n (lv' := [(2, .int x2_7), (5, .int x5_6), (0, .ref (cdA g 4)), (3, .int x3), (4, .int x4)]) hx hb dX1_driestTogether_43 rfl hl (by decide) rfl (fun ls hl => ?_)
        refine lv_iload_n hx hb dX1_driestTogether_44 rfl (lv_at hl 3 rfl) ?_
        refine lv_iload hx hb dX1_driestTogether_45 (lv_at hl 1 rfl) ?_
        refine lv_isub hx hb dX1_driestTogether_47 ?_
        refine lv_topi (fun x3_8 ex3_8 => ?_)
        have hB := hB x3_8 ex3_8
        refine lv_istore_n (lv' := [(3, .int x3_8), (2, .int x2_7), (5, .int x5_6), (0, .ref (cdA g 4)), (4, .int x4)]) hx hb dX1_driestTogether_48 rfl hl (by decide) rfl (fun ls hl => ?_)
        obtain ⟨x4_9, ex4_9⟩ : ∃ z : Int32, z = x4 + 1 := ⟨_, rfl⟩
        have hB := hB x4_9 ex4_9
        refine lv_iinc (v := x4_9) (lv' := [(4, .int x4_9), (3, .int x3_8), (2, .int x2_7), (5, .int x5_6), (0, .ref (cdA g 4))]) hx hb dX1_driestTogether_49 hl (k := 4) rfl (by rw [ex4_9]; rfl) (by decide) rfl (fun ls hl => ?_)
        refine lv_goto (tgt := 11) hx hb dX1_driestTogether_52 (by decide) ?_
        exact hB _ _ _ hP hS (lv_sub hl [4, 2, 1, 0] rfl))
  refine lv_aload_n hx hb dX1_driestTogether_0 rfl (lv_at hl 0 rfl) ?_
  refine cd_cv (cd_runV (As := []) (rest := []) (σ := σ) (k := 4) (ci := 1) X wm_X1_104 (by decide) rfl rfl rfl (c_X1_tallyDepths l g  σ _ hB _) hP hS rfl rfl hl.1 (Nat.le_of_ble_eq_true rfl) ⟨Nat.le_of_ble_eq_true rfl, Nat.le_of_ble_eq_true rfl⟩ ⟨Nat.zero_le _, Nat.zero_le _⟩ dX1_driestTogether_1) hS (fun σ_2 H locs hB hP hS => ?_)
  refine lv_iconst (v := 0) hx hb dX1_driestTogether_4 (by decide) ?_
  refine lv_istore_n (lv' := [(2, .int (0 : Int32)), (0, .ref (cdA g 4)), (1, .int v1)]) hx hb dX1_driestTogether_5 rfl hl (by decide) rfl (fun ls hl => ?_)
  refine lv_iload_n hx hb dX1_driestTogether_6 rfl (lv_at hl 2 rfl) ?_
  refine lv_istore_n (lv' := [(3, .int v1), (2, .int (0 : Int32)), (0, .ref (cdA g 4)), (1, .int v1)]) hx hb dX1_driestTogether_7 rfl hl (by decide) rfl (fun ls hl => ?_)
  refine lv_iconst (v := 0) hx hb dX1_driestTogether_8 (by decide) ?_
  refine lv_istore (lv' := [(4, .int (0 : Int32)), (3, .int v1), (2, .int (0 : Int32)), (0, .ref (cdA g 4)), (1, .int v1)]) hx hb dX1_driestTogether_9 hl (by decide) rfl (fun ls hl => ?_)
  exact hB _ _ _ hP hS (lv_sub hl [3, 2, 1, 0] rfl)
def wp_X1_driestX  (σ : cdS) (Q : Int32 → Prop) : Prop :=
  
    wp_X1_driestPlace σ (fun r_1 => 
    wp_J9_floorMod_7cf53 r_1 (σ.1 4 3) σ (fun r_3 => 
    Q r_3))
set_option maxHeartbeats 4000000 in
set_option maxRecDepth 100000 in
theorem c_X1_driestX (l : Launch) (g : cdG)  (σ : cdS) (Q : Int32 → Prop) (hwp : wp_X1_driestX  σ Q) : cdCi l g yX1_driestX cX1_driestX 1 (some .int) 2 42 [.ref (cdA g 4)] σ (fun r σ' => σ' = σ ∧ Q r) := by
  intro sz
  refine Met.ofW (cc := cX1_driestX) (maxL := 1) (ret := (some .int)) (by decide) rfl ?_
  intro p e s m args below meth c s₁ B hml hv
  obtain ⟨rfl, hsz, hP, hK, hdi, hV⟩ := hv
  subst hsz
  have hx := B.exec
  have hb := B.bytes
  have hr := B.returns
  have hlocks := B.notSynchronized
  have hown : s.vm.findClass RX1 = some m.cls := findClass_of_methodNamed B.named
  have hts : ∀ w ∈ cdL, w.before _ s = true := fun w hw => atoms_spec (ws := cdWs yX1_driestX cX1_driestX 1 (some .int)) B.pre w (List.mem_cons_of_mem _ hw)
  have X : cdX p s m _ c cX1_driestX 1 RX1 g := ⟨hx, hb, hml, hown, hts, hK, hdi, hV⟩
  have hS : va_S (cdZ g s.heap.size) s.heap s.heap [] := va_S.rf
  have hl := lv_entry ([.ref (cdA g 4)]) (n := 1) (Nat.le_of_ble_eq_true rfl)
  rw [lg_entry_eq]
  generalize (lg_sl ([.ref (cdA g 4)]) ++ List.replicate (1 - (lg_sl ([.ref (cdA g 4)])).length) Slot.unset).toArray = ls at hl ⊢
  have hl : lv_has ls 1 [(0, .ref (cdA g 4))] := hl
  obtain ⟨Qm, hQm⟩ : ∃ z, z = MQ below (va_Qi (fun r σ' => σ' = σ ∧ Q r) (fun σ' t => va_P (cdD g) vwCl (cdW g σ') t.heap) (cdZ g s.heap.size)) ([.ref (cdA g 4)] : List Value).toArray s 0 0 (cdZ g s.heap.size) := ⟨_, rfl⟩
  rw [← hQm]
  have hB := hwp
  refine lv_aload_n hx hb dX1_driestX_0 rfl (lv_at hl 0 rfl) ?_
  refine cd_ci (cd_runV (As := []) (rest := []) (σ := σ) (k := 4) (ci := 1) X wm_X1_67 (by decide) rfl rfl rfl (c_X1_driestPlace l g  σ _ hB _) hP hS rfl rfl hl.1 (Nat.le_of_ble_eq_true rfl) ⟨Nat.le_of_ble_eq_true rfl, Nat.le_of_ble_eq_true rfl⟩ ⟨Nat.zero_le _, Nat.zero_le _⟩ dX1_driestX_1) hS (fun r_1 σ_2 H locs hB hP hS => ?_)
  obtain ⟨eσ_2, hB⟩ := hB
  rw [eσ_2] at hP
  refine lv_aload_n hx hb dX1_driestX_4 rfl (lv_at hl 0 rfl) ?_
  refine cd_get X hP (C := RX1) (T := TX1) (N := 5) (ci := 1) (k := 4) (j := 3) (v := .int (σ.1 4 3)) inX1 (by decide) rfl rfl (by decide) wf_X1_25 rfl rfl dX1_driestX_5 ?_
  refine cd_ci (cd_runS (As := [.int r_1, .int (σ.1 4 3)]) (rest := []) (σ := σ) X wm_X1_95 (c_J9_floorMod_7cf53 l g r_1 (σ.1 4 3) σ _ hB _) hP hS rfl rfl hl.1 (Nat.le_of_ble_eq_true rfl) ⟨Nat.le_of_ble_eq_true rfl, Nat.le_of_ble_eq_true rfl⟩ ⟨Nat.zero_le _, Nat.zero_le _⟩ dX1_driestX_8) hS (fun r_3 σ_4 H locs hB hP hS => ?_)
  obtain ⟨eσ_4, hB⟩ := hB
  rw [eσ_4] at hP
  rw [hQm]
  exact W.iret hx hb hr (fun t ht hW => ⟨⟨r_3, σ, rfl, ⟨rfl, hB⟩, cd_hp ht hP⟩, hS.F ht⟩) hS.2.2 dX1_driestX_11
def wp_X1_driestY  (σ : cdS) (Q : Int32 → Prop) : Prop :=
  
    wp_X1_driestPlace σ (fun r_1 => 
    wp_J9_floorDiv_7cf53 r_1 (σ.1 4 3) σ (fun r_3 => 
    Q r_3))
set_option maxHeartbeats 4000000 in
set_option maxRecDepth 100000 in
theorem c_X1_driestY (l : Launch) (g : cdG)  (σ : cdS) (Q : Int32 → Prop) (hwp : wp_X1_driestY  σ Q) : cdCi l g yX1_driestY cX1_driestY 1 (some .int) 2 42 [.ref (cdA g 4)] σ (fun r σ' => σ' = σ ∧ Q r) := by
  intro sz
  refine Met.ofW (cc := cX1_driestY) (maxL := 1) (ret := (some .int)) (by decide) rfl ?_
  intro p e s m args below meth c s₁ B hml hv
  obtain ⟨rfl, hsz, hP, hK, hdi, hV⟩ := hv
  subst hsz
  have hx := B.exec
  have hb := B.bytes
  have hr := B.returns
  have hlocks := B.notSynchronized
  have hown : s.vm.findClass RX1 = some m.cls := findClass_of_methodNamed B.named
  have hts : ∀ w ∈ cdL, w.before _ s = true := fun w hw => atoms_spec (ws := cdWs yX1_driestY cX1_driestY 1 (some .int)) B.pre w (List.mem_cons_of_mem _ hw)
  have X : cdX p s m _ c cX1_driestY 1 RX1 g := ⟨hx, hb, hml, hown, hts, hK, hdi, hV⟩
  have hS : va_S (cdZ g s.heap.size) s.heap s.heap [] := va_S.rf
  have hl := lv_entry ([.ref (cdA g 4)]) (n := 1) (Nat.le_of_ble_eq_true rfl)
  rw [lg_entry_eq]
  generalize (lg_sl ([.ref (cdA g 4)]) ++ List.replicate (1 - (lg_sl ([.ref (cdA g 4)])).length) Slot.unset).toArray = ls at hl ⊢
  have hl : lv_has ls 1 [(0, .ref (cdA g 4))] := hl
  obtain ⟨Qm, hQm⟩ : ∃ z, z = MQ below (va_Qi (fun r σ' => σ' = σ ∧ Q r) (fun σ' t => va_P (cdD g) vwCl (cdW g σ') t.heap) (cdZ g s.heap.size)) ([.ref (cdA g 4)] : List Value).toArray s 0 0 (cdZ g s.heap.size) := ⟨_, rfl⟩
  rw [← hQm]
  have hB := hwp
  refine lv_aload_n hx hb dX1_driestY_0 rfl (lv_at hl 0 rfl) ?_
  refine cd_ci (cd_runV (As := []) (rest := []) (σ := σ) (k := 4) (ci := 1) X wm_X1_67 (by decide) rfl rfl rfl (c_X1_driestPlace l g  σ _ hB _) hP hS rfl rfl hl.1 (Nat.le_of_ble_eq_true rfl) ⟨Nat.le_of_ble_eq_true rfl, Nat.le_of_ble_eq_true rfl⟩ ⟨Nat.zero_le _, Nat.zero_le _⟩ dX1_driestY_1) hS (fun r_1 σ_2 H locs hB hP hS => ?_)
  obtain ⟨eσ_2, hB⟩ := hB
  rw [eσ_2] at hP
  refine lv_aload_n hx hb dX1_driestY_4 rfl (lv_at hl 0 rfl) ?_
  refine cd_get X hP (C := RX1) (T := TX1) (N := 5) (ci := 1) (k := 4) (j := 3) (v := .int (σ.1 4 3)) inX1 (by decide) rfl rfl (by decide) wf_X1_25 rfl rfl dX1_driestY_5 ?_
  refine cd_ci (cd_runS (As := [.int r_1, .int (σ.1 4 3)]) (rest := []) (σ := σ) X wm_X1_98 (c_J9_floorDiv_7cf53 l g r_1 (σ.1 4 3) σ _ hB _) hP hS rfl rfl hl.1 (Nat.le_of_ble_eq_true rfl) ⟨Nat.le_of_ble_eq_true rfl, Nat.le_of_ble_eq_true rfl⟩ ⟨Nat.zero_le _, Nat.zero_le _⟩ dX1_driestY_8) hS (fun r_3 σ_4 H locs hB hP hS => ?_)
  obtain ⟨eσ_4, hB⟩ := hB
  rw [eσ_4] at hP
  rw [hQm]
  exact W.iret hx hb hr (fun t ht hW => ⟨⟨r_3, σ, rfl, ⟨rfl, hB⟩, cd_hp ht hP⟩, hS.F ht⟩) hS.2.2 dX1_driestY_11
def wp_X1_total  (σ : cdS) (Q : Int32 → Prop) : Prop :=
  ∀ (P4 : Int32 → Int32 → Prop),
    (∀ (x1 : Int32) (x2 : Int32), (
    wp_X1_many σ (fun r_1 => 
    ((r_1 ≤ x2 →
    Q x1) ∧
    (¬ (r_1 ≤ x2) →
    vp_in x2 361 ∧
    ∀ x1_5 : Int32, x1_5 = (x1 + (σ.1 5 (x2).toNatClampNeg)) →
    ∀ x2_6 : Int32, x2_6 = x2 + 1 →
    P4 x1_5 x2_6)))) → P4 x1 x2) →
    
    P4 (0 : Int32) (0 : Int32)
set_option maxHeartbeats 4000000 in
set_option maxRecDepth 100000 in
theorem c_X1_total (l : Launch) (g : cdG)  (σ : cdS) (Q : Int32 → Prop) (hwp : wp_X1_total  σ Q) : cdCi l g yX1_total cX1_total 3 (some .int) 1 20 [.ref (cdA g 4)] σ (fun r σ' => σ' = σ ∧ Q r) := by
  intro sz
  refine Met.ofW (cc := cX1_total) (maxL := 3) (ret := (some .int)) (by decide) rfl ?_
  intro p e s m args below meth c s₁ B hml hv
  obtain ⟨rfl, hsz, hP, hK, hdi, hV⟩ := hv
  subst hsz
  have hx := B.exec
  have hb := B.bytes
  have hr := B.returns
  have hlocks := B.notSynchronized
  have hown : s.vm.findClass RX1 = some m.cls := findClass_of_methodNamed B.named
  have hts : ∀ w ∈ cdL, w.before _ s = true := fun w hw => atoms_spec (ws := cdWs yX1_total cX1_total 3 (some .int)) B.pre w (List.mem_cons_of_mem _ hw)
  have X : cdX p s m _ c cX1_total 3 RX1 g := ⟨hx, hb, hml, hown, hts, hK, hdi, hV⟩
  have hS : va_S (cdZ g s.heap.size) s.heap s.heap [] := va_S.rf
  have hl := lv_entry ([.ref (cdA g 4)]) (n := 3) (Nat.le_of_ble_eq_true rfl)
  rw [lg_entry_eq]
  generalize (lg_sl ([.ref (cdA g 4)]) ++ List.replicate (3 - (lg_sl ([.ref (cdA g 4)])).length) Slot.unset).toArray = ls at hl ⊢
  have hl : lv_has ls 3 [(0, .ref (cdA g 4))] := hl
  obtain ⟨Qm, hQm⟩ : ∃ z, z = MQ below (va_Qi (fun r σ' => σ' = σ ∧ Q r) (fun σ' t => va_P (cdD g) vwCl (cdW g σ') t.heap) (cdZ g s.heap.size)) ([.ref (cdA g 4)] : List Value).toArray s 0 0 (cdZ g s.heap.size) := ⟨_, rfl⟩
  rw [← hQm]
  have hB := hwp (fun (x1 : Int32) (x2 : Int32) => cdCut p l e (headSpec (cdWs yX1_total cX1_total 3 (some .int)) (cdRm 1 20)).room s m ([.ref (cdA g 4)] : List Value).toArray below meth c Qm g 3 4 [(0, .ref (cdA g 4)), (1, .int x1), (2, .int x2)] [] σ)
    (by
    intro x1 x2 hB H locs ls hP hS hl
    refine lv_iload_n hx hb dX1_total_4 rfl (lv_at hl 2 rfl) ?_
    refine lv_aload_n hx hb dX1_total_5 rfl (lv_at hl 0 rfl) ?_
    refine cd_ci (cd_runV (As := []) (rest := [.int x2]) (σ := σ) (k := 4) (ci := 1) X wm_X1_41 (by decide) rfl rfl rfl (c_X1_many l g  σ _ hB _) hP hS rfl rfl hl.1 (Nat.le_of_ble_eq_true rfl) ⟨Nat.le_of_ble_eq_true rfl, Nat.le_of_ble_eq_true rfl⟩ ⟨Nat.zero_le _, Nat.zero_le _⟩ dX1_total_6) hS (fun r_1 σ_2 H locs hB hP hS => ?_)
    obtain ⟨eσ_2, hB⟩ := hB
    rw [eσ_2] at hP
    refine lv_icmp_ge (tgt := 27) hx hb dX1_total_9 (by decide) (fun c_3 => ?_) (fun c_3 => ?_)
    · have hB := hB.1 c_3
      refine lv_iload_n hx hb dX1_total_27 rfl (lv_at hl 1 rfl) ?_
      rw [hQm]
      exact W.iret hx hb hr (fun t ht hW => ⟨⟨x1, σ, rfl, ⟨rfl, hB⟩, cd_hp ht hP⟩, hS.F ht⟩) hS.2.2 dX1_total_28
    · have hB := hB.2 c_3
      refine lv_iload_n hx hb dX1_total_12 rfl (lv_at hl 1 rfl) ?_
      refine lv_aload_n hx hb dX1_total_13 rfl (lv_at hl 0 rfl) ?_
      refine cd_get X hP (C := RX1) (T := TX1) (N := 5) (ci := 1) (k := 4) (j := 0) (v := .ref (cdA g 5)) inX1 (by decide) rfl rfl (by decide) wf_X1_11 rfl rfl dX1_total_14 ?_
      refine lv_iload_n hx hb dX1_total_17 rfl (lv_at hl 2 rfl) ?_
      obtain ⟨i_4, hB⟩ := hB
      refine cd_ald X hP (k := 5) (N := 361) (by decide) rfl i_4 dX1_total_18 ?_
      refine lv_iadd hx hb dX1_total_19 ?_
      refine lv_topi (fun x1_5 ex1_5 => ?_)
      have hB := hB x1_5 ex1_5
      refine lv_istore_n (lv' := [(1, .int x1_5), (0, .ref (cdA g 4)), (2, .int x2)]) hx hb dX1_total_20 rfl hl (by decide) rfl (fun ls hl => ?_)
      obtain ⟨x2_6, ex2_6⟩ : ∃ z : Int32, z = x2 + 1 := ⟨_, rfl⟩
      have hB := hB x2_6 ex2_6
      refine lv_iinc (v := x2_6) (lv' := [(2, .int x2_6), (1, .int x1_5), (0, .ref (cdA g 4))]) hx hb dX1_total_21 hl (k := 2) rfl (by rw [ex2_6]; rfl) (by decide) rfl (fun ls hl => ?_)
      refine lv_goto (tgt := 4) hx hb dX1_total_24 (by decide) ?_
      exact hB _ _ _ hP hS (lv_sub hl [2, 1, 0] rfl))
  refine lv_iconst (v := 0) hx hb dX1_total_0 (by decide) ?_
  refine lv_istore_n (lv' := [(1, .int (0 : Int32)), (0, .ref (cdA g 4))]) hx hb dX1_total_1 rfl hl (by decide) rfl (fun ls hl => ?_)
  refine lv_iconst (v := 0) hx hb dX1_total_2 (by decide) ?_
  refine lv_istore_n (lv' := [(2, .int (0 : Int32)), (1, .int (0 : Int32)), (0, .ref (cdA g 4))]) hx hb dX1_total_3 rfl hl (by decide) rfl (fun ls hl => ?_)
  exact hB _ _ _ hP hS (lv_sub hl [2, 1, 0] rfl)
def wp_X1_even  (σ : cdS) (Q : cdS → Prop) : Prop :=
  ∀ (P15 : Int32 → Int32 → Int32 → Int32 → cdS → Prop),
    (∀ (x1 : Int32) (x2 : Int32) (x3 : Int32) (x4 : Int32) (σ : cdS), (
    ((x1 ≤ x4 →
    wp_X4_set ((x1 * x2) - x3) (x1 * x2) σ (fun σ_7 => 
    Q σ_7)) ∧
    (¬ (x1 ≤ x4) →
    vp_in x4 361 ∧
    ∀ x3_9 : Int32, x3_9 = (x3 + (if 0 ≤ ((x1 * (σ.1 5 (x4).toNatClampNeg)) - x2) then ((x1 * (σ.1 5 (x4).toNatClampNeg)) - x2) else 0 - ((x1 * (σ.1 5 (x4).toNatClampNeg)) - x2))) →
    ∀ x4_10 : Int32, x4_10 = x4 + 1 →
    P15 x1 x2 x3_9 x4_10 σ))) → P15 x1 x2 x3 x4 σ) →
    
    wp_X1_many σ (fun r_1 => 
    wp_X1_total σ (fun r_3 => 
    P15 r_1 r_3 (0 : Int32) (0 : Int32) σ))
set_option maxHeartbeats 4000000 in
set_option maxRecDepth 100000 in
theorem c_X1_even (l : Launch) (g : cdG)  (σ : cdS) (Q : cdS → Prop) (hwp : wp_X1_even  σ Q) : cdCr l g yX1_even cX1_even 5 (some (.object "CanDepths$Ratio")) 2 46 [.ref (cdA g 4)] σ Q := by
  intro sz
  refine Met.ofW (cc := cX1_even) (maxL := 5) (ret := (some (.object "CanDepths$Ratio"))) (by decide) rfl ?_
  intro p e s m args below meth c s₁ B hml hv
  obtain ⟨rfl, hsz, hP, hK, hdi, hV⟩ := hv
  subst hsz
  have hx := B.exec
  have hb := B.bytes
  have hr := B.returns
  have hlocks := B.notSynchronized
  have hown : s.vm.findClass RX1 = some m.cls := findClass_of_methodNamed B.named
  have hts : ∀ w ∈ cdL, w.before _ s = true := fun w hw => atoms_spec (ws := cdWs yX1_even cX1_even 5 (some (.object "CanDepths$Ratio"))) B.pre w (List.mem_cons_of_mem _ hw)
  have X : cdX p s m _ c cX1_even 5 RX1 g := ⟨hx, hb, hml, hown, hts, hK, hdi, hV⟩
  have hS : va_S (cdZ g s.heap.size) s.heap s.heap [] := va_S.rf
  have hl := lv_entry ([.ref (cdA g 4)]) (n := 5) (Nat.le_of_ble_eq_true rfl)
  rw [lg_entry_eq]
  generalize (lg_sl ([.ref (cdA g 4)]) ++ List.replicate (5 - (lg_sl ([.ref (cdA g 4)])).length) Slot.unset).toArray = ls at hl ⊢
  have hl : lv_has ls 5 [(0, .ref (cdA g 4))] := hl
  obtain ⟨Qm, hQm⟩ : ∃ z, z = MQ below (va_Qr Q (fun σ' ra t => ra = cdA g 7 ∧ va_P (cdD g) vwCl (cdW g σ') t.heap) (cdZ g s.heap.size)) ([.ref (cdA g 4)] : List Value).toArray s 0 0 (cdZ g s.heap.size) := ⟨_, rfl⟩
  rw [← hQm]
  have hB := hwp (fun (x1 : Int32) (x2 : Int32) (x3 : Int32) (x4 : Int32) (σ : cdS) => cdCut p l e (headSpec (cdWs yX1_even cX1_even 5 (some (.object "CanDepths$Ratio"))) (cdRm 2 46)).room s m ([.ref (cdA g 4)] : List Value).toArray below meth c Qm g 5 15 [(0, .ref (cdA g 4)), (1, .int x1), (2, .int x2), (3, .int x3), (4, .int x4)] [] σ)
    (by
    intro x1 x2 x3 x4 σ hB H locs ls hP hS hl
    refine lv_iload hx hb dX1_even_15 (lv_at hl 4 rfl) ?_
    refine lv_iload_n hx hb dX1_even_17 rfl (lv_at hl 1 rfl) ?_
    refine lv_icmp_ge (tgt := 44) hx hb dX1_even_18 (by decide) (fun c_5 => ?_) (fun c_5 => ?_)
    · have hB := hB.1 c_5
      refine lv_aload_n hx hb dX1_even_44 rfl (lv_at hl 0 rfl) ?_
      refine cd_get X hP (C := RX1) (T := TX1) (N := 5) (ci := 1) (k := 4) (j := 2) (v := .ref (cdA g 7)) inX1 (by decide) rfl rfl (by decide) wf_X1_21 rfl rfl dX1_even_45 ?_
      refine lv_iload_n hx hb dX1_even_48 rfl (lv_at hl 1 rfl) ?_
      refine lv_iload_n hx hb dX1_even_49 rfl (lv_at hl 2 rfl) ?_
      refine lv_imul hx hb dX1_even_50 ?_
      refine lv_iload_n hx hb dX1_even_51 rfl (lv_at hl 3 rfl) ?_
      refine lv_isub hx hb dX1_even_52 ?_
      refine lv_iload_n hx hb dX1_even_53 rfl (lv_at hl 1 rfl) ?_
      refine lv_iload_n hx hb dX1_even_54 rfl (lv_at hl 2 rfl) ?_
      refine lv_imul hx hb dX1_even_55 ?_
      refine cd_cv (cd_runV (As := [.int ((x1 * x2) - x3), .int (x1 * x2)]) (rest := []) (σ := σ) (k := 7) (ci := 4) X wm_X1_92 (by decide) rfl rfl rfl (c_X4_set l g ((x1 * x2) - x3) (x1 * x2) σ _ hB _) hP hS rfl rfl hl.1 (Nat.le_of_ble_eq_true rfl) ⟨Nat.le_of_ble_eq_true rfl, Nat.le_of_ble_eq_true rfl⟩ ⟨Nat.zero_le _, Nat.zero_le _⟩ dX1_even_56) hS (fun σ_7 H locs hB hP hS => ?_)
      refine lv_aload_n hx hb dX1_even_59 rfl (lv_at hl 0 rfl) ?_
      refine cd_get X hP (C := RX1) (T := TX1) (N := 5) (ci := 1) (k := 4) (j := 2) (v := .ref (cdA g 7)) inX1 (by decide) rfl rfl (by decide) wf_X1_21 rfl rfl dX1_even_60 ?_
      rw [hQm]
      exact W.aret hx hb hr (Or.inl ⟨_, rfl⟩) (Or.inr ⟨_, rfl⟩) (fun t ht hW => ⟨⟨σ_7, cdA g 7, rfl, hB, rfl, cd_hp ht hP⟩, hS.F ht⟩) hS.2.2 dX1_even_63
    · have hB := hB.2 c_5
      refine lv_iload_n hx hb dX1_even_21 rfl (lv_at hl 3 rfl) ?_
      refine lv_iload_n hx hb dX1_even_22 rfl (lv_at hl 1 rfl) ?_
      refine lv_aload_n hx hb dX1_even_23 rfl (lv_at hl 0 rfl) ?_
      refine cd_get X hP (C := RX1) (T := TX1) (N := 5) (ci := 1) (k := 4) (j := 0) (v := .ref (cdA g 5)) inX1 (by decide) rfl rfl (by decide) wf_X1_11 rfl rfl dX1_even_24 ?_
      refine lv_iload hx hb dX1_even_27 (lv_at hl 4 rfl) ?_
      obtain ⟨i_8, hB⟩ := hB
      refine cd_ald X hP (k := 5) (N := 361) (by decide) rfl i_8 dX1_even_29 ?_
      refine lv_imul hx hb dX1_even_30 ?_
      refine lv_iload_n hx hb dX1_even_31 rfl (lv_at hl 2 rfl) ?_
      refine lv_isub hx hb dX1_even_32 ?_
      refine va_mabs hx hb (hml.trans hl.1.symm) hown (hts _ wm_X1_88) (hts _ ws_abs) (hts _ wi_Math) (hts _ wk_abs) (Nat.le_of_ble_eq_true rfl) (Nat.le_of_ble_eq_true rfl) (Nat.zero_le _) (Nat.zero_le _) dX1_even_33 ?_
      refine lv_iadd hx hb dX1_even_36 ?_
      refine lv_topi (fun x3_9 ex3_9 => ?_)
      have hB := hB x3_9 ex3_9
      refine lv_istore_n (lv' := [(3, .int x3_9), (0, .ref (cdA g 4)), (1, .int x1), (2, .int x2), (4, .int x4)]) hx hb dX1_even_37 rfl hl (by decide) rfl (fun ls hl => ?_)
      obtain ⟨x4_10, ex4_10⟩ : ∃ z : Int32, z = x4 + 1 := ⟨_, rfl⟩
      have hB := hB x4_10 ex4_10
      refine lv_iinc (v := x4_10) (lv' := [(4, .int x4_10), (3, .int x3_9), (0, .ref (cdA g 4)), (1, .int x1), (2, .int x2)]) hx hb dX1_even_38 hl (k := 4) rfl (by rw [ex4_10]; rfl) (by decide) rfl (fun ls hl => ?_)
      refine lv_goto (tgt := 15) hx hb dX1_even_41 (by decide) ?_
      exact hB _ _ _ hP hS (lv_sub hl [2, 3, 4, 1, 0] rfl))
  refine lv_aload_n hx hb dX1_even_0 rfl (lv_at hl 0 rfl) ?_
  refine cd_ci (cd_runV (As := []) (rest := []) (σ := σ) (k := 4) (ci := 1) X wm_X1_41 (by decide) rfl rfl rfl (c_X1_many l g  σ _ hB _) hP hS rfl rfl hl.1 (Nat.le_of_ble_eq_true rfl) ⟨Nat.le_of_ble_eq_true rfl, Nat.le_of_ble_eq_true rfl⟩ ⟨Nat.zero_le _, Nat.zero_le _⟩ dX1_even_1) hS (fun r_1 σ_2 H locs hB hP hS => ?_)
  obtain ⟨eσ_2, hB⟩ := hB
  rw [eσ_2] at hP
  refine lv_istore_n (lv' := [(1, .int r_1), (0, .ref (cdA g 4))]) hx hb dX1_even_4 rfl hl (by decide) rfl (fun ls hl => ?_)
  refine lv_aload_n hx hb dX1_even_5 rfl (lv_at hl 1 rfl) ?_
  refine cd_ci (cd_runV (As := []) (rest := []) (σ := σ) (k := 4) (ci := 1) X wm_X1_64 (by decide) rfl rfl rfl (c_X1_total l g  σ _ hB _) hP hS rfl rfl hl.1 (Nat.le_of_ble_eq_true rfl) ⟨Nat.le_of_ble_eq_true rfl, Nat.le_of_ble_eq_true rfl⟩ ⟨Nat.zero_le _, Nat.zero_le _⟩ dX1_even_6) hS (fun r_3 σ_4 H locs hB hP hS => ?_)
  obtain ⟨eσ_4, hB⟩ := hB
  rw [eσ_4] at hP
  refine lv_istore_n (lv' := [(2, .int r_3), (1, .int r_1), (0, .ref (cdA g 4))]) hx hb dX1_even_9 rfl hl (by decide) rfl (fun ls hl => ?_)
  refine lv_iconst (v := 0) hx hb dX1_even_10 (by decide) ?_
  refine lv_istore_n (lv' := [(3, .int (0 : Int32)), (2, .int r_3), (1, .int r_1), (0, .ref (cdA g 4))]) hx hb dX1_even_11 rfl hl (by decide) rfl (fun ls hl => ?_)
  refine lv_iconst (v := 0) hx hb dX1_even_12 (by decide) ?_
  refine lv_istore (lv' := [(4, .int (0 : Int32)), (3, .int (0 : Int32)), (2, .int r_3), (1, .int r_1), (0, .ref (cdA g 4))]) hx hb dX1_even_13 hl (by decide) rfl (fun ls hl => ?_)
  exact hB _ _ _ hP hS (lv_sub hl [4, 3, 2, 1, 0] rfl)
def wp_X1_greatest  (σ : cdS) (Q : Int32 → Prop) : Prop :=
  ∀ (P4 : Int32 → Int32 → Prop),
    (∀ (x1 : Int32) (x2 : Int32), (
    wp_X1_many σ (fun r_1 => 
    ((r_1 ≤ x2 →
    Q x1) ∧
    (¬ (r_1 ≤ x2) →
    vp_in x2 361 ∧
    ∀ x1_5 : Int32, x1_5 = (if x1 < (σ.1 5 (x2).toNatClampNeg) then (σ.1 5 (x2).toNatClampNeg) else x1) →
    ∀ x2_6 : Int32, x2_6 = x2 + 1 →
    P4 x1_5 x2_6)))) → P4 x1 x2) →
    
    P4 (0 : Int32) (0 : Int32)
set_option maxHeartbeats 4000000 in
set_option maxRecDepth 100000 in
theorem c_X1_greatest (l : Launch) (g : cdG)  (σ : cdS) (Q : Int32 → Prop) (hwp : wp_X1_greatest  σ Q) : cdCi l g yX1_greatest cX1_greatest 3 (some .int) 1 21 [.ref (cdA g 4)] σ (fun r σ' => σ' = σ ∧ Q r) := by
  intro sz
  refine Met.ofW (cc := cX1_greatest) (maxL := 3) (ret := (some .int)) (by decide) rfl ?_
  intro p e s m args below meth c s₁ B hml hv
  obtain ⟨rfl, hsz, hP, hK, hdi, hV⟩ := hv
  subst hsz
  have hx := B.exec
  have hb := B.bytes
  have hr := B.returns
  have hlocks := B.notSynchronized
  have hown : s.vm.findClass RX1 = some m.cls := findClass_of_methodNamed B.named
  have hts : ∀ w ∈ cdL, w.before _ s = true := fun w hw => atoms_spec (ws := cdWs yX1_greatest cX1_greatest 3 (some .int)) B.pre w (List.mem_cons_of_mem _ hw)
  have X : cdX p s m _ c cX1_greatest 3 RX1 g := ⟨hx, hb, hml, hown, hts, hK, hdi, hV⟩
  have hS : va_S (cdZ g s.heap.size) s.heap s.heap [] := va_S.rf
  have hl := lv_entry ([.ref (cdA g 4)]) (n := 3) (Nat.le_of_ble_eq_true rfl)
  rw [lg_entry_eq]
  generalize (lg_sl ([.ref (cdA g 4)]) ++ List.replicate (3 - (lg_sl ([.ref (cdA g 4)])).length) Slot.unset).toArray = ls at hl ⊢
  have hl : lv_has ls 3 [(0, .ref (cdA g 4))] := hl
  obtain ⟨Qm, hQm⟩ : ∃ z, z = MQ below (va_Qi (fun r σ' => σ' = σ ∧ Q r) (fun σ' t => va_P (cdD g) vwCl (cdW g σ') t.heap) (cdZ g s.heap.size)) ([.ref (cdA g 4)] : List Value).toArray s 0 0 (cdZ g s.heap.size) := ⟨_, rfl⟩
  rw [← hQm]
  have hB := hwp (fun (x1 : Int32) (x2 : Int32) => cdCut p l e (headSpec (cdWs yX1_greatest cX1_greatest 3 (some .int)) (cdRm 1 21)).room s m ([.ref (cdA g 4)] : List Value).toArray below meth c Qm g 3 4 [(0, .ref (cdA g 4)), (1, .int x1), (2, .int x2)] [] σ)
    (by
    intro x1 x2 hB H locs ls hP hS hl
    refine lv_iload_n hx hb dX1_greatest_4 rfl (lv_at hl 2 rfl) ?_
    refine lv_aload_n hx hb dX1_greatest_5 rfl (lv_at hl 0 rfl) ?_
    refine cd_ci (cd_runV (As := []) (rest := [.int x2]) (σ := σ) (k := 4) (ci := 1) X wm_X1_41 (by decide) rfl rfl rfl (c_X1_many l g  σ _ hB _) hP hS rfl rfl hl.1 (Nat.le_of_ble_eq_true rfl) ⟨Nat.le_of_ble_eq_true rfl, Nat.le_of_ble_eq_true rfl⟩ ⟨Nat.zero_le _, Nat.zero_le _⟩ dX1_greatest_6) hS (fun r_1 σ_2 H locs hB hP hS => ?_)
    obtain ⟨eσ_2, hB⟩ := hB
    rw [eσ_2] at hP
    refine lv_icmp_ge (tgt := 29) hx hb dX1_greatest_9 (by decide) (fun c_3 => ?_) (fun c_3 => ?_)
    · have hB := hB.1 c_3
      refine lv_iload_n hx hb dX1_greatest_29 rfl (lv_at hl 1 rfl) ?_
      rw [hQm]
      exact W.iret hx hb hr (fun t ht hW => ⟨⟨x1, σ, rfl, ⟨rfl, hB⟩, cd_hp ht hP⟩, hS.F ht⟩) hS.2.2 dX1_greatest_30
    · have hB := hB.2 c_3
      refine lv_iload_n hx hb dX1_greatest_12 rfl (lv_at hl 1 rfl) ?_
      refine lv_aload_n hx hb dX1_greatest_13 rfl (lv_at hl 0 rfl) ?_
      refine cd_get X hP (C := RX1) (T := TX1) (N := 5) (ci := 1) (k := 4) (j := 0) (v := .ref (cdA g 5)) inX1 (by decide) rfl rfl (by decide) wf_X1_11 rfl rfl dX1_greatest_14 ?_
      refine lv_iload_n hx hb dX1_greatest_17 rfl (lv_at hl 2 rfl) ?_
      obtain ⟨i_4, hB⟩ := hB
      refine cd_ald X hP (k := 5) (N := 361) (by decide) rfl i_4 dX1_greatest_18 ?_
      refine va_mmax hx hb (hml.trans hl.1.symm) hown (hts _ wm_X1_38) (hts _ ws_max) (hts _ wi_Math) (hts _ wk_max) (Nat.le_of_ble_eq_true rfl) (Nat.le_of_ble_eq_true rfl) (Nat.zero_le _) (Nat.zero_le _) dX1_greatest_19 ?_
      refine lv_topi (fun x1_5 ex1_5 => ?_)
      have hB := hB x1_5 ex1_5
      refine lv_istore_n (lv' := [(1, .int x1_5), (0, .ref (cdA g 4)), (2, .int x2)]) hx hb dX1_greatest_22 rfl hl (by decide) rfl (fun ls hl => ?_)
      obtain ⟨x2_6, ex2_6⟩ : ∃ z : Int32, z = x2 + 1 := ⟨_, rfl⟩
      have hB := hB x2_6 ex2_6
      refine lv_iinc (v := x2_6) (lv' := [(2, .int x2_6), (1, .int x1_5), (0, .ref (cdA g 4))]) hx hb dX1_greatest_23 hl (k := 2) rfl (by rw [ex2_6]; rfl) (by decide) rfl (fun ls hl => ?_)
      refine lv_goto (tgt := 4) hx hb dX1_greatest_26 (by decide) ?_
      exact hB _ _ _ hP hS (lv_sub hl [2, 1, 0] rfl))
  refine lv_iconst (v := 0) hx hb dX1_greatest_0 (by decide) ?_
  refine lv_istore_n (lv' := [(1, .int (0 : Int32)), (0, .ref (cdA g 4))]) hx hb dX1_greatest_1 rfl hl (by decide) rfl (fun ls hl => ?_)
  refine lv_iconst (v := 0) hx hb dX1_greatest_2 (by decide) ?_
  refine lv_istore_n (lv' := [(2, .int (0 : Int32)), (1, .int (0 : Int32)), (0, .ref (cdA g 4))]) hx hb dX1_greatest_3 rfl hl (by decide) rfl (fun ls hl => ?_)
  exact hB _ _ _ hP hS (lv_sub hl [2, 1, 0] rfl)
def wp_X1_layInTurns (n1 : Nat) (n2 : Nat) (v3 : Int32) (v4 : Int32) (σ : cdS) (Q : cdS → Prop) : Prop :=
  
    wp_X1_clear ((2 : Int32) * v3) ((2 : Int32) * v4) σ (fun σ_2 => 
    wp_X1_addWrapped n1 (0 : Int32) (0 : Int32) σ_2 (fun σ_4 => 
    wp_X1_addWrapped n1 v3 v4 σ_4 (fun σ_6 => 
    wp_X1_addWrapped n2 v3 (0 : Int32) σ_6 (fun σ_8 => 
    wp_X1_addWrapped n2 (0 : Int32) v4 σ_8 (fun σ_10 => 
    Q σ_10)))))
set_option maxHeartbeats 4000000 in
set_option maxRecDepth 100000 in
theorem c_X1_layInTurns (l : Launch) (g : cdG) (n1 : Nat) (n2 : Nat) (v3 : Int32) (v4 : Int32) (σ : cdS) (Q : cdS → Prop) (hwp : wp_X1_layInTurns n1 n2 v3 v4 σ Q) : cdCv l g yX1_layInTurns cX1_layInTurns 5 none 3 70 [.ref (cdA g 4), .ref (cdA g (9 + n1)), .ref (cdA g (9 + n2)), .int v3, .int v4] σ Q := by
  intro sz
  refine Met.ofW (cc := cX1_layInTurns) (maxL := 5) (ret := none) (by decide) rfl ?_
  intro p e s m args below meth c s₁ B hml hv
  obtain ⟨rfl, hsz, hP, hK, hdi, hV⟩ := hv
  subst hsz
  have hx := B.exec
  have hb := B.bytes
  have hr := B.returns
  have hlocks := B.notSynchronized
  have hown : s.vm.findClass RX1 = some m.cls := findClass_of_methodNamed B.named
  have hts : ∀ w ∈ cdL, w.before _ s = true := fun w hw => atoms_spec (ws := cdWs yX1_layInTurns cX1_layInTurns 5 none) B.pre w (List.mem_cons_of_mem _ hw)
  have X : cdX p s m _ c cX1_layInTurns 5 RX1 g := ⟨hx, hb, hml, hown, hts, hK, hdi, hV⟩
  have hS : va_S (cdZ g s.heap.size) s.heap s.heap [] := va_S.rf
  have hl := lv_entry ([.ref (cdA g 4), .ref (cdA g (9 + n1)), .ref (cdA g (9 + n2)), .int v3, .int v4]) (n := 5) (Nat.le_of_ble_eq_true rfl)
  rw [lg_entry_eq]
  generalize (lg_sl ([.ref (cdA g 4), .ref (cdA g (9 + n1)), .ref (cdA g (9 + n2)), .int v3, .int v4]) ++ List.replicate (5 - (lg_sl ([.ref (cdA g 4), .ref (cdA g (9 + n1)), .ref (cdA g (9 + n2)), .int v3, .int v4])).length) Slot.unset).toArray = ls at hl ⊢
  have hl : lv_has ls 5 [(0, .ref (cdA g 4)), (1, .ref (cdA g (9 + n1))), (2, .ref (cdA g (9 + n2))), (3, .int v3), (4, .int v4)] := hl
  obtain ⟨Qm, hQm⟩ : ∃ z, z = MQ below (va_Qv Q (fun σ' t => va_P (cdD g) vwCl (cdW g σ') t.heap) (cdZ g s.heap.size)) ([.ref (cdA g 4), .ref (cdA g (9 + n1)), .ref (cdA g (9 + n2)), .int v3, .int v4] : List Value).toArray s 0 0 (cdZ g s.heap.size) := ⟨_, rfl⟩
  rw [← hQm]
  have hB := hwp
  refine lv_aload_n hx hb dX1_layInTurns_0 rfl (lv_at hl 0 rfl) ?_
  refine lv_iconst (v := 2) hx hb dX1_layInTurns_1 (by decide) ?_
  refine lv_iload_n hx hb dX1_layInTurns_2 rfl (lv_at hl 3 rfl) ?_
  refine lv_imul hx hb dX1_layInTurns_3 ?_
  refine lv_iconst (v := 2) hx hb dX1_layInTurns_4 (by decide) ?_
  refine lv_iload hx hb dX1_layInTurns_5 (lv_at hl 4 rfl) ?_
  refine lv_imul hx hb dX1_layInTurns_7 ?_
  refine cd_cv (cd_runV (As := [.int ((2 : Int32) * v3), .int ((2 : Int32) * v4)]) (rest := []) (σ := σ) (k := 4) (ci := 1) X wm_X1_45 (by decide) rfl rfl rfl (c_X1_clear l g ((2 : Int32) * v3) ((2 : Int32) * v4) σ _ hB _) hP hS rfl rfl hl.1 (Nat.le_of_ble_eq_true rfl) ⟨Nat.le_of_ble_eq_true rfl, Nat.le_of_ble_eq_true rfl⟩ ⟨Nat.zero_le _, Nat.zero_le _⟩ dX1_layInTurns_8) hS (fun σ_2 H locs hB hP hS => ?_)
  refine lv_aload_n hx hb dX1_layInTurns_11 rfl (lv_at hl 0 rfl) ?_
  refine lv_aload_n hx hb dX1_layInTurns_12 rfl (lv_at hl 1 rfl) ?_
  refine lv_iconst (v := 0) hx hb dX1_layInTurns_13 (by decide) ?_
  refine lv_iconst (v := 0) hx hb dX1_layInTurns_14 (by decide) ?_
  refine cd_cv (cd_runV (As := [.ref (cdA g (9 + n1)), .int (0 : Int32), .int (0 : Int32)]) (rest := []) (σ := σ_2) (k := 4) (ci := 1) X wm_X1_49 (by decide) rfl rfl rfl (c_X1_addWrapped l g n1 (0 : Int32) (0 : Int32) σ_2 _ hB _) hP hS rfl rfl hl.1 (Nat.le_of_ble_eq_true rfl) ⟨Nat.le_of_ble_eq_true rfl, Nat.le_of_ble_eq_true rfl⟩ ⟨Nat.zero_le _, Nat.zero_le _⟩ dX1_layInTurns_15) hS (fun σ_4 H locs hB hP hS => ?_)
  refine lv_aload_n hx hb dX1_layInTurns_18 rfl (lv_at hl 0 rfl) ?_
  refine lv_aload_n hx hb dX1_layInTurns_19 rfl (lv_at hl 1 rfl) ?_
  refine lv_iload_n hx hb dX1_layInTurns_20 rfl (lv_at hl 3 rfl) ?_
  refine lv_iload hx hb dX1_layInTurns_21 (lv_at hl 4 rfl) ?_
  refine cd_cv (cd_runV (As := [.ref (cdA g (9 + n1)), .int v3, .int v4]) (rest := []) (σ := σ_4) (k := 4) (ci := 1) X wm_X1_49 (by decide) rfl rfl rfl (c_X1_addWrapped l g n1 v3 v4 σ_4 _ hB _) hP hS rfl rfl hl.1 (Nat.le_of_ble_eq_true rfl) ⟨Nat.le_of_ble_eq_true rfl, Nat.le_of_ble_eq_true rfl⟩ ⟨Nat.zero_le _, Nat.zero_le _⟩ dX1_layInTurns_23) hS (fun σ_6 H locs hB hP hS => ?_)
  refine lv_aload_n hx hb dX1_layInTurns_26 rfl (lv_at hl 0 rfl) ?_
  refine lv_aload_n hx hb dX1_layInTurns_27 rfl (lv_at hl 2 rfl) ?_
  refine lv_iload_n hx hb dX1_layInTurns_28 rfl (lv_at hl 3 rfl) ?_
  refine lv_iconst (v := 0) hx hb dX1_layInTurns_29 (by decide) ?_
  refine cd_cv (cd_runV (As := [.ref (cdA g (9 + n2)), .int v3, .int (0 : Int32)]) (rest := []) (σ := σ_6) (k := 4) (ci := 1) X wm_X1_49 (by decide) rfl rfl rfl (c_X1_addWrapped l g n2 v3 (0 : Int32) σ_6 _ hB _) hP hS rfl rfl hl.1 (Nat.le_of_ble_eq_true rfl) ⟨Nat.le_of_ble_eq_true rfl, Nat.le_of_ble_eq_true rfl⟩ ⟨Nat.zero_le _, Nat.zero_le _⟩ dX1_layInTurns_30) hS (fun σ_8 H locs hB hP hS => ?_)
  refine lv_aload_n hx hb dX1_layInTurns_33 rfl (lv_at hl 0 rfl) ?_
  refine lv_aload_n hx hb dX1_layInTurns_34 rfl (lv_at hl 2 rfl) ?_
  refine lv_iconst (v := 0) hx hb dX1_layInTurns_35 (by decide) ?_
  refine lv_iload hx hb dX1_layInTurns_36 (lv_at hl 4 rfl) ?_
  refine cd_cv (cd_runV (As := [.ref (cdA g (9 + n2)), .int (0 : Int32), .int v4]) (rest := []) (σ := σ_8) (k := 4) (ci := 1) X wm_X1_49 (by decide) rfl rfl rfl (c_X1_addWrapped l g n2 (0 : Int32) v4 σ_8 _ hB _) hP hS rfl rfl hl.1 (Nat.le_of_ble_eq_true rfl) ⟨Nat.le_of_ble_eq_true rfl, Nat.le_of_ble_eq_true rfl⟩ ⟨Nat.zero_le _, Nat.zero_le _⟩ dX1_layInTurns_38) hS (fun σ_10 H locs hB hP hS => ?_)
  rw [hQm]
  exact W.vret hx hb hr (fun t ht hW => ⟨⟨σ_10, rfl, hB, cd_hp ht hP⟩, hS.F ht⟩) hS.2.2 dX1_layInTurns_41
def wp_X1_layTile (n1 : Nat) (v2 : Int32) (v3 : Int32) (v4 : Int32) (σ : cdS) (Q : cdS → Prop) : Prop :=
  ∀ (P16 : Int32 → Int32 → cdS → Prop),
    (∀ (t0 : Int32) (t1 : Int32) (σ : cdS), (
    wp_X1_clear t1 t0 σ (fun σ_3 => 
    wp_X1_addWrapped n1 (0 : Int32) (0 : Int32) σ_3 (fun σ_5 => 
    ((¬ v2 = (1 : Int32) →
    Q σ_5) ∧
    (v2 = (1 : Int32) →
    wp_X1_addWrapped n1 (v3 / (2 : Int32)) v4 σ_5 (fun σ_8 => 
    Q σ_8)))))) → P16 t0 t1 σ) →
    
    ((¬ v2 = (1 : Int32) →
    P16 v4 v3 σ) ∧
    (v2 = (1 : Int32) →
    P16 ((2 : Int32) * v4) v3 σ))
set_option maxHeartbeats 4000000 in
set_option maxRecDepth 100000 in
theorem c_X1_layTile (l : Launch) (g : cdG) (n1 : Nat) (v2 : Int32) (v3 : Int32) (v4 : Int32) (σ : cdS) (Q : cdS → Prop) (hwp : wp_X1_layTile n1 v2 v3 v4 σ Q) : cdCv l g yX1_layTile cX1_layTile 5 none 3 70 [.ref (cdA g 4), .ref (cdA g (9 + n1)), .int v2, .int v3, .int v4] σ Q := by
  intro sz
  refine Met.ofW (cc := cX1_layTile) (maxL := 5) (ret := none) (by decide) rfl ?_
  intro p e s m args below meth c s₁ B hml hv
  obtain ⟨rfl, hsz, hP, hK, hdi, hV⟩ := hv
  subst hsz
  have hx := B.exec
  have hb := B.bytes
  have hr := B.returns
  have hlocks := B.notSynchronized
  have hown : s.vm.findClass RX1 = some m.cls := findClass_of_methodNamed B.named
  have hts : ∀ w ∈ cdL, w.before _ s = true := fun w hw => atoms_spec (ws := cdWs yX1_layTile cX1_layTile 5 none) B.pre w (List.mem_cons_of_mem _ hw)
  have X : cdX p s m _ c cX1_layTile 5 RX1 g := ⟨hx, hb, hml, hown, hts, hK, hdi, hV⟩
  have hS : va_S (cdZ g s.heap.size) s.heap s.heap [] := va_S.rf
  have hl := lv_entry ([.ref (cdA g 4), .ref (cdA g (9 + n1)), .int v2, .int v3, .int v4]) (n := 5) (Nat.le_of_ble_eq_true rfl)
  rw [lg_entry_eq]
  generalize (lg_sl ([.ref (cdA g 4), .ref (cdA g (9 + n1)), .int v2, .int v3, .int v4]) ++ List.replicate (5 - (lg_sl ([.ref (cdA g 4), .ref (cdA g (9 + n1)), .int v2, .int v3, .int v4])).length) Slot.unset).toArray = ls at hl ⊢
  have hl : lv_has ls 5 [(0, .ref (cdA g 4)), (1, .ref (cdA g (9 + n1))), (2, .int v2), (3, .int v3), (4, .int v4)] := hl
  obtain ⟨Qm, hQm⟩ : ∃ z, z = MQ below (va_Qv Q (fun σ' t => va_P (cdD g) vwCl (cdW g σ') t.heap) (cdZ g s.heap.size)) ([.ref (cdA g 4), .ref (cdA g (9 + n1)), .int v2, .int v3, .int v4] : List Value).toArray s 0 0 (cdZ g s.heap.size) := ⟨_, rfl⟩
  rw [← hQm]
  have hB := hwp (fun (t0 : Int32) (t1 : Int32) (σ : cdS) => cdCut p l e (headSpec (cdWs yX1_layTile cX1_layTile 5 none) (cdRm 3 70)).room s m ([.ref (cdA g 4), .ref (cdA g (9 + n1)), .int v2, .int v3, .int v4] : List Value).toArray below meth c Qm g 5 16 [(0, .ref (cdA g 4)), (1, .ref (cdA g (9 + n1))), (2, .int v2), (3, .int v3), (4, .int v4)] [.int t0, .int t1, .ref (cdA g 4)] σ)
    (by
    intro t0 t1 σ hB H locs ls hP hS hl
    refine cd_cv (cd_runV (As := [.int t1, .int t0]) (rest := []) (σ := σ) (k := 4) (ci := 1) X wm_X1_45 (by decide) rfl rfl rfl (c_X1_clear l g t1 t0 σ _ hB _) hP hS rfl rfl hl.1 (Nat.le_of_ble_eq_true rfl) ⟨Nat.le_of_ble_eq_true rfl, Nat.le_of_ble_eq_true rfl⟩ ⟨Nat.zero_le _, Nat.zero_le _⟩ dX1_layTile_16) hS (fun σ_3 H locs hB hP hS => ?_)
    refine lv_aload_n hx hb dX1_layTile_19 rfl (lv_at hl 0 rfl) ?_
    refine lv_aload_n hx hb dX1_layTile_20 rfl (lv_at hl 1 rfl) ?_
    refine lv_iconst (v := 0) hx hb dX1_layTile_21 (by decide) ?_
    refine lv_iconst (v := 0) hx hb dX1_layTile_22 (by decide) ?_
    refine cd_cv (cd_runV (As := [.ref (cdA g (9 + n1)), .int (0 : Int32), .int (0 : Int32)]) (rest := []) (σ := σ_3) (k := 4) (ci := 1) X wm_X1_49 (by decide) rfl rfl rfl (c_X1_addWrapped l g n1 (0 : Int32) (0 : Int32) σ_3 _ hB _) hP hS rfl rfl hl.1 (Nat.le_of_ble_eq_true rfl) ⟨Nat.le_of_ble_eq_true rfl, Nat.le_of_ble_eq_true rfl⟩ ⟨Nat.zero_le _, Nat.zero_le _⟩ dX1_layTile_23) hS (fun σ_5 H locs hB hP hS => ?_)
    refine lv_iload_n hx hb dX1_layTile_26 rfl (lv_at hl 2 rfl) ?_
    refine lv_iconst (v := 1) hx hb dX1_layTile_27 (by decide) ?_
    refine lv_icmp_ne (tgt := 41) hx hb dX1_layTile_28 (by decide) (fun c_6 => ?_) (fun c_6 => ?_)
    · have hB := hB.1 c_6
      rw [hQm]
      exact W.vret hx hb hr (fun t ht hW => ⟨⟨σ_5, rfl, hB, cd_hp ht hP⟩, hS.F ht⟩) hS.2.2 dX1_layTile_41
    · have hB := hB.2 c_6
      refine lv_aload_n hx hb dX1_layTile_31 rfl (lv_at hl 0 rfl) ?_
      refine lv_aload_n hx hb dX1_layTile_32 rfl (lv_at hl 1 rfl) ?_
      refine lv_iload_n hx hb dX1_layTile_33 rfl (lv_at hl 3 rfl) ?_
      refine lv_iconst (v := 2) hx hb dX1_layTile_34 (by decide) ?_
      refine lv_idiv hx hb dX1_layTile_35 (by decide) ?_
      refine lv_iload hx hb dX1_layTile_36 (lv_at hl 4 rfl) ?_
      refine cd_cv (cd_runV (As := [.ref (cdA g (9 + n1)), .int (v3 / (2 : Int32)), .int v4]) (rest := []) (σ := σ_5) (k := 4) (ci := 1) X wm_X1_49 (by decide) rfl rfl rfl (c_X1_addWrapped l g n1 (v3 / (2 : Int32)) v4 σ_5 _ hB _) hP hS rfl rfl hl.1 (Nat.le_of_ble_eq_true rfl) ⟨Nat.le_of_ble_eq_true rfl, Nat.le_of_ble_eq_true rfl⟩ ⟨Nat.zero_le _, Nat.zero_le _⟩ dX1_layTile_38) hS (fun σ_8 H locs hB hP hS => ?_)
      rw [hQm]
      exact W.vret hx hb hr (fun t ht hW => ⟨⟨σ_8, rfl, hB, cd_hp ht hP⟩, hS.F ht⟩) hS.2.2 dX1_layTile_41)
  refine lv_aload_n hx hb dX1_layTile_0 rfl (lv_at hl 0 rfl) ?_
  refine lv_iload_n hx hb dX1_layTile_1 rfl (lv_at hl 3 rfl) ?_
  refine lv_iload_n hx hb dX1_layTile_2 rfl (lv_at hl 2 rfl) ?_
  refine lv_iconst (v := 1) hx hb dX1_layTile_3 (by decide) ?_
  refine lv_icmp_ne (tgt := 14) hx hb dX1_layTile_4 (by decide) (fun c_1 => ?_) (fun c_1 => ?_)
  · have hB := hB.1 c_1
    refine lv_iload hx hb dX1_layTile_14 (lv_at hl 4 rfl) ?_
    exact hB _ _ _ hP hS (lv_sub hl [0, 1, 2, 3, 4] rfl)
  · have hB := hB.2 c_1
    refine lv_iconst (v := 2) hx hb dX1_layTile_7 (by decide) ?_
    refine lv_iload hx hb dX1_layTile_8 (lv_at hl 4 rfl) ?_
    refine lv_imul hx hb dX1_layTile_10 ?_
    refine lv_goto (tgt := 16) hx hb dX1_layTile_11 (by decide) ?_
    exact hB _ _ _ hP hS (lv_sub hl [0, 1, 2, 3, 4] rfl)
def wp_X1_low  (σ : cdS) (Q : cdS → Prop) : Prop :=
  
    wp_X1_many σ (fun r_1 => 
    ∀ x1_3 : Int32, x1_3 = ((r_1 + (3 : Int32)) / (4 : Int32)) →
    wp_X1_many σ (fun r_4 => 
    wp_X1_driestTogether x1_3 σ (fun r_6 σ_7 => 
    wp_X1_total σ_7 (fun r_8 => 
    wp_X4_set (r_4 * r_6) (x1_3 * r_8) σ_7 (fun σ_11 => 
    Q σ_11)))))
set_option maxHeartbeats 4000000 in
set_option maxRecDepth 100000 in
theorem c_X1_low (l : Launch) (g : cdG)  (σ : cdS) (Q : cdS → Prop) (hwp : wp_X1_low  σ Q) : cdCr l g yX1_low cX1_low 2 (some (.object "CanDepths$Ratio")) 3 69 [.ref (cdA g 4)] σ Q := by
  intro sz
  refine Met.ofW (cc := cX1_low) (maxL := 2) (ret := (some (.object "CanDepths$Ratio"))) (by decide) rfl ?_
  intro p e s m args below meth c s₁ B hml hv
  obtain ⟨rfl, hsz, hP, hK, hdi, hV⟩ := hv
  subst hsz
  have hx := B.exec
  have hb := B.bytes
  have hr := B.returns
  have hlocks := B.notSynchronized
  have hown : s.vm.findClass RX1 = some m.cls := findClass_of_methodNamed B.named
  have hts : ∀ w ∈ cdL, w.before _ s = true := fun w hw => atoms_spec (ws := cdWs yX1_low cX1_low 2 (some (.object "CanDepths$Ratio"))) B.pre w (List.mem_cons_of_mem _ hw)
  have X : cdX p s m _ c cX1_low 2 RX1 g := ⟨hx, hb, hml, hown, hts, hK, hdi, hV⟩
  have hS : va_S (cdZ g s.heap.size) s.heap s.heap [] := va_S.rf
  have hl := lv_entry ([.ref (cdA g 4)]) (n := 2) (Nat.le_of_ble_eq_true rfl)
  rw [lg_entry_eq]
  generalize (lg_sl ([.ref (cdA g 4)]) ++ List.replicate (2 - (lg_sl ([.ref (cdA g 4)])).length) Slot.unset).toArray = ls at hl ⊢
  have hl : lv_has ls 2 [(0, .ref (cdA g 4))] := hl
  obtain ⟨Qm, hQm⟩ : ∃ z, z = MQ below (va_Qr Q (fun σ' ra t => ra = cdA g 7 ∧ va_P (cdD g) vwCl (cdW g σ') t.heap) (cdZ g s.heap.size)) ([.ref (cdA g 4)] : List Value).toArray s 0 0 (cdZ g s.heap.size) := ⟨_, rfl⟩
  rw [← hQm]
  have hB := hwp
  refine lv_aload_n hx hb dX1_low_0 rfl (lv_at hl 0 rfl) ?_
  refine cd_ci (cd_runV (As := []) (rest := []) (σ := σ) (k := 4) (ci := 1) X wm_X1_41 (by decide) rfl rfl rfl (c_X1_many l g  σ _ hB _) hP hS rfl rfl hl.1 (Nat.le_of_ble_eq_true rfl) ⟨Nat.le_of_ble_eq_true rfl, Nat.le_of_ble_eq_true rfl⟩ ⟨Nat.zero_le _, Nat.zero_le _⟩ dX1_low_1) hS (fun r_1 σ_2 H locs hB hP hS => ?_)
  obtain ⟨eσ_2, hB⟩ := hB
  rw [eσ_2] at hP
  refine lv_iconst (v := 3) hx hb dX1_low_4 (by decide) ?_
  refine lv_iadd hx hb dX1_low_5 ?_
  refine lv_iconst (v := 4) hx hb dX1_low_6 (by decide) ?_
  refine lv_idiv hx hb dX1_low_7 (by decide) ?_
  refine lv_topi (fun x1_3 ex1_3 => ?_)
  have hB := hB x1_3 ex1_3
  refine lv_istore_n (lv' := [(1, .int x1_3), (0, .ref (cdA g 4))]) hx hb dX1_low_8 rfl hl (by decide) rfl (fun ls hl => ?_)
  refine lv_aload_n hx hb dX1_low_9 rfl (lv_at hl 1 rfl) ?_
  refine cd_get X hP (C := RX1) (T := TX1) (N := 5) (ci := 1) (k := 4) (j := 2) (v := .ref (cdA g 7)) inX1 (by decide) rfl rfl (by decide) wf_X1_21 rfl rfl dX1_low_10 ?_
  refine lv_aload_n hx hb dX1_low_13 rfl (lv_at hl 1 rfl) ?_
  refine cd_ci (cd_runV (As := []) (rest := [.ref (cdA g 7)]) (σ := σ) (k := 4) (ci := 1) X wm_X1_41 (by decide) rfl rfl rfl (c_X1_many l g  σ _ hB _) hP hS rfl rfl hl.1 (Nat.le_of_ble_eq_true rfl) ⟨Nat.le_of_ble_eq_true rfl, Nat.le_of_ble_eq_true rfl⟩ ⟨Nat.zero_le _, Nat.zero_le _⟩ dX1_low_14) hS (fun r_4 σ_5 H locs hB hP hS => ?_)
  obtain ⟨eσ_5, hB⟩ := hB
  rw [eσ_5] at hP
  refine lv_aload_n hx hb dX1_low_17 rfl (lv_at hl 1 rfl) ?_
  refine lv_iload_n hx hb dX1_low_18 rfl (lv_at hl 0 rfl) ?_
  refine cd_ci (cd_runV (As := [.int x1_3]) (rest := [.int r_4, .ref (cdA g 7)]) (σ := σ) (k := 4) (ci := 1) X wm_X1_101 (by decide) rfl rfl rfl (c_X1_driestTogether l g x1_3 σ _ hB _) hP hS rfl rfl hl.1 (Nat.le_of_ble_eq_true rfl) ⟨Nat.le_of_ble_eq_true rfl, Nat.le_of_ble_eq_true rfl⟩ ⟨Nat.zero_le _, Nat.zero_le _⟩ dX1_low_19) hS (fun r_6 σ_7 H locs hB hP hS => ?_)
  refine lv_imul hx hb dX1_low_22 ?_
  refine lv_iload_n hx hb dX1_low_23 rfl (lv_at hl 0 rfl) ?_
  refine lv_aload_n hx hb dX1_low_24 rfl (lv_at hl 1 rfl) ?_
  refine cd_ci (cd_runV (As := []) (rest := [.int x1_3, .int (r_4 * r_6), .ref (cdA g 7)]) (σ := σ_7) (k := 4) (ci := 1) X wm_X1_64 (by decide) rfl rfl rfl (c_X1_total l g  σ_7 _ hB _) hP hS rfl rfl hl.1 (Nat.le_of_ble_eq_true rfl) ⟨Nat.le_of_ble_eq_true rfl, Nat.le_of_ble_eq_true rfl⟩ ⟨Nat.zero_le _, Nat.zero_le _⟩ dX1_low_25) hS (fun r_8 σ_9 H locs hB hP hS => ?_)
  obtain ⟨eσ_9, hB⟩ := hB
  rw [eσ_9] at hP
  refine lv_imul hx hb dX1_low_28 ?_
  refine cd_cv (cd_runV (As := [.int (r_4 * r_6), .int (x1_3 * r_8)]) (rest := []) (σ := σ_7) (k := 7) (ci := 4) X wm_X1_92 (by decide) rfl rfl rfl (c_X4_set l g (r_4 * r_6) (x1_3 * r_8) σ_7 _ hB _) hP hS rfl rfl hl.1 (Nat.le_of_ble_eq_true rfl) ⟨Nat.le_of_ble_eq_true rfl, Nat.le_of_ble_eq_true rfl⟩ ⟨Nat.zero_le _, Nat.zero_le _⟩ dX1_low_29) hS (fun σ_11 H locs hB hP hS => ?_)
  refine lv_aload_n hx hb dX1_low_32 rfl (lv_at hl 1 rfl) ?_
  refine cd_get X hP (C := RX1) (T := TX1) (N := 5) (ci := 1) (k := 4) (j := 2) (v := .ref (cdA g 7)) inX1 (by decide) rfl rfl (by decide) wf_X1_21 rfl rfl dX1_low_33 ?_
  rw [hQm]
  exact W.aret hx hb hr (Or.inl ⟨_, rfl⟩) (Or.inr ⟨_, rfl⟩) (fun t ht hW => ⟨⟨σ_11, cdA g 7, rfl, hB, rfl, cd_hp ht hP⟩, hS.F ht⟩) hS.2.2 dX1_low_36
def wp_X1_shareWithin (n1 : Nat) (v2 : Int32) (v3 : Int32) (σ : cdS) (Q : Int32 → Prop) : Prop :=
  ∀ (P6 : Int32 → Int32 → Prop) (P18 : Int32 → Int32 → Int32 → Prop),
    (∀ (x4 : Int32) (x5 : Int32), (
    (((σ.1 4 4) ≤ x5 →
    Q x4) ∧
    (¬ ((σ.1 4 4) ≤ x5) →
    P18 x4 x5 (0 : Int32)))) → P6 x4 x5) →
    (∀ (x4 : Int32) (x5 : Int32) (x6 : Int32), (
    (((σ.1 4 3) ≤ x6 →
    ∀ x5_3 : Int32, x5_3 = x5 + 1 →
    P6 x4 x5_3) ∧
    (¬ ((σ.1 4 3) ≤ x6) →
    n1 < 5 ∧ wp_X2_depthAt n1 (x6 - v2) (x5 - v3) σ (fun r_5 => 
    ∀ x4_7 : Int32, x4_7 = (x4 + r_5) →
    ∀ x6_8 : Int32, x6_8 = x6 + 1 →
    P18 x4_7 x5 x6_8)))) → P18 x4 x5 x6) →
    
    P6 (0 : Int32) (0 : Int32)
set_option maxHeartbeats 4000000 in
set_option maxRecDepth 100000 in
theorem c_X1_shareWithin (l : Launch) (g : cdG) (n1 : Nat) (v2 : Int32) (v3 : Int32) (σ : cdS) (Q : Int32 → Prop) (hwp : wp_X1_shareWithin n1 v2 v3 σ Q) : cdCi l g yX1_shareWithin cX1_shareWithin 7 (some .int) 1 23 [.ref (cdA g 4), .ref (cdA g (9 + n1)), .int v2, .int v3] σ (fun r σ' => σ' = σ ∧ Q r) := by
  intro sz
  refine Met.ofW (cc := cX1_shareWithin) (maxL := 7) (ret := (some .int)) (by decide) rfl ?_
  intro p e s m args below meth c s₁ B hml hv
  obtain ⟨rfl, hsz, hP, hK, hdi, hV⟩ := hv
  subst hsz
  have hx := B.exec
  have hb := B.bytes
  have hr := B.returns
  have hlocks := B.notSynchronized
  have hown : s.vm.findClass RX1 = some m.cls := findClass_of_methodNamed B.named
  have hts : ∀ w ∈ cdL, w.before _ s = true := fun w hw => atoms_spec (ws := cdWs yX1_shareWithin cX1_shareWithin 7 (some .int)) B.pre w (List.mem_cons_of_mem _ hw)
  have X : cdX p s m _ c cX1_shareWithin 7 RX1 g := ⟨hx, hb, hml, hown, hts, hK, hdi, hV⟩
  have hS : va_S (cdZ g s.heap.size) s.heap s.heap [] := va_S.rf
  have hl := lv_entry ([.ref (cdA g 4), .ref (cdA g (9 + n1)), .int v2, .int v3]) (n := 7) (Nat.le_of_ble_eq_true rfl)
  rw [lg_entry_eq]
  generalize (lg_sl ([.ref (cdA g 4), .ref (cdA g (9 + n1)), .int v2, .int v3]) ++ List.replicate (7 - (lg_sl ([.ref (cdA g 4), .ref (cdA g (9 + n1)), .int v2, .int v3])).length) Slot.unset).toArray = ls at hl ⊢
  have hl : lv_has ls 7 [(0, .ref (cdA g 4)), (1, .ref (cdA g (9 + n1))), (2, .int v2), (3, .int v3)] := hl
  obtain ⟨Qm, hQm⟩ : ∃ z, z = MQ below (va_Qi (fun r σ' => σ' = σ ∧ Q r) (fun σ' t => va_P (cdD g) vwCl (cdW g σ') t.heap) (cdZ g s.heap.size)) ([.ref (cdA g 4), .ref (cdA g (9 + n1)), .int v2, .int v3] : List Value).toArray s 0 0 (cdZ g s.heap.size) := ⟨_, rfl⟩
  rw [← hQm]
  have hB := hwp (fun (x4 : Int32) (x5 : Int32) => cdCut p l e (headSpec (cdWs yX1_shareWithin cX1_shareWithin 7 (some .int)) (cdRm 1 23)).room s m ([.ref (cdA g 4), .ref (cdA g (9 + n1)), .int v2, .int v3] : List Value).toArray below meth c Qm g 7 6 [(0, .ref (cdA g 4)), (1, .ref (cdA g (9 + n1))), (2, .int v2), (3, .int v3), (4, .int x4), (5, .int x5)] [] σ)
    (fun (x4 : Int32) (x5 : Int32) (x6 : Int32) => cdCut p l e (headSpec (cdWs yX1_shareWithin cX1_shareWithin 7 (some .int)) (cdRm 1 23)).room s m ([.ref (cdA g 4), .ref (cdA g (9 + n1)), .int v2, .int v3] : List Value).toArray below meth c Qm g 7 18 [(0, .ref (cdA g 4)), (1, .ref (cdA g (9 + n1))), (2, .int v2), (3, .int v3), (4, .int x4), (5, .int x5), (6, .int x6)] [] σ)
    (by
    intro x4 x5 hB H locs ls hP hS hl
    refine lv_iload hx hb dX1_shareWithin_6 (lv_at hl 5 rfl) ?_
    refine lv_aload_n hx hb dX1_shareWithin_8 rfl (lv_at hl 0 rfl) ?_
    refine cd_get X hP (C := RX1) (T := TX1) (N := 5) (ci := 1) (k := 4) (j := 4) (v := .int (σ.1 4 4)) inX1 (by decide) rfl rfl (by decide) wf_X1_29 rfl rfl dX1_shareWithin_9 ?_
    refine lv_icmp_ge (tgt := 56) hx hb dX1_shareWithin_12 (by decide) (fun c_1 => ?_) (fun c_1 => ?_)
    · have hB := hB.1 c_1
      refine lv_iload hx hb dX1_shareWithin_56 (lv_at hl 4 rfl) ?_
      rw [hQm]
      exact W.iret hx hb hr (fun t ht hW => ⟨⟨x4, σ, rfl, ⟨rfl, hB⟩, cd_hp ht hP⟩, hS.F ht⟩) hS.2.2 dX1_shareWithin_58
    · have hB := hB.2 c_1
      refine lv_iconst (v := 0) hx hb dX1_shareWithin_15 (by decide) ?_
      refine lv_istore (lv' := [(6, .int (0 : Int32)), (0, .ref (cdA g 4)), (1, .ref (cdA g (9 + n1))), (2, .int v2), (3, .int v3), (4, .int x4), (5, .int x5)]) hx hb dX1_shareWithin_16 hl (by decide) rfl (fun ls hl => ?_)
      exact hB _ _ _ hP hS (lv_sub hl [1, 2, 3, 4, 5, 6, 0] rfl))
    (by
    intro x4 x5 x6 hB H locs ls hP hS hl
    refine lv_iload hx hb dX1_shareWithin_18 (lv_at hl 6 rfl) ?_
    refine lv_aload_n hx hb dX1_shareWithin_20 rfl (lv_at hl 0 rfl) ?_
    refine cd_get X hP (C := RX1) (T := TX1) (N := 5) (ci := 1) (k := 4) (j := 3) (v := .int (σ.1 4 3)) inX1 (by decide) rfl rfl (by decide) wf_X1_25 rfl rfl dX1_shareWithin_21 ?_
    refine lv_icmp_ge (tgt := 50) hx hb dX1_shareWithin_24 (by decide) (fun c_2 => ?_) (fun c_2 => ?_)
    · have hB := hB.1 c_2
      obtain ⟨x5_3, ex5_3⟩ : ∃ z : Int32, z = x5 + 1 := ⟨_, rfl⟩
      have hB := hB x5_3 ex5_3
      refine lv_iinc (v := x5_3) (lv' := [(5, .int x5_3), (0, .ref (cdA g 4)), (1, .ref (cdA g (9 + n1))), (2, .int v2), (3, .int v3), (4, .int x4), (6, .int x6)]) hx hb dX1_shareWithin_50 hl (k := 5) rfl (by rw [ex5_3]; rfl) (by decide) rfl (fun ls hl => ?_)
      refine lv_goto (tgt := 6) hx hb dX1_shareWithin_53 (by decide) ?_
      exact hB _ _ _ hP hS (lv_sub hl [1, 2, 3, 4, 5, 0] rfl)
    · have hB := hB.2 c_2
      refine lv_iload hx hb dX1_shareWithin_27 (lv_at hl 4 rfl) ?_
      refine lv_aload_n hx hb dX1_shareWithin_29 rfl (lv_at hl 1 rfl) ?_
      refine lv_iload hx hb dX1_shareWithin_30 (lv_at hl 6 rfl) ?_
      refine lv_iload_n hx hb dX1_shareWithin_32 rfl (lv_at hl 2 rfl) ?_
      refine lv_isub hx hb dX1_shareWithin_33 ?_
      refine lv_iload hx hb dX1_shareWithin_34 (lv_at hl 5 rfl) ?_
      refine lv_iload_n hx hb dX1_shareWithin_36 rfl (lv_at hl 3 rfl) ?_
      refine lv_isub hx hb dX1_shareWithin_37 ?_
      obtain ⟨k_4, hB⟩ := hB
      refine cd_ci (cd_runV (As := [.int (x6 - v2), .int (x5 - v3)]) (rest := [.int x4]) (σ := σ) (k := 9 + n1) (ci := 2) X wm_X1_61 (show 9 + n1 < 24 by omega) (cdE_head g σ k_4) rfl rfl (c_X2_depthAt l g n1 (x6 - v2) (x5 - v3) σ _ hB _) hP hS rfl rfl hl.1 (Nat.le_of_ble_eq_true rfl) ⟨Nat.le_of_ble_eq_true rfl, Nat.le_of_ble_eq_true rfl⟩ ⟨Nat.zero_le _, Nat.zero_le _⟩ dX1_shareWithin_38) hS (fun r_5 σ_6 H locs hB hP hS => ?_)
      obtain ⟨eσ_6, hB⟩ := hB
      rw [eσ_6] at hP
      refine lv_iadd hx hb dX1_shareWithin_41 ?_
      refine lv_topi (fun x4_7 ex4_7 => ?_)
      have hB := hB x4_7 ex4_7
      refine lv_istore (lv' := [(4, .int x4_7), (0, .ref (cdA g 4)), (1, .ref (cdA g (9 + n1))), (2, .int v2), (3, .int v3), (5, .int x5), (6, .int x6)]) hx hb dX1_shareWithin_42 hl (by decide) rfl (fun ls hl => ?_)
      obtain ⟨x6_8, ex6_8⟩ : ∃ z : Int32, z = x6 + 1 := ⟨_, rfl⟩
      have hB := hB x6_8 ex6_8
      refine lv_iinc (v := x6_8) (lv' := [(6, .int x6_8), (4, .int x4_7), (0, .ref (cdA g 4)), (1, .ref (cdA g (9 + n1))), (2, .int v2), (3, .int v3), (5, .int x5)]) hx hb dX1_shareWithin_44 hl (k := 6) rfl (by rw [ex6_8]; rfl) (by decide) rfl (fun ls hl => ?_)
      refine lv_goto (tgt := 18) hx hb dX1_shareWithin_47 (by decide) ?_
      exact hB _ _ _ hP hS (lv_sub hl [2, 3, 4, 5, 1, 6, 0] rfl))
  refine lv_iconst (v := 0) hx hb dX1_shareWithin_0 (by decide) ?_
  refine lv_istore (lv' := [(4, .int (0 : Int32)), (0, .ref (cdA g 4)), (1, .ref (cdA g (9 + n1))), (2, .int v2), (3, .int v3)]) hx hb dX1_shareWithin_1 hl (by decide) rfl (fun ls hl => ?_)
  refine lv_iconst (v := 0) hx hb dX1_shareWithin_3 (by decide) ?_
  refine lv_istore (lv' := [(5, .int (0 : Int32)), (4, .int (0 : Int32)), (0, .ref (cdA g 4)), (1, .ref (cdA g (9 + n1))), (2, .int v2), (3, .int v3)]) hx hb dX1_shareWithin_4 hl (by decide) rfl (fun ls hl => ?_)
  exact hB _ _ _ hP hS (lv_sub hl [2, 3, 4, 5, 1, 0] rfl)
def wp_X1_tell (v1 : Int32) (σ : cdS) (Q : Int32 → cdS → Prop) : Prop :=
  
    ((v1 = (0 : Int32) →
    wp_X1_many σ (fun r_2 => 
    Q r_2 σ)) ∧
    (¬ (v1 = (0 : Int32)) →
    ((v1 = (1 : Int32) →
    wp_X1_total σ (fun r_5 => 
    Q r_5 σ)) ∧
    (¬ (v1 = (1 : Int32)) →
    ((v1 = (2 : Int32) →
    wp_X1_driestPlace σ (fun r_8 => 
    vp_in r_8 361 ∧
    Q (σ.1 5 (r_8).toNatClampNeg) σ)) ∧
    (¬ (v1 = (2 : Int32)) →
    ((v1 = (3 : Int32) →
    wp_X1_greatest σ (fun r_12 => 
    Q r_12 σ)) ∧
    (¬ (v1 = (3 : Int32)) →
    ((v1 = (4 : Int32) →
    wp_X1_total σ (fun r_15 => 
    ((¬ r_15 = 0 →
    wp_X1_even σ (fun σ_19 => 
    wp_X4_above σ_19 (fun r_20 => 
    Q r_20 σ_19))) ∧
    (r_15 = 0 →
    Q (-1000001 : Int32) σ)))) ∧
    (¬ (v1 = (4 : Int32)) →
    ((v1 = (5 : Int32) →
    wp_X1_total σ (fun r_23 => 
    ((¬ r_23 = 0 →
    wp_X1_even σ (fun σ_27 => 
    wp_X4_below σ_27 (fun r_28 => 
    Q r_28 σ_27))) ∧
    (r_23 = 0 →
    Q (-1000001 : Int32) σ)))) ∧
    (¬ (v1 = (5 : Int32)) →
    ((v1 = (6 : Int32) →
    wp_X1_total σ (fun r_31 => 
    ((¬ r_31 = 0 →
    wp_X1_low σ (fun σ_35 => 
    wp_X4_above σ_35 (fun r_36 => 
    Q r_36 σ_35))) ∧
    (r_31 = 0 →
    Q (-1000001 : Int32) σ)))) ∧
    (¬ (v1 = (6 : Int32)) →
    ((v1 = (7 : Int32) →
    wp_X1_total σ (fun r_39 => 
    ((¬ r_39 = 0 →
    wp_X1_low σ (fun σ_43 => 
    wp_X4_below σ_43 (fun r_44 => 
    Q r_44 σ_43))) ∧
    (r_39 = 0 →
    Q (-1000001 : Int32) σ)))) ∧
    (¬ (v1 = (7 : Int32)) →
    Q (-1000003 : Int32) σ))))))))))))))))
set_option maxHeartbeats 4000000 in
set_option maxRecDepth 100000 in
theorem c_X1_tell (l : Launch) (g : cdG) (v1 : Int32) (σ : cdS) (Q : Int32 → cdS → Prop) (hwp : wp_X1_tell v1 σ Q) : cdCi l g yX1_tell cX1_tell 2 (some .int) 4 90 [.ref (cdA g 4), .int v1] σ Q := by
  intro sz
  refine Met.ofW (cc := cX1_tell) (maxL := 2) (ret := (some .int)) (by decide) rfl ?_
  intro p e s m args below meth c s₁ B hml hv
  obtain ⟨rfl, hsz, hP, hK, hdi, hV⟩ := hv
  subst hsz
  have hx := B.exec
  have hb := B.bytes
  have hr := B.returns
  have hlocks := B.notSynchronized
  have hown : s.vm.findClass RX1 = some m.cls := findClass_of_methodNamed B.named
  have hts : ∀ w ∈ cdL, w.before _ s = true := fun w hw => atoms_spec (ws := cdWs yX1_tell cX1_tell 2 (some .int)) B.pre w (List.mem_cons_of_mem _ hw)
  have X : cdX p s m _ c cX1_tell 2 RX1 g := ⟨hx, hb, hml, hown, hts, hK, hdi, hV⟩
  have hS : va_S (cdZ g s.heap.size) s.heap s.heap [] := va_S.rf
  have hl := lv_entry ([.ref (cdA g 4), .int v1]) (n := 2) (Nat.le_of_ble_eq_true rfl)
  rw [lg_entry_eq]
  generalize (lg_sl ([.ref (cdA g 4), .int v1]) ++ List.replicate (2 - (lg_sl ([.ref (cdA g 4), .int v1])).length) Slot.unset).toArray = ls at hl ⊢
  have hl : lv_has ls 2 [(0, .ref (cdA g 4)), (1, .int v1)] := hl
  obtain ⟨Qm, hQm⟩ : ∃ z, z = MQ below (va_Qi Q (fun σ' t => va_P (cdD g) vwCl (cdW g σ') t.heap) (cdZ g s.heap.size)) ([.ref (cdA g 4), .int v1] : List Value).toArray s 0 0 (cdZ g s.heap.size) := ⟨_, rfl⟩
  rw [← hQm]
  have hB := hwp
  refine lv_iload_n hx hb dX1_tell_0 rfl (lv_at hl 1 rfl) ?_
  by_cases c_1 : v1 = (0 : Int32)
  · have hB := hB.1 c_1
    refine lv_tableIn (tgt := 48) hx hb dX1_tell_1 (by rw [c_1]; decide) (by rw [c_1]; decide) (by rw [c_1]; rfl) (by decide) ?_
    refine lv_aload_n hx hb dX1_tell_48 rfl (lv_at hl 0 rfl) ?_
    refine cd_ci (cd_runV (As := []) (rest := []) (σ := σ) (k := 4) (ci := 1) X wm_X1_41 (by decide) rfl rfl rfl (c_X1_many l g  σ _ hB _) hP hS rfl rfl hl.1 (Nat.le_of_ble_eq_true rfl) ⟨Nat.le_of_ble_eq_true rfl, Nat.le_of_ble_eq_true rfl⟩ ⟨Nat.zero_le _, Nat.zero_le _⟩ dX1_tell_49) hS (fun r_2 σ_3 H locs hB hP hS => ?_)
    obtain ⟨eσ_3, hB⟩ := hB
    rw [eσ_3] at hP
    rw [hQm]
    exact W.iret hx hb hr (fun t ht hW => ⟨⟨r_2, σ, rfl, hB, cd_hp ht hP⟩, hS.F ht⟩) hS.2.2 dX1_tell_52
  · have hB := hB.2 c_1
    by_cases c_4 : v1 = (1 : Int32)
    · have hB := hB.1 c_4
      refine lv_tableIn (tgt := 53) hx hb dX1_tell_1 (by rw [c_4]; decide) (by rw [c_4]; decide) (by rw [c_4]; rfl) (by decide) ?_
      refine lv_aload_n hx hb dX1_tell_53 rfl (lv_at hl 0 rfl) ?_
      refine cd_ci (cd_runV (As := []) (rest := []) (σ := σ) (k := 4) (ci := 1) X wm_X1_64 (by decide) rfl rfl rfl (c_X1_total l g  σ _ hB _) hP hS rfl rfl hl.1 (Nat.le_of_ble_eq_true rfl) ⟨Nat.le_of_ble_eq_true rfl, Nat.le_of_ble_eq_true rfl⟩ ⟨Nat.zero_le _, Nat.zero_le _⟩ dX1_tell_54) hS (fun r_5 σ_6 H locs hB hP hS => ?_)
      obtain ⟨eσ_6, hB⟩ := hB
      rw [eσ_6] at hP
      rw [hQm]
      exact W.iret hx hb hr (fun t ht hW => ⟨⟨r_5, σ, rfl, hB, cd_hp ht hP⟩, hS.F ht⟩) hS.2.2 dX1_tell_57
    · have hB := hB.2 c_4
      by_cases c_7 : v1 = (2 : Int32)
      · have hB := hB.1 c_7
        refine lv_tableIn (tgt := 58) hx hb dX1_tell_1 (by rw [c_7]; decide) (by rw [c_7]; decide) (by rw [c_7]; rfl) (by decide) ?_
        refine lv_aload_n hx hb dX1_tell_58 rfl (lv_at hl 0 rfl) ?_
        refine cd_get X hP (C := RX1) (T := TX1) (N := 5) (ci := 1) (k := 4) (j := 0) (v := .ref (cdA g 5)) inX1 (by decide) rfl rfl (by decide) wf_X1_11 rfl rfl dX1_tell_59 ?_
        refine lv_aload_n hx hb dX1_tell_62 rfl (lv_at hl 0 rfl) ?_
        refine cd_ci (cd_runV (As := []) (rest := [.ref (cdA g 5)]) (σ := σ) (k := 4) (ci := 1) X wm_X1_67 (by decide) rfl rfl rfl (c_X1_driestPlace l g  σ _ hB _) hP hS rfl rfl hl.1 (Nat.le_of_ble_eq_true rfl) ⟨Nat.le_of_ble_eq_true rfl, Nat.le_of_ble_eq_true rfl⟩ ⟨Nat.zero_le _, Nat.zero_le _⟩ dX1_tell_63) hS (fun r_8 σ_9 H locs hB hP hS => ?_)
        obtain ⟨eσ_9, hB⟩ := hB
        rw [eσ_9] at hP
        obtain ⟨i_10, hB⟩ := hB
        refine cd_ald X hP (k := 5) (N := 361) (by decide) rfl i_10 dX1_tell_66 ?_
        rw [hQm]
        exact W.iret hx hb hr (fun t ht hW => ⟨⟨(σ.1 5 (r_8).toNatClampNeg), σ, rfl, hB, cd_hp ht hP⟩, hS.F ht⟩) hS.2.2 dX1_tell_67
      · have hB := hB.2 c_7
        by_cases c_11 : v1 = (3 : Int32)
        · have hB := hB.1 c_11
          refine lv_tableIn (tgt := 68) hx hb dX1_tell_1 (by rw [c_11]; decide) (by rw [c_11]; decide) (by rw [c_11]; rfl) (by decide) ?_
          refine lv_aload_n hx hb dX1_tell_68 rfl (lv_at hl 0 rfl) ?_
          refine cd_ci (cd_runV (As := []) (rest := []) (σ := σ) (k := 4) (ci := 1) X wm_X1_70 (by decide) rfl rfl rfl (c_X1_greatest l g  σ _ hB _) hP hS rfl rfl hl.1 (Nat.le_of_ble_eq_true rfl) ⟨Nat.le_of_ble_eq_true rfl, Nat.le_of_ble_eq_true rfl⟩ ⟨Nat.zero_le _, Nat.zero_le _⟩ dX1_tell_69) hS (fun r_12 σ_13 H locs hB hP hS => ?_)
          obtain ⟨eσ_13, hB⟩ := hB
          rw [eσ_13] at hP
          rw [hQm]
          exact W.iret hx hb hr (fun t ht hW => ⟨⟨r_12, σ, rfl, hB, cd_hp ht hP⟩, hS.F ht⟩) hS.2.2 dX1_tell_72
        · have hB := hB.2 c_11
          by_cases c_14 : v1 = (4 : Int32)
          · have hB := hB.1 c_14
            refine lv_tableIn (tgt := 73) hx hb dX1_tell_1 (by rw [c_14]; decide) (by rw [c_14]; decide) (by rw [c_14]; rfl) (by decide) ?_
            refine lv_aload_n hx hb dX1_tell_73 rfl (lv_at hl 0 rfl) ?_
            refine cd_ci (cd_runV (As := []) (rest := []) (σ := σ) (k := 4) (ci := 1) X wm_X1_64 (by decide) rfl rfl rfl (c_X1_total l g  σ _ hB _) hP hS rfl rfl hl.1 (Nat.le_of_ble_eq_true rfl) ⟨Nat.le_of_ble_eq_true rfl, Nat.le_of_ble_eq_true rfl⟩ ⟨Nat.zero_le _, Nat.zero_le _⟩ dX1_tell_74) hS (fun r_15 σ_16 H locs hB hP hS => ?_)
            obtain ⟨eσ_16, hB⟩ := hB
            rw [eσ_16] at hP
            refine lv_if_ne (tgt := 85) hx hb dX1_tell_77 (by decide) (fun c_17 => ?_) (fun c_17 => ?_)
            · have hB := hB.1 c_17
              refine lv_aload_n hx hb dX1_tell_85 rfl (lv_at hl 0 rfl) ?_
              refine cd_cr (cd_runV (As := []) (rest := []) (σ := σ) (k := 4) (ci := 1) X wm_X1_74 (by decide) rfl rfl rfl (c_X1_even l g  σ _ hB _) hP hS rfl rfl hl.1 (Nat.le_of_ble_eq_true rfl) ⟨Nat.le_of_ble_eq_true rfl, Nat.le_of_ble_eq_true rfl⟩ ⟨Nat.zero_le _, Nat.zero_le _⟩ dX1_tell_86) hS (fun σ_19 H locs hB hP hS => ?_)
              refine cd_ci (cd_runV (As := []) (rest := []) (σ := σ_19) (k := 7) (ci := 4) X wm_X1_78 (by decide) rfl rfl rfl (c_X4_above l g  σ_19 _ hB _) hP hS rfl rfl hl.1 (Nat.le_of_ble_eq_true rfl) ⟨Nat.le_of_ble_eq_true rfl, Nat.le_of_ble_eq_true rfl⟩ ⟨Nat.zero_le _, Nat.zero_le _⟩ dX1_tell_89) hS (fun r_20 σ_21 H locs hB hP hS => ?_)
              obtain ⟨eσ_21, hB⟩ := hB
              rw [eσ_21] at hP
              rw [hQm]
              exact W.iret hx hb hr (fun t ht hW => ⟨⟨r_20, σ_19, rfl, hB, cd_hp ht hP⟩, hS.F ht⟩) hS.2.2 dX1_tell_92
            · have hB := hB.2 c_17
              refine lv_ldc (v := -1000001) hx hb hown (hts _ wc_X1_73) dX1_tell_80 ?_
              refine lv_goto (tgt := 92) hx hb dX1_tell_82 (by decide) ?_
              rw [hQm]
              exact W.iret hx hb hr (fun t ht hW => ⟨⟨(-1000001 : Int32), σ, rfl, hB, cd_hp ht hP⟩, hS.F ht⟩) hS.2.2 dX1_tell_92
          · have hB := hB.2 c_14
            by_cases c_22 : v1 = (5 : Int32)
            · have hB := hB.1 c_22
              refine lv_tableIn (tgt := 93) hx hb dX1_tell_1 (by rw [c_22]; decide) (by rw [c_22]; decide) (by rw [c_22]; rfl) (by decide) ?_
              refine lv_aload_n hx hb dX1_tell_93 rfl (lv_at hl 0 rfl) ?_
              refine cd_ci (cd_runV (As := []) (rest := []) (σ := σ) (k := 4) (ci := 1) X wm_X1_64 (by decide) rfl rfl rfl (c_X1_total l g  σ _ hB _) hP hS rfl rfl hl.1 (Nat.le_of_ble_eq_true rfl) ⟨Nat.le_of_ble_eq_true rfl, Nat.le_of_ble_eq_true rfl⟩ ⟨Nat.zero_le _, Nat.zero_le _⟩ dX1_tell_94) hS (fun r_23 σ_24 H locs hB hP hS => ?_)
              obtain ⟨eσ_24, hB⟩ := hB
              rw [eσ_24] at hP
              refine lv_if_ne (tgt := 105) hx hb dX1_tell_97 (by decide) (fun c_25 => ?_) (fun c_25 => ?_)
              · have hB := hB.1 c_25
                refine lv_aload_n hx hb dX1_tell_105 rfl (lv_at hl 0 rfl) ?_
                refine cd_cr (cd_runV (As := []) (rest := []) (σ := σ) (k := 4) (ci := 1) X wm_X1_74 (by decide) rfl rfl rfl (c_X1_even l g  σ _ hB _) hP hS rfl rfl hl.1 (Nat.le_of_ble_eq_true rfl) ⟨Nat.le_of_ble_eq_true rfl, Nat.le_of_ble_eq_true rfl⟩ ⟨Nat.zero_le _, Nat.zero_le _⟩ dX1_tell_106) hS (fun σ_27 H locs hB hP hS => ?_)
                refine cd_ci (cd_runV (As := []) (rest := []) (σ := σ_27) (k := 7) (ci := 4) X wm_X1_81 (by decide) rfl rfl rfl (c_X4_below l g  σ_27 _ hB _) hP hS rfl rfl hl.1 (Nat.le_of_ble_eq_true rfl) ⟨Nat.le_of_ble_eq_true rfl, Nat.le_of_ble_eq_true rfl⟩ ⟨Nat.zero_le _, Nat.zero_le _⟩ dX1_tell_109) hS (fun r_28 σ_29 H locs hB hP hS => ?_)
                obtain ⟨eσ_29, hB⟩ := hB
                rw [eσ_29] at hP
                rw [hQm]
                exact W.iret hx hb hr (fun t ht hW => ⟨⟨r_28, σ_27, rfl, hB, cd_hp ht hP⟩, hS.F ht⟩) hS.2.2 dX1_tell_112
              · have hB := hB.2 c_25
                refine lv_ldc (v := -1000001) hx hb hown (hts _ wc_X1_73) dX1_tell_100 ?_
                refine lv_goto (tgt := 112) hx hb dX1_tell_102 (by decide) ?_
                rw [hQm]
                exact W.iret hx hb hr (fun t ht hW => ⟨⟨(-1000001 : Int32), σ, rfl, hB, cd_hp ht hP⟩, hS.F ht⟩) hS.2.2 dX1_tell_112
            · have hB := hB.2 c_22
              by_cases c_30 : v1 = (6 : Int32)
              · have hB := hB.1 c_30
                refine lv_tableIn (tgt := 113) hx hb dX1_tell_1 (by rw [c_30]; decide) (by rw [c_30]; decide) (by rw [c_30]; rfl) (by decide) ?_
                refine lv_aload_n hx hb dX1_tell_113 rfl (lv_at hl 0 rfl) ?_
                refine cd_ci (cd_runV (As := []) (rest := []) (σ := σ) (k := 4) (ci := 1) X wm_X1_64 (by decide) rfl rfl rfl (c_X1_total l g  σ _ hB _) hP hS rfl rfl hl.1 (Nat.le_of_ble_eq_true rfl) ⟨Nat.le_of_ble_eq_true rfl, Nat.le_of_ble_eq_true rfl⟩ ⟨Nat.zero_le _, Nat.zero_le _⟩ dX1_tell_114) hS (fun r_31 σ_32 H locs hB hP hS => ?_)
                obtain ⟨eσ_32, hB⟩ := hB
                rw [eσ_32] at hP
                refine lv_if_ne (tgt := 125) hx hb dX1_tell_117 (by decide) (fun c_33 => ?_) (fun c_33 => ?_)
                · have hB := hB.1 c_33
                  refine lv_aload_n hx hb dX1_tell_125 rfl (lv_at hl 0 rfl) ?_
                  refine cd_cr (cd_runV (As := []) (rest := []) (σ := σ) (k := 4) (ci := 1) X wm_X1_84 (by decide) rfl rfl rfl (c_X1_low l g  σ _ hB _) hP hS rfl rfl hl.1 (Nat.le_of_ble_eq_true rfl) ⟨Nat.le_of_ble_eq_true rfl, Nat.le_of_ble_eq_true rfl⟩ ⟨Nat.zero_le _, Nat.zero_le _⟩ dX1_tell_126) hS (fun σ_35 H locs hB hP hS => ?_)
                  refine cd_ci (cd_runV (As := []) (rest := []) (σ := σ_35) (k := 7) (ci := 4) X wm_X1_78 (by decide) rfl rfl rfl (c_X4_above l g  σ_35 _ hB _) hP hS rfl rfl hl.1 (Nat.le_of_ble_eq_true rfl) ⟨Nat.le_of_ble_eq_true rfl, Nat.le_of_ble_eq_true rfl⟩ ⟨Nat.zero_le _, Nat.zero_le _⟩ dX1_tell_129) hS (fun r_36 σ_37 H locs hB hP hS => ?_)
                  obtain ⟨eσ_37, hB⟩ := hB
                  rw [eσ_37] at hP
                  rw [hQm]
                  exact W.iret hx hb hr (fun t ht hW => ⟨⟨r_36, σ_35, rfl, hB, cd_hp ht hP⟩, hS.F ht⟩) hS.2.2 dX1_tell_132
                · have hB := hB.2 c_33
                  refine lv_ldc (v := -1000001) hx hb hown (hts _ wc_X1_73) dX1_tell_120 ?_
                  refine lv_goto (tgt := 132) hx hb dX1_tell_122 (by decide) ?_
                  rw [hQm]
                  exact W.iret hx hb hr (fun t ht hW => ⟨⟨(-1000001 : Int32), σ, rfl, hB, cd_hp ht hP⟩, hS.F ht⟩) hS.2.2 dX1_tell_132
              · have hB := hB.2 c_30
                by_cases c_38 : v1 = (7 : Int32)
                · have hB := hB.1 c_38
                  refine lv_tableIn (tgt := 133) hx hb dX1_tell_1 (by rw [c_38]; decide) (by rw [c_38]; decide) (by rw [c_38]; rfl) (by decide) ?_
                  refine lv_aload_n hx hb dX1_tell_133 rfl (lv_at hl 0 rfl) ?_
                  refine cd_ci (cd_runV (As := []) (rest := []) (σ := σ) (k := 4) (ci := 1) X wm_X1_64 (by decide) rfl rfl rfl (c_X1_total l g  σ _ hB _) hP hS rfl rfl hl.1 (Nat.le_of_ble_eq_true rfl) ⟨Nat.le_of_ble_eq_true rfl, Nat.le_of_ble_eq_true rfl⟩ ⟨Nat.zero_le _, Nat.zero_le _⟩ dX1_tell_134) hS (fun r_39 σ_40 H locs hB hP hS => ?_)
                  obtain ⟨eσ_40, hB⟩ := hB
                  rw [eσ_40] at hP
                  refine lv_if_ne (tgt := 145) hx hb dX1_tell_137 (by decide) (fun c_41 => ?_) (fun c_41 => ?_)
                  · have hB := hB.1 c_41
                    refine lv_aload_n hx hb dX1_tell_145 rfl (lv_at hl 0 rfl) ?_
                    refine cd_cr (cd_runV (As := []) (rest := []) (σ := σ) (k := 4) (ci := 1) X wm_X1_84 (by decide) rfl rfl rfl (c_X1_low l g  σ _ hB _) hP hS rfl rfl hl.1 (Nat.le_of_ble_eq_true rfl) ⟨Nat.le_of_ble_eq_true rfl, Nat.le_of_ble_eq_true rfl⟩ ⟨Nat.zero_le _, Nat.zero_le _⟩ dX1_tell_146) hS (fun σ_43 H locs hB hP hS => ?_)
                    refine cd_ci (cd_runV (As := []) (rest := []) (σ := σ_43) (k := 7) (ci := 4) X wm_X1_81 (by decide) rfl rfl rfl (c_X4_below l g  σ_43 _ hB _) hP hS rfl rfl hl.1 (Nat.le_of_ble_eq_true rfl) ⟨Nat.le_of_ble_eq_true rfl, Nat.le_of_ble_eq_true rfl⟩ ⟨Nat.zero_le _, Nat.zero_le _⟩ dX1_tell_149) hS (fun r_44 σ_45 H locs hB hP hS => ?_)
                    obtain ⟨eσ_45, hB⟩ := hB
                    rw [eσ_45] at hP
                    rw [hQm]
                    exact W.iret hx hb hr (fun t ht hW => ⟨⟨r_44, σ_43, rfl, hB, cd_hp ht hP⟩, hS.F ht⟩) hS.2.2 dX1_tell_152
                  · have hB := hB.2 c_41
                    refine lv_ldc (v := -1000001) hx hb hown (hts _ wc_X1_73) dX1_tell_140 ?_
                    refine lv_goto (tgt := 152) hx hb dX1_tell_142 (by decide) ?_
                    rw [hQm]
                    exact W.iret hx hb hr (fun t ht hW => ⟨⟨(-1000001 : Int32), σ, rfl, hB, cd_hp ht hP⟩, hS.F ht⟩) hS.2.2 dX1_tell_152
                · have hB := hB.2 c_38
                  have qc_1 := cd_ni (z := 0) (by decide) c_1
                  have qc_4 := cd_ni (z := 1) (by decide) c_4
                  have qc_7 := cd_ni (z := 2) (by decide) c_7
                  have qc_11 := cd_ni (z := 3) (by decide) c_11
                  have qc_14 := cd_ni (z := 4) (by decide) c_14
                  have qc_22 := cd_ni (z := 5) (by decide) c_22
                  have qc_30 := cd_ni (z := 6) (by decide) c_30
                  have qc_38 := cd_ni (z := 7) (by decide) c_38
                  refine lv_tableOut (tgt := 153) hx hb dX1_tell_1 (by omega) (by decide) ?_
                  refine lv_ldc (v := -1000003) hx hb hown (hts _ wc_X1_87) dX1_tell_153 ?_
                  rw [hQm]
                  exact W.iret hx hb hr (fun t ht hW => ⟨⟨(-1000003 : Int32), σ, rfl, hB, cd_hp ht hP⟩, hS.F ht⟩) hS.2.2 dX1_tell_155
def wp_X1_wrappedAt (v1 : Int32) (v2 : Int32) (σ : cdS) (Q : Int32 → Prop) : Prop :=
  
    wp_X1_wrappedPlace v1 v2 σ (fun r_1 => 
    vp_in r_1 361 ∧
    Q (σ.1 5 (r_1).toNatClampNeg))
set_option maxHeartbeats 4000000 in
set_option maxRecDepth 100000 in
theorem c_X1_wrappedAt (l : Launch) (g : cdG) (v1 : Int32) (v2 : Int32) (σ : cdS) (Q : Int32 → Prop) (hwp : wp_X1_wrappedAt v1 v2 σ Q) : cdCi l g yX1_wrappedAt cX1_wrappedAt 3 (some .int) 2 44 [.ref (cdA g 4), .int v1, .int v2] σ (fun r σ' => σ' = σ ∧ Q r) := by
  intro sz
  refine Met.ofW (cc := cX1_wrappedAt) (maxL := 3) (ret := (some .int)) (by decide) rfl ?_
  intro p e s m args below meth c s₁ B hml hv
  obtain ⟨rfl, hsz, hP, hK, hdi, hV⟩ := hv
  subst hsz
  have hx := B.exec
  have hb := B.bytes
  have hr := B.returns
  have hlocks := B.notSynchronized
  have hown : s.vm.findClass RX1 = some m.cls := findClass_of_methodNamed B.named
  have hts : ∀ w ∈ cdL, w.before _ s = true := fun w hw => atoms_spec (ws := cdWs yX1_wrappedAt cX1_wrappedAt 3 (some .int)) B.pre w (List.mem_cons_of_mem _ hw)
  have X : cdX p s m _ c cX1_wrappedAt 3 RX1 g := ⟨hx, hb, hml, hown, hts, hK, hdi, hV⟩
  have hS : va_S (cdZ g s.heap.size) s.heap s.heap [] := va_S.rf
  have hl := lv_entry ([.ref (cdA g 4), .int v1, .int v2]) (n := 3) (Nat.le_of_ble_eq_true rfl)
  rw [lg_entry_eq]
  generalize (lg_sl ([.ref (cdA g 4), .int v1, .int v2]) ++ List.replicate (3 - (lg_sl ([.ref (cdA g 4), .int v1, .int v2])).length) Slot.unset).toArray = ls at hl ⊢
  have hl : lv_has ls 3 [(0, .ref (cdA g 4)), (1, .int v1), (2, .int v2)] := hl
  obtain ⟨Qm, hQm⟩ : ∃ z, z = MQ below (va_Qi (fun r σ' => σ' = σ ∧ Q r) (fun σ' t => va_P (cdD g) vwCl (cdW g σ') t.heap) (cdZ g s.heap.size)) ([.ref (cdA g 4), .int v1, .int v2] : List Value).toArray s 0 0 (cdZ g s.heap.size) := ⟨_, rfl⟩
  rw [← hQm]
  have hB := hwp
  refine lv_aload_n hx hb dX1_wrappedAt_0 rfl (lv_at hl 0 rfl) ?_
  refine cd_get X hP (C := RX1) (T := TX1) (N := 5) (ci := 1) (k := 4) (j := 0) (v := .ref (cdA g 5)) inX1 (by decide) rfl rfl (by decide) wf_X1_11 rfl rfl dX1_wrappedAt_1 ?_
  refine lv_aload_n hx hb dX1_wrappedAt_4 rfl (lv_at hl 0 rfl) ?_
  refine lv_iload_n hx hb dX1_wrappedAt_5 rfl (lv_at hl 1 rfl) ?_
  refine lv_iload_n hx hb dX1_wrappedAt_6 rfl (lv_at hl 2 rfl) ?_
  refine cd_ci (cd_runV (As := [.int v1, .int v2]) (rest := [.ref (cdA g 5)]) (σ := σ) (k := 4) (ci := 1) X wm_X1_58 (by decide) rfl rfl rfl (c_X1_wrappedPlace l g v1 v2 σ _ hB _) hP hS rfl rfl hl.1 (Nat.le_of_ble_eq_true rfl) ⟨Nat.le_of_ble_eq_true rfl, Nat.le_of_ble_eq_true rfl⟩ ⟨Nat.zero_le _, Nat.zero_le _⟩ dX1_wrappedAt_7) hS (fun r_1 σ_2 H locs hB hP hS => ?_)
  obtain ⟨eσ_2, hB⟩ := hB
  rw [eσ_2] at hP
  obtain ⟨i_3, hB⟩ := hB
  refine cd_ald X hP (k := 5) (N := 361) (by decide) rfl i_3 dX1_wrappedAt_10 ?_
  rw [hQm]
  exact W.iret hx hb hr (fun t ht hW => ⟨⟨(σ.1 5 (r_1).toNatClampNeg), σ, rfl, ⟨rfl, hB⟩, cd_hp ht hP⟩, hS.F ht⟩) hS.2.2 dX1_wrappedAt_11
