def wp_X6_depth (v1 : Int32) (v2 : Int32) (v3 : Int32) (σ : cdS) (Q : Int32 → Prop) : Prop :=
  
    wp_X6_isHead v1 σ (fun r_1 => 
    ((¬ r_1 = 0 →
    wp_X6_within v2 (-3 : Int32) (3 : Int32) σ (fun r_4 => 
    ((r_4 = 0 →
    Q (-1000003 : Int32)) ∧
    (¬ (r_4 = 0) →
    wp_X6_within v3 (-3 : Int32) (3 : Int32) σ (fun r_7 => 
    ((r_7 = 0 →
    Q (-1000003 : Int32)) ∧
    (¬ (r_7 = 0) →
    wp_X6_depthAt v1 v2 v3 σ (fun r_10 => 
    Q r_10)))))))) ∧
    (r_1 = 0 →
    Q (-1000002 : Int32))))
set_option maxHeartbeats 4000000 in
set_option maxRecDepth 100000 in
theorem c_X6_depth (l : Launch) (g : cdG) (v1 : Int32) (v2 : Int32) (v3 : Int32) (σ : cdS) (Q : Int32 → Prop) (hwp : wp_X6_depth v1 v2 v3 σ Q) : cdCi l g yX6_depth cX6_depth 4 (some .int) 2 45 [.ref (cdA g 19), .int v1, .int v2, .int v3] σ (fun r σ' => σ' = σ ∧ Q r) := by
  intro sz
  refine Met.ofW (cc := cX6_depth) (maxL := 4) (ret := (some .int)) (by decide) rfl ?_
  intro p e s m args below meth c s₁ B hml hv
  obtain ⟨rfl, hsz, hP, hK, hdi, hV⟩ := hv
  subst hsz
  have hx := B.exec
  have hb := B.bytes
  have hr := B.returns
  have hlocks := B.notSynchronized
  have hown : s.vm.findClass RX6 = some m.cls := findClass_of_methodNamed B.named
  have hts : ∀ w ∈ cdL, w.before _ s = true := fun w hw => atoms_spec (ws := cdWs yX6_depth cX6_depth 4 (some .int)) B.pre w (List.mem_cons_of_mem _ hw)
  have X : cdX p s m _ c cX6_depth 4 RX6 g := ⟨hx, hb, hml, hown, hts, hK, hdi, hV⟩
  have hS : va_S (cdZ g s.heap.size) s.heap s.heap [] := va_S.rf
  have hl := lv_entry ([.ref (cdA g 19), .int v1, .int v2, .int v3]) (n := 4) (Nat.le_of_ble_eq_true rfl)
  rw [lg_entry_eq]
  generalize (lg_sl ([.ref (cdA g 19), .int v1, .int v2, .int v3]) ++ List.replicate (4 - (lg_sl ([.ref (cdA g 19), .int v1, .int v2, .int v3])).length) Slot.unset).toArray = ls at hl ⊢
  have hl : lv_has ls 4 [(0, .ref (cdA g 19)), (1, .int v1), (2, .int v2), (3, .int v3)] := hl
  obtain ⟨Qm, hQm⟩ : ∃ z, z = MQ below (va_Qi (fun r σ' => σ' = σ ∧ Q r) (fun σ' t => va_P (cdD g) vwCl (cdW g σ') t.heap) (cdZ g s.heap.size)) ([.ref (cdA g 19), .int v1, .int v2, .int v3] : List Value).toArray s 0 0 (cdZ g s.heap.size) := ⟨_, rfl⟩
  rw [← hQm]
  have hB := hwp
  refine lv_aload_n hx hb dX6_depth_0 rfl (lv_at hl 0 rfl) ?_
  refine lv_iload_n hx hb dX6_depth_1 rfl (lv_at hl 1 rfl) ?_
  refine cd_ci (cd_runV (As := [.int v1]) (rest := []) (σ := σ) (k := 19) (ci := 6) X wm_X6_65 (by decide) rfl rfl rfl (c_X6_isHead l g v1 σ _ hB _) hP hS rfl rfl hl.1 (Nat.le_of_ble_eq_true rfl) ⟨Nat.le_of_ble_eq_true rfl, Nat.le_of_ble_eq_true rfl⟩ ⟨Nat.zero_le _, Nat.zero_le _⟩ dX6_depth_2) hS (fun r_1 σ_2 H locs hB hP hS => ?_)
  obtain ⟨eσ_2, hB⟩ := hB
  rw [eσ_2] at hP
  refine lv_if_ne (tgt := 11) hx hb dX6_depth_5 (by decide) (fun c_3 => ?_) (fun c_3 => ?_)
  · have hB := hB.1 c_3
    refine lv_iload_n hx hb dX6_depth_11 rfl (lv_at hl 2 rfl) ?_
    refine lv_bipush (v := -3) hx hb dX6_depth_12 (by decide) ?_
    refine lv_iconst (v := 3) hx hb dX6_depth_14 (by decide) ?_
    refine cd_ci (cd_runS (As := [.int v2, .int (-3 : Int32), .int (3 : Int32)]) (rest := []) (σ := σ) X wm_X6_22 (c_X6_within l g v2 (-3 : Int32) (3 : Int32) σ _ hB _) hP hS rfl rfl hl.1 (Nat.le_of_ble_eq_true rfl) ⟨Nat.le_of_ble_eq_true rfl, Nat.le_of_ble_eq_true rfl⟩ ⟨Nat.zero_le _, Nat.zero_le _⟩ dX6_depth_15) hS (fun r_4 σ_5 H locs hB hP hS => ?_)
    obtain ⟨eσ_5, hB⟩ := hB
    rw [eσ_5] at hP
    refine lv_if_eq (tgt := 41) hx hb dX6_depth_18 (by decide) (fun c_6 => ?_) (fun c_6 => ?_)
    · have hB := hB.1 c_6
      refine lv_ldc (v := -1000003) hx hb hown (hts _ wc_X6_26) dX6_depth_41 ?_
      rw [hQm]
      exact W.iret hx hb hr (fun t ht hW => ⟨⟨(-1000003 : Int32), σ, rfl, ⟨rfl, hB⟩, cd_hp ht hP⟩, hS.F ht⟩) hS.2.2 dX6_depth_43
    · have hB := hB.2 c_6
      refine lv_iload_n hx hb dX6_depth_21 rfl (lv_at hl 3 rfl) ?_
      refine lv_bipush (v := -3) hx hb dX6_depth_22 (by decide) ?_
      refine lv_iconst (v := 3) hx hb dX6_depth_24 (by decide) ?_
      refine cd_ci (cd_runS (As := [.int v3, .int (-3 : Int32), .int (3 : Int32)]) (rest := []) (σ := σ) X wm_X6_22 (c_X6_within l g v3 (-3 : Int32) (3 : Int32) σ _ hB _) hP hS rfl rfl hl.1 (Nat.le_of_ble_eq_true rfl) ⟨Nat.le_of_ble_eq_true rfl, Nat.le_of_ble_eq_true rfl⟩ ⟨Nat.zero_le _, Nat.zero_le _⟩ dX6_depth_25) hS (fun r_7 σ_8 H locs hB hP hS => ?_)
      obtain ⟨eσ_8, hB⟩ := hB
      rw [eσ_8] at hP
      refine lv_if_eq (tgt := 41) hx hb dX6_depth_28 (by decide) (fun c_9 => ?_) (fun c_9 => ?_)
      · have hB := hB.1 c_9
        refine lv_ldc (v := -1000003) hx hb hown (hts _ wc_X6_26) dX6_depth_41 ?_
        rw [hQm]
        exact W.iret hx hb hr (fun t ht hW => ⟨⟨(-1000003 : Int32), σ, rfl, ⟨rfl, hB⟩, cd_hp ht hP⟩, hS.F ht⟩) hS.2.2 dX6_depth_43
      · have hB := hB.2 c_9
        refine lv_aload_n hx hb dX6_depth_31 rfl (lv_at hl 0 rfl) ?_
        refine lv_iload_n hx hb dX6_depth_32 rfl (lv_at hl 1 rfl) ?_
        refine lv_iload_n hx hb dX6_depth_33 rfl (lv_at hl 2 rfl) ?_
        refine lv_iload_n hx hb dX6_depth_34 rfl (lv_at hl 3 rfl) ?_
        refine cd_ci (cd_runV (As := [.int v1, .int v2, .int v3]) (rest := []) (σ := σ) (k := 19) (ci := 6) X wm_X6_76 (by decide) rfl rfl rfl (c_X6_depthAt l g v1 v2 v3 σ _ hB _) hP hS rfl rfl hl.1 (Nat.le_of_ble_eq_true rfl) ⟨Nat.le_of_ble_eq_true rfl, Nat.le_of_ble_eq_true rfl⟩ ⟨Nat.zero_le _, Nat.zero_le _⟩ dX6_depth_35) hS (fun r_10 σ_11 H locs hB hP hS => ?_)
        obtain ⟨eσ_11, hB⟩ := hB
        rw [eσ_11] at hP
        refine lv_goto (tgt := 43) hx hb dX6_depth_38 (by decide) ?_
        rw [hQm]
        exact W.iret hx hb hr (fun t ht hW => ⟨⟨r_10, σ, rfl, ⟨rfl, hB⟩, cd_hp ht hP⟩, hS.F ht⟩) hS.2.2 dX6_depth_43
  · have hB := hB.2 c_3
    refine lv_ldc (v := -1000002) hx hb hown (hts _ wc_X6_68) dX6_depth_8 ?_
    rw [hQm]
    exact W.iret hx hb hr (fun t ht hW => ⟨⟨(-1000002 : Int32), σ, rfl, ⟨rfl, hB⟩, cd_hp ht hP⟩, hS.F ht⟩) hS.2.2 dX6_depth_10
def wp_X6_depthOf (v0 : Int32) (σ : cdS) (Q : Int32 → Prop) : Prop :=
  
    wp_X6_within v0 (48 : Int32) (57 : Int32) σ (fun r_1 => 
    ((r_1 = 0 →
    wp_X6_within v0 (97 : Int32) (122 : Int32) σ (fun r_4 => 
    ((r_4 = 0 →
    Q (-1000001 : Int32)) ∧
    (¬ (r_4 = 0) →
    Q ((v0 - (97 : Int32)) + (10 : Int32)))))) ∧
    (¬ (r_1 = 0) →
    Q (v0 - (48 : Int32)))))
set_option maxHeartbeats 4000000 in
set_option maxRecDepth 100000 in
theorem c_X6_depthOf (l : Launch) (g : cdG) (v0 : Int32) (σ : cdS) (Q : Int32 → Prop) (hwp : wp_X6_depthOf v0 σ Q) : cdCi l g yX6_depthOf cX6_depthOf 1 (some .int) 1 22 [.int v0] σ (fun r σ' => σ' = σ ∧ Q r) := by
  intro sz
  refine Met.ofW (cc := cX6_depthOf) (maxL := 1) (ret := (some .int)) (by decide) rfl ?_
  intro p e s m args below meth c s₁ B hml hv
  obtain ⟨rfl, hsz, hP, hK, hdi, hV⟩ := hv
  subst hsz
  have hx := B.exec
  have hb := B.bytes
  have hr := B.returns
  have hlocks := B.notSynchronized
  have hown : s.vm.findClass RX6 = some m.cls := findClass_of_methodNamed B.named
  have hts : ∀ w ∈ cdL, w.before _ s = true := fun w hw => atoms_spec (ws := cdWs yX6_depthOf cX6_depthOf 1 (some .int)) B.pre w (List.mem_cons_of_mem _ hw)
  have X : cdX p s m _ c cX6_depthOf 1 RX6 g := ⟨hx, hb, hml, hown, hts, hK, hdi, hV⟩
  have hS : va_S (cdZ g s.heap.size) s.heap s.heap [] := va_S.rf
  have hl := lv_entry ([.int v0]) (n := 1) (Nat.le_of_ble_eq_true rfl)
  rw [lg_entry_eq]
  generalize (lg_sl ([.int v0]) ++ List.replicate (1 - (lg_sl ([.int v0])).length) Slot.unset).toArray = ls at hl ⊢
  have hl : lv_has ls 1 [(0, .int v0)] := hl
  obtain ⟨Qm, hQm⟩ : ∃ z, z = MQ below (va_Qi (fun r σ' => σ' = σ ∧ Q r) (fun σ' t => va_P (cdD g) vwCl (cdW g σ') t.heap) (cdZ g s.heap.size)) ([.int v0] : List Value).toArray s 0 0 (cdZ g s.heap.size) := ⟨_, rfl⟩
  rw [← hQm]
  have hB := hwp
  refine lv_iload_n hx hb dX6_depthOf_0 rfl (lv_at hl 0 rfl) ?_
  refine lv_bipush (v := 48) hx hb dX6_depthOf_1 (by decide) ?_
  refine lv_bipush (v := 57) hx hb dX6_depthOf_3 (by decide) ?_
  refine cd_ci (cd_runS (As := [.int v0, .int (48 : Int32), .int (57 : Int32)]) (rest := []) (σ := σ) X wm_X6_22 (c_X6_within l g v0 (48 : Int32) (57 : Int32) σ _ hB _) hP hS rfl rfl hl.1 (Nat.le_of_ble_eq_true rfl) ⟨Nat.le_of_ble_eq_true rfl, Nat.le_of_ble_eq_true rfl⟩ ⟨Nat.zero_le _, Nat.zero_le _⟩ dX6_depthOf_5) hS (fun r_1 σ_2 H locs hB hP hS => ?_)
  obtain ⟨eσ_2, hB⟩ := hB
  rw [eσ_2] at hP
  refine lv_if_eq (tgt := 18) hx hb dX6_depthOf_8 (by decide) (fun c_3 => ?_) (fun c_3 => ?_)
  · have hB := hB.1 c_3
    refine lv_iload_n hx hb dX6_depthOf_18 rfl (lv_at hl 0 rfl) ?_
    refine lv_bipush (v := 97) hx hb dX6_depthOf_19 (by decide) ?_
    refine lv_bipush (v := 122) hx hb dX6_depthOf_21 (by decide) ?_
    refine cd_ci (cd_runS (As := [.int v0, .int (97 : Int32), .int (122 : Int32)]) (rest := []) (σ := σ) X wm_X6_22 (c_X6_within l g v0 (97 : Int32) (122 : Int32) σ _ hB _) hP hS rfl rfl hl.1 (Nat.le_of_ble_eq_true rfl) ⟨Nat.le_of_ble_eq_true rfl, Nat.le_of_ble_eq_true rfl⟩ ⟨Nat.zero_le _, Nat.zero_le _⟩ dX6_depthOf_23) hS (fun r_4 σ_5 H locs hB hP hS => ?_)
    obtain ⟨eσ_5, hB⟩ := hB
    rw [eσ_5] at hP
    refine lv_if_eq (tgt := 39) hx hb dX6_depthOf_26 (by decide) (fun c_6 => ?_) (fun c_6 => ?_)
    · have hB := hB.1 c_6
      refine lv_ldc (v := -1000001) hx hb hown (hts _ wc_X6_32) dX6_depthOf_39 ?_
      rw [hQm]
      exact W.iret hx hb hr (fun t ht hW => ⟨⟨(-1000001 : Int32), σ, rfl, ⟨rfl, hB⟩, cd_hp ht hP⟩, hS.F ht⟩) hS.2.2 dX6_depthOf_41
    · have hB := hB.2 c_6
      refine lv_iload_n hx hb dX6_depthOf_29 rfl (lv_at hl 0 rfl) ?_
      refine lv_bipush (v := 97) hx hb dX6_depthOf_30 (by decide) ?_
      refine lv_isub hx hb dX6_depthOf_32 ?_
      refine lv_bipush (v := 10) hx hb dX6_depthOf_33 (by decide) ?_
      refine lv_iadd hx hb dX6_depthOf_35 ?_
      refine lv_goto (tgt := 41) hx hb dX6_depthOf_36 (by decide) ?_
      rw [hQm]
      exact W.iret hx hb hr (fun t ht hW => ⟨⟨((v0 - (97 : Int32)) + (10 : Int32)), σ, rfl, ⟨rfl, hB⟩, cd_hp ht hP⟩, hS.F ht⟩) hS.2.2 dX6_depthOf_41
  · have hB := hB.2 c_3
    refine lv_iload_n hx hb dX6_depthOf_11 rfl (lv_at hl 0 rfl) ?_
    refine lv_bipush (v := 48) hx hb dX6_depthOf_12 (by decide) ?_
    refine lv_isub hx hb dX6_depthOf_14 ?_
    refine lv_goto (tgt := 41) hx hb dX6_depthOf_15 (by decide) ?_
    rw [hQm]
    exact W.iret hx hb hr (fun t ht hW => ⟨⟨(v0 - (48 : Int32)), σ, rfl, ⟨rfl, hB⟩, cd_hp ht hP⟩, hS.F ht⟩) hS.2.2 dX6_depthOf_41
def wp_X6_turnedAt (v1 : Int32) (v2 : Int32) (v3 : Int32) (v4 : Int32) (σ : cdS) (Q : Int32 → Prop) : Prop :=
  
    ((¬ v2 = 0 →
    ((¬ v2 = (1 : Int32) →
    ((¬ v2 = (2 : Int32) →
    wp_X6_depthAt v1 (-v4) v3 σ (fun r_4 => 
    Q r_4)) ∧
    (v2 = (2 : Int32) →
    wp_X6_depthAt v1 (-v3) (-v4) σ (fun r_6 => 
    Q r_6)))) ∧
    (v2 = (1 : Int32) →
    wp_X6_depthAt v1 v4 (-v3) σ (fun r_8 => 
    Q r_8)))) ∧
    (v2 = 0 →
    wp_X6_depthAt v1 v3 v4 σ (fun r_10 => 
    Q r_10)))
set_option maxHeartbeats 4000000 in
set_option maxRecDepth 100000 in
theorem c_X6_turnedAt (l : Launch) (g : cdG) (v1 : Int32) (v2 : Int32) (v3 : Int32) (v4 : Int32) (σ : cdS) (Q : Int32 → Prop) (hwp : wp_X6_turnedAt v1 v2 v3 v4 σ Q) : cdCi l g yX6_turnedAt cX6_turnedAt 5 (some .int) 2 45 [.ref (cdA g 19), .int v1, .int v2, .int v3, .int v4] σ (fun r σ' => σ' = σ ∧ Q r) := by
  intro sz
  refine Met.ofW (cc := cX6_turnedAt) (maxL := 5) (ret := (some .int)) (by decide) rfl ?_
  intro p e s m args below meth c s₁ B hml hv
  obtain ⟨rfl, hsz, hP, hK, hdi, hV⟩ := hv
  subst hsz
  have hx := B.exec
  have hb := B.bytes
  have hr := B.returns
  have hlocks := B.notSynchronized
  have hown : s.vm.findClass RX6 = some m.cls := findClass_of_methodNamed B.named
  have hts : ∀ w ∈ cdL, w.before _ s = true := fun w hw => atoms_spec (ws := cdWs yX6_turnedAt cX6_turnedAt 5 (some .int)) B.pre w (List.mem_cons_of_mem _ hw)
  have X : cdX p s m _ c cX6_turnedAt 5 RX6 g := ⟨hx, hb, hml, hown, hts, hK, hdi, hV⟩
  have hS : va_S (cdZ g s.heap.size) s.heap s.heap [] := va_S.rf
  have hl := lv_entry ([.ref (cdA g 19), .int v1, .int v2, .int v3, .int v4]) (n := 5) (Nat.le_of_ble_eq_true rfl)
  rw [lg_entry_eq]
  generalize (lg_sl ([.ref (cdA g 19), .int v1, .int v2, .int v3, .int v4]) ++ List.replicate (5 - (lg_sl ([.ref (cdA g 19), .int v1, .int v2, .int v3, .int v4])).length) Slot.unset).toArray = ls at hl ⊢
  have hl : lv_has ls 5 [(0, .ref (cdA g 19)), (1, .int v1), (2, .int v2), (3, .int v3), (4, .int v4)] := hl
  obtain ⟨Qm, hQm⟩ : ∃ z, z = MQ below (va_Qi (fun r σ' => σ' = σ ∧ Q r) (fun σ' t => va_P (cdD g) vwCl (cdW g σ') t.heap) (cdZ g s.heap.size)) ([.ref (cdA g 19), .int v1, .int v2, .int v3, .int v4] : List Value).toArray s 0 0 (cdZ g s.heap.size) := ⟨_, rfl⟩
  rw [← hQm]
  have hB := hwp
  refine lv_iload_n hx hb dX6_turnedAt_0 rfl (lv_at hl 2 rfl) ?_
  refine lv_if_ne (tgt := 15) hx hb dX6_turnedAt_1 (by decide) (fun c_1 => ?_) (fun c_1 => ?_)
  · have hB := hB.1 c_1
    refine lv_iload_n hx hb dX6_turnedAt_15 rfl (lv_at hl 2 rfl) ?_
    refine lv_iconst (v := 1) hx hb dX6_turnedAt_16 (by decide) ?_
    refine lv_icmp_ne (tgt := 32) hx hb dX6_turnedAt_17 (by decide) (fun c_2 => ?_) (fun c_2 => ?_)
    · have hB := hB.1 c_2
      refine lv_iload_n hx hb dX6_turnedAt_32 rfl (lv_at hl 2 rfl) ?_
      refine lv_iconst (v := 2) hx hb dX6_turnedAt_33 (by decide) ?_
      refine lv_icmp_ne (tgt := 50) hx hb dX6_turnedAt_34 (by decide) (fun c_3 => ?_) (fun c_3 => ?_)
      · have hB := hB.1 c_3
        refine lv_aload_n hx hb dX6_turnedAt_50 rfl (lv_at hl 0 rfl) ?_
        refine lv_iload_n hx hb dX6_turnedAt_51 rfl (lv_at hl 1 rfl) ?_
        refine lv_iload hx hb dX6_turnedAt_52 (lv_at hl 4 rfl) ?_
        refine lv_ineg hx hb dX6_turnedAt_54 ?_
        refine lv_iload_n hx hb dX6_turnedAt_55 rfl (lv_at hl 3 rfl) ?_
        refine cd_ci (cd_runV (As := [.int v1, .int (-v4), .int v3]) (rest := []) (σ := σ) (k := 19) (ci := 6) X wm_X6_76 (by decide) rfl rfl rfl (c_X6_depthAt l g v1 (-v4) v3 σ _ hB _) hP hS rfl rfl hl.1 (Nat.le_of_ble_eq_true rfl) ⟨Nat.le_of_ble_eq_true rfl, Nat.le_of_ble_eq_true rfl⟩ ⟨Nat.zero_le _, Nat.zero_le _⟩ dX6_turnedAt_56) hS (fun r_4 σ_5 H locs hB hP hS => ?_)
        obtain ⟨eσ_5, hB⟩ := hB
        rw [eσ_5] at hP
        rw [hQm]
        exact W.iret hx hb hr (fun t ht hW => ⟨⟨r_4, σ, rfl, ⟨rfl, hB⟩, cd_hp ht hP⟩, hS.F ht⟩) hS.2.2 dX6_turnedAt_59
      · have hB := hB.2 c_3
        refine lv_aload_n hx hb dX6_turnedAt_37 rfl (lv_at hl 0 rfl) ?_
        refine lv_iload_n hx hb dX6_turnedAt_38 rfl (lv_at hl 1 rfl) ?_
        refine lv_iload_n hx hb dX6_turnedAt_39 rfl (lv_at hl 3 rfl) ?_
        refine lv_ineg hx hb dX6_turnedAt_40 ?_
        refine lv_iload hx hb dX6_turnedAt_41 (lv_at hl 4 rfl) ?_
        refine lv_ineg hx hb dX6_turnedAt_43 ?_
        refine cd_ci (cd_runV (As := [.int v1, .int (-v3), .int (-v4)]) (rest := []) (σ := σ) (k := 19) (ci := 6) X wm_X6_76 (by decide) rfl rfl rfl (c_X6_depthAt l g v1 (-v3) (-v4) σ _ hB _) hP hS rfl rfl hl.1 (Nat.le_of_ble_eq_true rfl) ⟨Nat.le_of_ble_eq_true rfl, Nat.le_of_ble_eq_true rfl⟩ ⟨Nat.zero_le _, Nat.zero_le _⟩ dX6_turnedAt_44) hS (fun r_6 σ_7 H locs hB hP hS => ?_)
        obtain ⟨eσ_7, hB⟩ := hB
        rw [eσ_7] at hP
        refine lv_goto (tgt := 59) hx hb dX6_turnedAt_47 (by decide) ?_
        rw [hQm]
        exact W.iret hx hb hr (fun t ht hW => ⟨⟨r_6, σ, rfl, ⟨rfl, hB⟩, cd_hp ht hP⟩, hS.F ht⟩) hS.2.2 dX6_turnedAt_59
    · have hB := hB.2 c_2
      refine lv_aload_n hx hb dX6_turnedAt_20 rfl (lv_at hl 0 rfl) ?_
      refine lv_iload_n hx hb dX6_turnedAt_21 rfl (lv_at hl 1 rfl) ?_
      refine lv_iload hx hb dX6_turnedAt_22 (lv_at hl 4 rfl) ?_
      refine lv_iload_n hx hb dX6_turnedAt_24 rfl (lv_at hl 3 rfl) ?_
      refine lv_ineg hx hb dX6_turnedAt_25 ?_
      refine cd_ci (cd_runV (As := [.int v1, .int v4, .int (-v3)]) (rest := []) (σ := σ) (k := 19) (ci := 6) X wm_X6_76 (by decide) rfl rfl rfl (c_X6_depthAt l g v1 v4 (-v3) σ _ hB _) hP hS rfl rfl hl.1 (Nat.le_of_ble_eq_true rfl) ⟨Nat.le_of_ble_eq_true rfl, Nat.le_of_ble_eq_true rfl⟩ ⟨Nat.zero_le _, Nat.zero_le _⟩ dX6_turnedAt_26) hS (fun r_8 σ_9 H locs hB hP hS => ?_)
      obtain ⟨eσ_9, hB⟩ := hB
      rw [eσ_9] at hP
      refine lv_goto (tgt := 59) hx hb dX6_turnedAt_29 (by decide) ?_
      rw [hQm]
      exact W.iret hx hb hr (fun t ht hW => ⟨⟨r_8, σ, rfl, ⟨rfl, hB⟩, cd_hp ht hP⟩, hS.F ht⟩) hS.2.2 dX6_turnedAt_59
  · have hB := hB.2 c_1
    refine lv_aload_n hx hb dX6_turnedAt_4 rfl (lv_at hl 0 rfl) ?_
    refine lv_iload_n hx hb dX6_turnedAt_5 rfl (lv_at hl 1 rfl) ?_
    refine lv_iload_n hx hb dX6_turnedAt_6 rfl (lv_at hl 3 rfl) ?_
    refine lv_iload hx hb dX6_turnedAt_7 (lv_at hl 4 rfl) ?_
    refine cd_ci (cd_runV (As := [.int v1, .int v3, .int v4]) (rest := []) (σ := σ) (k := 19) (ci := 6) X wm_X6_76 (by decide) rfl rfl rfl (c_X6_depthAt l g v1 v3 v4 σ _ hB _) hP hS rfl rfl hl.1 (Nat.le_of_ble_eq_true rfl) ⟨Nat.le_of_ble_eq_true rfl, Nat.le_of_ble_eq_true rfl⟩ ⟨Nat.zero_le _, Nat.zero_le _⟩ dX6_turnedAt_9) hS (fun r_10 σ_11 H locs hB hP hS => ?_)
    obtain ⟨eσ_11, hB⟩ := hB
    rw [eσ_11] at hP
    refine lv_goto (tgt := 59) hx hb dX6_turnedAt_12 (by decide) ?_
    rw [hQm]
    exact W.iret hx hb hr (fun t ht hW => ⟨⟨r_10, σ, rfl, ⟨rfl, hB⟩, cd_hp ht hP⟩, hS.F ht⟩) hS.2.2 dX6_turnedAt_59
def wp_X6_isSameTurned (v1 : Int32) (v2 : Int32) (σ : cdS) (Q : Int32 → Prop) : Prop :=
  ∀ (P5 : Int32 → Int32 → Prop) (P55 : Int32 → Prop) (P56 : Int32 → Int32 → Prop),
    (∀ (x3 : Int32) (x4 : Int32), (
    (((49 : Int32) ≤ x4 →
    cdb x3 ∧ Q x3) ∧
    (¬ ((49 : Int32) ≤ x4) →
    ((x3 = 0 →
    P55 x4) ∧
    (¬ (x3 = 0) →
    vp_in (((49 : Int32) * v1) + x4) 245 ∧
    wp_X6_turnedAt v1 v2 ((cdm x4 (7 : Int32)) - (3 : Int32)) ((x4 / (7 : Int32)) - (3 : Int32)) σ (fun r_5 => 
    ((¬ (σ.1 22 ((((49 : Int32) * v1) + x4)).toNatClampNeg) = r_5 →
    P55 x4) ∧
    ((σ.1 22 ((((49 : Int32) * v1) + x4)).toNatClampNeg) = r_5 →
    P56 x4 (1 : Int32))))))))) → P5 x3 x4) →
    (∀ (x4 : Int32), (
    P56 x4 (0 : Int32)) → P55 x4) →
    (∀ (x4 : Int32) (t0 : Int32), (
    ∀ x4_8 : Int32, x4_8 = x4 + 1 →
    P5 t0 x4_8) → P56 x4 t0) →
    
    P5 (1 : Int32) (0 : Int32)
set_option maxHeartbeats 4000000 in
set_option maxRecDepth 100000 in
theorem c_X6_isSameTurned (l : Launch) (g : cdG) (v1 : Int32) (v2 : Int32) (σ : cdS) (Q : Int32 → Prop) (hwp : wp_X6_isSameTurned v1 v2 σ Q) : cdCi l g yX6_isSameTurned cX6_isSameTurned 5 (some .boolean) 3 69 [.ref (cdA g 19), .int v1, .int v2] σ (fun r σ' => σ' = σ ∧ Q r) := by
  intro sz
  refine Met.ofW (cc := cX6_isSameTurned) (maxL := 5) (ret := (some .boolean)) (by decide) rfl ?_
  intro p e s m args below meth c s₁ B hml hv
  obtain ⟨rfl, hsz, hP, hK, hdi, hV⟩ := hv
  subst hsz
  have hx := B.exec
  have hb := B.bytes
  have hr := B.returns
  have hlocks := B.notSynchronized
  have hown : s.vm.findClass RX6 = some m.cls := findClass_of_methodNamed B.named
  have hts : ∀ w ∈ cdL, w.before _ s = true := fun w hw => atoms_spec (ws := cdWs yX6_isSameTurned cX6_isSameTurned 5 (some .boolean)) B.pre w (List.mem_cons_of_mem _ hw)
  have X : cdX p s m _ c cX6_isSameTurned 5 RX6 g := ⟨hx, hb, hml, hown, hts, hK, hdi, hV⟩
  have hS : va_S (cdZ g s.heap.size) s.heap s.heap [] := va_S.rf
  have hl := lv_entry ([.ref (cdA g 19), .int v1, .int v2]) (n := 5) (Nat.le_of_ble_eq_true rfl)
  rw [lg_entry_eq]
  generalize (lg_sl ([.ref (cdA g 19), .int v1, .int v2]) ++ List.replicate (5 - (lg_sl ([.ref (cdA g 19), .int v1, .int v2])).length) Slot.unset).toArray = ls at hl ⊢
  have hl : lv_has ls 5 [(0, .ref (cdA g 19)), (1, .int v1), (2, .int v2)] := hl
  obtain ⟨Qm, hQm⟩ : ∃ z, z = MQ below (va_Qi (fun r σ' => σ' = σ ∧ Q r) (fun σ' t => va_P (cdD g) vwCl (cdW g σ') t.heap) (cdZ g s.heap.size)) ([.ref (cdA g 19), .int v1, .int v2] : List Value).toArray s 0 0 (cdZ g s.heap.size) := ⟨_, rfl⟩
  rw [← hQm]
  have hB := hwp (fun (x3 : Int32) (x4 : Int32) => cdCut p l e (headSpec (cdWs yX6_isSameTurned cX6_isSameTurned 5 (some .boolean)) (cdRm 3 69)).room s m ([.ref (cdA g 19), .int v1, .int v2] : List Value).toArray below meth c Qm g 5 5 [(0, .ref (cdA g 19)), (1, .int v1), (2, .int v2), (3, .int x3), (4, .int x4)] [] σ)
    (fun (x4 : Int32) => cdCut p l e (headSpec (cdWs yX6_isSameTurned cX6_isSameTurned 5 (some .boolean)) (cdRm 3 69)).room s m ([.ref (cdA g 19), .int v1, .int v2] : List Value).toArray below meth c Qm g 5 55 [(0, .ref (cdA g 19)), (1, .int v1), (2, .int v2), (4, .int x4)] [] σ)
    (fun (x4 : Int32) (t0 : Int32) => cdCut p l e (headSpec (cdWs yX6_isSameTurned cX6_isSameTurned 5 (some .boolean)) (cdRm 3 69)).room s m ([.ref (cdA g 19), .int v1, .int v2] : List Value).toArray below meth c Qm g 5 56 [(0, .ref (cdA g 19)), (1, .int v1), (2, .int v2), (4, .int x4)] [.int t0] σ)
    (by
    intro x3 x4 hB H locs ls hP hS hl
    refine lv_iload hx hb dX6_isSameTurned_5 (lv_at hl 4 rfl) ?_
    refine lv_bipush (v := 49) hx hb dX6_isSameTurned_7 (by decide) ?_
    refine lv_icmp_ge (tgt := 63) hx hb dX6_isSameTurned_9 (by decide) (fun c_1 => ?_) (fun c_1 => ?_)
    · have hB := hB.1 c_1
      refine lv_iload_n hx hb dX6_isSameTurned_63 rfl (lv_at hl 3 rfl) ?_
      obtain ⟨z_2, hB⟩ := hB
      rw [hQm]
      exact W.zret hx hb hr (cdb_n z_2) (fun t ht hW => ⟨⟨x3, σ, rfl, ⟨rfl, hB⟩, cd_hp ht hP⟩, hS.F ht⟩) hS.2.2 dX6_isSameTurned_64
    · have hB := hB.2 c_1
      refine lv_iload_n hx hb dX6_isSameTurned_12 rfl (lv_at hl 3 rfl) ?_
      refine lv_if_eq (tgt := 55) hx hb dX6_isSameTurned_13 (by decide) (fun c_3 => ?_) (fun c_3 => ?_)
      · have hB := hB.1 c_3
        exact hB _ _ _ hP hS (lv_sub hl [0, 1, 2, 4] rfl)
      · have hB := hB.2 c_3
        refine lv_aload_n hx hb dX6_isSameTurned_16 rfl (lv_at hl 0 rfl) ?_
        refine cd_get X hP (C := RX6) (T := TX6) (N := 20) (ci := 6) (k := 19) (j := 4) (v := .ref (cdA g 22)) inX6 (by decide) rfl rfl (by decide) wf_X6_16 rfl rfl dX6_isSameTurned_17 ?_
        refine lv_bipush (v := 49) hx hb dX6_isSameTurned_20 (by decide) ?_
        refine lv_iload_n hx hb dX6_isSameTurned_22 rfl (lv_at hl 1 rfl) ?_
        refine lv_imul hx hb dX6_isSameTurned_23 ?_
        refine lv_iload hx hb dX6_isSameTurned_24 (lv_at hl 4 rfl) ?_
        refine lv_iadd hx hb dX6_isSameTurned_26 ?_
        obtain ⟨i_4, hB⟩ := hB
        refine cd_ald X hP (k := 22) (N := 245) (by decide) rfl i_4 dX6_isSameTurned_27 ?_
        refine lv_aload_n hx hb dX6_isSameTurned_28 rfl (lv_at hl 0 rfl) ?_
        refine lv_iload_n hx hb dX6_isSameTurned_29 rfl (lv_at hl 1 rfl) ?_
        refine lv_iload_n hx hb dX6_isSameTurned_30 rfl (lv_at hl 2 rfl) ?_
        refine lv_iload hx hb dX6_isSameTurned_31 (lv_at hl 4 rfl) ?_
        refine lv_bipush (v := 7) hx hb dX6_isSameTurned_33 (by decide) ?_
        refine lv_irem hx hb dX6_isSameTurned_35 (by decide) ?_
        refine lv_iconst (v := 3) hx hb dX6_isSameTurned_36 (by decide) ?_
        refine lv_isub hx hb dX6_isSameTurned_37 ?_
        refine lv_iload hx hb dX6_isSameTurned_38 (lv_at hl 4 rfl) ?_
        refine lv_bipush (v := 7) hx hb dX6_isSameTurned_40 (by decide) ?_
        refine lv_idiv hx hb dX6_isSameTurned_42 (by decide) ?_
        refine lv_iconst (v := 3) hx hb dX6_isSameTurned_43 (by decide) ?_
        refine lv_isub hx hb dX6_isSameTurned_44 ?_
        refine cd_ci (cd_runV (As := [.int v1, .int v2, .int ((cdm x4 (7 : Int32)) - (3 : Int32)), .int ((x4 / (7 : Int32)) - (3 : Int32))]) (rest := [.int (σ.1 22 ((((49 : Int32) * v1) + x4)).toNatClampNeg)]) (σ := σ) (k := 19) (ci := 6) X wm_X6_79 (by decide) rfl rfl rfl (c_X6_turnedAt l g v1 v2 ((cdm x4 (7 : Int32)) - (3 : Int32)) ((x4 / (7 : Int32)) - (3 : Int32)) σ _ hB _) hP hS rfl rfl hl.1 (Nat.le_of_ble_eq_true rfl) ⟨Nat.le_of_ble_eq_true rfl, Nat.le_of_ble_eq_true rfl⟩ ⟨Nat.zero_le _, Nat.zero_le _⟩ dX6_isSameTurned_45) hS (fun r_5 σ_6 H locs hB hP hS => ?_)
        obtain ⟨eσ_6, hB⟩ := hB
        rw [eσ_6] at hP
        refine lv_icmp_ne (tgt := 55) hx hb dX6_isSameTurned_48 (by decide) (fun c_7 => ?_) (fun c_7 => ?_)
        · have hB := hB.1 c_7
          exact hB _ _ _ hP hS (lv_sub hl [0, 1, 2, 4] rfl)
        · have hB := hB.2 c_7
          refine lv_iconst (v := 1) hx hb dX6_isSameTurned_51 (by decide) ?_
          refine lv_goto (tgt := 56) hx hb dX6_isSameTurned_52 (by decide) ?_
          exact hB _ _ _ hP hS (lv_sub hl [0, 1, 2, 4] rfl))
    (by
    intro x4 hB H locs ls hP hS hl
    refine lv_iconst (v := 0) hx hb dX6_isSameTurned_55 (by decide) ?_
    exact hB _ _ _ hP hS (lv_sub hl [0, 1, 2, 3] rfl))
    (by
    intro x4 t0 hB H locs ls hP hS hl
    refine lv_istore_n (lv' := [(3, .int t0), (0, .ref (cdA g 19)), (1, .int v1), (2, .int v2), (4, .int x4)]) hx hb dX6_isSameTurned_56 rfl hl (by decide) rfl (fun ls hl => ?_)
    obtain ⟨x4_8, ex4_8⟩ : ∃ z : Int32, z = x4 + 1 := ⟨_, rfl⟩
    have hB := hB x4_8 ex4_8
    refine lv_iinc (v := x4_8) (lv' := [(4, .int x4_8), (3, .int t0), (0, .ref (cdA g 19)), (1, .int v1), (2, .int v2)]) hx hb dX6_isSameTurned_57 hl (k := 4) rfl (by rw [ex4_8]; rfl) (by decide) rfl (fun ls hl => ?_)
    refine lv_goto (tgt := 5) hx hb dX6_isSameTurned_60 (by decide) ?_
    exact hB _ _ _ hP hS (lv_sub hl [2, 3, 4, 1, 0] rfl))
  refine lv_iconst (v := 1) hx hb dX6_isSameTurned_0 (by decide) ?_
  refine lv_istore_n (lv' := [(3, .int (1 : Int32)), (0, .ref (cdA g 19)), (1, .int v1), (2, .int v2)]) hx hb dX6_isSameTurned_1 rfl hl (by decide) rfl (fun ls hl => ?_)
  refine lv_iconst (v := 0) hx hb dX6_isSameTurned_2 (by decide) ?_
  refine lv_istore (lv' := [(4, .int (0 : Int32)), (3, .int (1 : Int32)), (0, .ref (cdA g 19)), (1, .int v1), (2, .int v2)]) hx hb dX6_isSameTurned_3 hl (by decide) rfl (fun ls hl => ?_)
  exact hB _ _ _ hP hS (lv_sub hl [2, 3, 4, 1, 0] rfl)
def wp_X6_sameTurn (v1 : Int32) (σ : cdS) (Q : Int32 → Prop) : Prop :=
  ∀ (P2 : Int32 → Prop),
    (∀ (x2 : Int32), (
    (((4 : Int32) ≤ x2 →
    Q x2) ∧
    (¬ ((4 : Int32) ≤ x2) →
    wp_X6_isSameTurned v1 x2 σ (fun r_2 => 
    ((¬ r_2 = 0 →
    Q x2) ∧
    (r_2 = 0 →
    ∀ x2_5 : Int32, x2_5 = x2 + 1 →
    P2 x2_5)))))) → P2 x2) →
    
    P2 (1 : Int32)
set_option maxHeartbeats 4000000 in
set_option maxRecDepth 100000 in
theorem c_X6_sameTurn (l : Launch) (g : cdG) (v1 : Int32) (σ : cdS) (Q : Int32 → Prop) (hwp : wp_X6_sameTurn v1 σ Q) : cdCi l g yX6_sameTurn cX6_sameTurn 3 (some .int) 4 93 [.ref (cdA g 19), .int v1] σ (fun r σ' => σ' = σ ∧ Q r) := by
  intro sz
  refine Met.ofW (cc := cX6_sameTurn) (maxL := 3) (ret := (some .int)) (by decide) rfl ?_
  intro p e s m args below meth c s₁ B hml hv
  obtain ⟨rfl, hsz, hP, hK, hdi, hV⟩ := hv
  subst hsz
  have hx := B.exec
  have hb := B.bytes
  have hr := B.returns
  have hlocks := B.notSynchronized
  have hown : s.vm.findClass RX6 = some m.cls := findClass_of_methodNamed B.named
  have hts : ∀ w ∈ cdL, w.before _ s = true := fun w hw => atoms_spec (ws := cdWs yX6_sameTurn cX6_sameTurn 3 (some .int)) B.pre w (List.mem_cons_of_mem _ hw)
  have X : cdX p s m _ c cX6_sameTurn 3 RX6 g := ⟨hx, hb, hml, hown, hts, hK, hdi, hV⟩
  have hS : va_S (cdZ g s.heap.size) s.heap s.heap [] := va_S.rf
  have hl := lv_entry ([.ref (cdA g 19), .int v1]) (n := 3) (Nat.le_of_ble_eq_true rfl)
  rw [lg_entry_eq]
  generalize (lg_sl ([.ref (cdA g 19), .int v1]) ++ List.replicate (3 - (lg_sl ([.ref (cdA g 19), .int v1])).length) Slot.unset).toArray = ls at hl ⊢
  have hl : lv_has ls 3 [(0, .ref (cdA g 19)), (1, .int v1)] := hl
  obtain ⟨Qm, hQm⟩ : ∃ z, z = MQ below (va_Qi (fun r σ' => σ' = σ ∧ Q r) (fun σ' t => va_P (cdD g) vwCl (cdW g σ') t.heap) (cdZ g s.heap.size)) ([.ref (cdA g 19), .int v1] : List Value).toArray s 0 0 (cdZ g s.heap.size) := ⟨_, rfl⟩
  rw [← hQm]
  have hB := hwp (fun (x2 : Int32) => cdCut p l e (headSpec (cdWs yX6_sameTurn cX6_sameTurn 3 (some .int)) (cdRm 4 93)).room s m ([.ref (cdA g 19), .int v1] : List Value).toArray below meth c Qm g 3 2 [(0, .ref (cdA g 19)), (1, .int v1), (2, .int x2)] [] σ)
    (by
    intro x2 hB H locs ls hP hS hl
    refine lv_iload_n hx hb dX6_sameTurn_2 rfl (lv_at hl 2 rfl) ?_
    refine lv_iconst (v := 4) hx hb dX6_sameTurn_3 (by decide) ?_
    refine lv_icmp_ge (tgt := 22) hx hb dX6_sameTurn_4 (by decide) (fun c_1 => ?_) (fun c_1 => ?_)
    · have hB := hB.1 c_1
      refine lv_iload_n hx hb dX6_sameTurn_22 rfl (lv_at hl 2 rfl) ?_
      rw [hQm]
      exact W.iret hx hb hr (fun t ht hW => ⟨⟨x2, σ, rfl, ⟨rfl, hB⟩, cd_hp ht hP⟩, hS.F ht⟩) hS.2.2 dX6_sameTurn_23
    · have hB := hB.2 c_1
      refine lv_aload_n hx hb dX6_sameTurn_7 rfl (lv_at hl 0 rfl) ?_
      refine lv_iload_n hx hb dX6_sameTurn_8 rfl (lv_at hl 1 rfl) ?_
      refine lv_iload_n hx hb dX6_sameTurn_9 rfl (lv_at hl 2 rfl) ?_
      refine cd_ci (cd_runV (As := [.int v1, .int x2]) (rest := []) (σ := σ) (k := 19) (ci := 6) X wm_X6_89 (by decide) rfl rfl rfl (c_X6_isSameTurned l g v1 x2 σ _ hB _) hP hS rfl rfl hl.1 (Nat.le_of_ble_eq_true rfl) ⟨Nat.le_of_ble_eq_true rfl, Nat.le_of_ble_eq_true rfl⟩ ⟨Nat.zero_le _, Nat.zero_le _⟩ dX6_sameTurn_10) hS (fun r_2 σ_3 H locs hB hP hS => ?_)
      obtain ⟨eσ_3, hB⟩ := hB
      rw [eσ_3] at hP
      refine lv_if_ne (tgt := 22) hx hb dX6_sameTurn_13 (by decide) (fun c_4 => ?_) (fun c_4 => ?_)
      · have hB := hB.1 c_4
        refine lv_iload_n hx hb dX6_sameTurn_22 rfl (lv_at hl 2 rfl) ?_
        rw [hQm]
        exact W.iret hx hb hr (fun t ht hW => ⟨⟨x2, σ, rfl, ⟨rfl, hB⟩, cd_hp ht hP⟩, hS.F ht⟩) hS.2.2 dX6_sameTurn_23
      · have hB := hB.2 c_4
        obtain ⟨x2_5, ex2_5⟩ : ∃ z : Int32, z = x2 + 1 := ⟨_, rfl⟩
        have hB := hB x2_5 ex2_5
        refine lv_iinc (v := x2_5) (lv' := [(2, .int x2_5), (0, .ref (cdA g 19)), (1, .int v1)]) hx hb dX6_sameTurn_16 hl (k := 2) rfl (by rw [ex2_5]; rfl) (by decide) rfl (fun ls hl => ?_)
        refine lv_goto (tgt := 2) hx hb dX6_sameTurn_19 (by decide) ?_
        exact hB _ _ _ hP hS (lv_sub hl [1, 2, 0] rfl))
  refine lv_iconst (v := 1) hx hb dX6_sameTurn_0 (by decide) ?_
  refine lv_istore_n (lv' := [(2, .int (1 : Int32)), (0, .ref (cdA g 19)), (1, .int v1)]) hx hb dX6_sameTurn_1 rfl hl (by decide) rfl (fun ls hl => ?_)
  exact hB _ _ _ hP hS (lv_sub hl [1, 2, 0] rfl)
def wp_X6_isSameMirrored (v1 : Int32) (σ : cdS) (Q : Int32 → Prop) : Prop :=
  ∀ (P4 : Int32 → Int32 → Prop) (P49 : Int32 → Prop) (P50 : Int32 → Int32 → Prop),
    (∀ (x2 : Int32) (x3 : Int32), (
    (((49 : Int32) ≤ x3 →
    cdb x2 ∧ Q x2) ∧
    (¬ ((49 : Int32) ≤ x3) →
    ((x2 = 0 →
    P49 x3) ∧
    (¬ (x2 = 0) →
    vp_in (((49 : Int32) * v1) + x3) 245 ∧
    wp_X6_depthAt v1 ((3 : Int32) - (cdm x3 (7 : Int32))) ((x3 / (7 : Int32)) - (3 : Int32)) σ (fun r_5 => 
    ((¬ (σ.1 22 ((((49 : Int32) * v1) + x3)).toNatClampNeg) = r_5 →
    P49 x3) ∧
    ((σ.1 22 ((((49 : Int32) * v1) + x3)).toNatClampNeg) = r_5 →
    P50 x3 (1 : Int32))))))))) → P4 x2 x3) →
    (∀ (x3 : Int32), (
    P50 x3 (0 : Int32)) → P49 x3) →
    (∀ (x3 : Int32) (t0 : Int32), (
    ∀ x3_8 : Int32, x3_8 = x3 + 1 →
    P4 t0 x3_8) → P50 x3 t0) →
    
    P4 (1 : Int32) (0 : Int32)
set_option maxHeartbeats 4000000 in
set_option maxRecDepth 100000 in
theorem c_X6_isSameMirrored (l : Launch) (g : cdG) (v1 : Int32) (σ : cdS) (Q : Int32 → Prop) (hwp : wp_X6_isSameMirrored v1 σ Q) : cdCi l g yX6_isSameMirrored cX6_isSameMirrored 4 (some .boolean) 2 45 [.ref (cdA g 19), .int v1] σ (fun r σ' => σ' = σ ∧ Q r) := by
  intro sz
  refine Met.ofW (cc := cX6_isSameMirrored) (maxL := 4) (ret := (some .boolean)) (by decide) rfl ?_
  intro p e s m args below meth c s₁ B hml hv
  obtain ⟨rfl, hsz, hP, hK, hdi, hV⟩ := hv
  subst hsz
  have hx := B.exec
  have hb := B.bytes
  have hr := B.returns
  have hlocks := B.notSynchronized
  have hown : s.vm.findClass RX6 = some m.cls := findClass_of_methodNamed B.named
  have hts : ∀ w ∈ cdL, w.before _ s = true := fun w hw => atoms_spec (ws := cdWs yX6_isSameMirrored cX6_isSameMirrored 4 (some .boolean)) B.pre w (List.mem_cons_of_mem _ hw)
  have X : cdX p s m _ c cX6_isSameMirrored 4 RX6 g := ⟨hx, hb, hml, hown, hts, hK, hdi, hV⟩
  have hS : va_S (cdZ g s.heap.size) s.heap s.heap [] := va_S.rf
  have hl := lv_entry ([.ref (cdA g 19), .int v1]) (n := 4) (Nat.le_of_ble_eq_true rfl)
  rw [lg_entry_eq]
  generalize (lg_sl ([.ref (cdA g 19), .int v1]) ++ List.replicate (4 - (lg_sl ([.ref (cdA g 19), .int v1])).length) Slot.unset).toArray = ls at hl ⊢
  have hl : lv_has ls 4 [(0, .ref (cdA g 19)), (1, .int v1)] := hl
  obtain ⟨Qm, hQm⟩ : ∃ z, z = MQ below (va_Qi (fun r σ' => σ' = σ ∧ Q r) (fun σ' t => va_P (cdD g) vwCl (cdW g σ') t.heap) (cdZ g s.heap.size)) ([.ref (cdA g 19), .int v1] : List Value).toArray s 0 0 (cdZ g s.heap.size) := ⟨_, rfl⟩
  rw [← hQm]
  have hB := hwp (fun (x2 : Int32) (x3 : Int32) => cdCut p l e (headSpec (cdWs yX6_isSameMirrored cX6_isSameMirrored 4 (some .boolean)) (cdRm 2 45)).room s m ([.ref (cdA g 19), .int v1] : List Value).toArray below meth c Qm g 4 4 [(0, .ref (cdA g 19)), (1, .int v1), (2, .int x2), (3, .int x3)] [] σ)
    (fun (x3 : Int32) => cdCut p l e (headSpec (cdWs yX6_isSameMirrored cX6_isSameMirrored 4 (some .boolean)) (cdRm 2 45)).room s m ([.ref (cdA g 19), .int v1] : List Value).toArray below meth c Qm g 4 49 [(0, .ref (cdA g 19)), (1, .int v1), (3, .int x3)] [] σ)
    (fun (x3 : Int32) (t0 : Int32) => cdCut p l e (headSpec (cdWs yX6_isSameMirrored cX6_isSameMirrored 4 (some .boolean)) (cdRm 2 45)).room s m ([.ref (cdA g 19), .int v1] : List Value).toArray below meth c Qm g 4 50 [(0, .ref (cdA g 19)), (1, .int v1), (3, .int x3)] [.int t0] σ)
    (by
    intro x2 x3 hB H locs ls hP hS hl
    refine lv_iload_n hx hb dX6_isSameMirrored_4 rfl (lv_at hl 3 rfl) ?_
    refine lv_bipush (v := 49) hx hb dX6_isSameMirrored_5 (by decide) ?_
    refine lv_icmp_ge (tgt := 57) hx hb dX6_isSameMirrored_7 (by decide) (fun c_1 => ?_) (fun c_1 => ?_)
    · have hB := hB.1 c_1
      refine lv_iload_n hx hb dX6_isSameMirrored_57 rfl (lv_at hl 2 rfl) ?_
      obtain ⟨z_2, hB⟩ := hB
      rw [hQm]
      exact W.zret hx hb hr (cdb_n z_2) (fun t ht hW => ⟨⟨x2, σ, rfl, ⟨rfl, hB⟩, cd_hp ht hP⟩, hS.F ht⟩) hS.2.2 dX6_isSameMirrored_58
    · have hB := hB.2 c_1
      refine lv_iload_n hx hb dX6_isSameMirrored_10 rfl (lv_at hl 2 rfl) ?_
      refine lv_if_eq (tgt := 49) hx hb dX6_isSameMirrored_11 (by decide) (fun c_3 => ?_) (fun c_3 => ?_)
      · have hB := hB.1 c_3
        exact hB _ _ _ hP hS (lv_sub hl [0, 1, 3] rfl)
      · have hB := hB.2 c_3
        refine lv_aload_n hx hb dX6_isSameMirrored_14 rfl (lv_at hl 0 rfl) ?_
        refine cd_get X hP (C := RX6) (T := TX6) (N := 20) (ci := 6) (k := 19) (j := 4) (v := .ref (cdA g 22)) inX6 (by decide) rfl rfl (by decide) wf_X6_16 rfl rfl dX6_isSameMirrored_15 ?_
        refine lv_bipush (v := 49) hx hb dX6_isSameMirrored_18 (by decide) ?_
        refine lv_iload_n hx hb dX6_isSameMirrored_20 rfl (lv_at hl 1 rfl) ?_
        refine lv_imul hx hb dX6_isSameMirrored_21 ?_
        refine lv_iload_n hx hb dX6_isSameMirrored_22 rfl (lv_at hl 3 rfl) ?_
        refine lv_iadd hx hb dX6_isSameMirrored_23 ?_
        obtain ⟨i_4, hB⟩ := hB
        refine cd_ald X hP (k := 22) (N := 245) (by decide) rfl i_4 dX6_isSameMirrored_24 ?_
        refine lv_aload_n hx hb dX6_isSameMirrored_25 rfl (lv_at hl 0 rfl) ?_
        refine lv_iload_n hx hb dX6_isSameMirrored_26 rfl (lv_at hl 1 rfl) ?_
        refine lv_iconst (v := 3) hx hb dX6_isSameMirrored_27 (by decide) ?_
        refine lv_iload_n hx hb dX6_isSameMirrored_28 rfl (lv_at hl 3 rfl) ?_
        refine lv_bipush (v := 7) hx hb dX6_isSameMirrored_29 (by decide) ?_
        refine lv_irem hx hb dX6_isSameMirrored_31 (by decide) ?_
        refine lv_isub hx hb dX6_isSameMirrored_32 ?_
        refine lv_iload_n hx hb dX6_isSameMirrored_33 rfl (lv_at hl 3 rfl) ?_
        refine lv_bipush (v := 7) hx hb dX6_isSameMirrored_34 (by decide) ?_
        refine lv_idiv hx hb dX6_isSameMirrored_36 (by decide) ?_
        refine lv_iconst (v := 3) hx hb dX6_isSameMirrored_37 (by decide) ?_
        refine lv_isub hx hb dX6_isSameMirrored_38 ?_
        refine cd_ci (cd_runV (As := [.int v1, .int ((3 : Int32) - (cdm x3 (7 : Int32))), .int ((x3 / (7 : Int32)) - (3 : Int32))]) (rest := [.int (σ.1 22 ((((49 : Int32) * v1) + x3)).toNatClampNeg)]) (σ := σ) (k := 19) (ci := 6) X wm_X6_76 (by decide) rfl rfl rfl (c_X6_depthAt l g v1 ((3 : Int32) - (cdm x3 (7 : Int32))) ((x3 / (7 : Int32)) - (3 : Int32)) σ _ hB _) hP hS rfl rfl hl.1 (Nat.le_of_ble_eq_true rfl) ⟨Nat.le_of_ble_eq_true rfl, Nat.le_of_ble_eq_true rfl⟩ ⟨Nat.zero_le _, Nat.zero_le _⟩ dX6_isSameMirrored_39) hS (fun r_5 σ_6 H locs hB hP hS => ?_)
        obtain ⟨eσ_6, hB⟩ := hB
        rw [eσ_6] at hP
        refine lv_icmp_ne (tgt := 49) hx hb dX6_isSameMirrored_42 (by decide) (fun c_7 => ?_) (fun c_7 => ?_)
        · have hB := hB.1 c_7
          exact hB _ _ _ hP hS (lv_sub hl [0, 1, 3] rfl)
        · have hB := hB.2 c_7
          refine lv_iconst (v := 1) hx hb dX6_isSameMirrored_45 (by decide) ?_
          refine lv_goto (tgt := 50) hx hb dX6_isSameMirrored_46 (by decide) ?_
          exact hB _ _ _ hP hS (lv_sub hl [0, 1, 3] rfl))
    (by
    intro x3 hB H locs ls hP hS hl
    refine lv_iconst (v := 0) hx hb dX6_isSameMirrored_49 (by decide) ?_
    exact hB _ _ _ hP hS (lv_sub hl [0, 1, 2] rfl))
    (by
    intro x3 t0 hB H locs ls hP hS hl
    refine lv_istore_n (lv' := [(2, .int t0), (0, .ref (cdA g 19)), (1, .int v1), (3, .int x3)]) hx hb dX6_isSameMirrored_50 rfl hl (by decide) rfl (fun ls hl => ?_)
    obtain ⟨x3_8, ex3_8⟩ : ∃ z : Int32, z = x3 + 1 := ⟨_, rfl⟩
    have hB := hB x3_8 ex3_8
    refine lv_iinc (v := x3_8) (lv' := [(3, .int x3_8), (2, .int t0), (0, .ref (cdA g 19)), (1, .int v1)]) hx hb dX6_isSameMirrored_51 hl (k := 3) rfl (by rw [ex3_8]; rfl) (by decide) rfl (fun ls hl => ?_)
    refine lv_goto (tgt := 4) hx hb dX6_isSameMirrored_54 (by decide) ?_
    exact hB _ _ _ hP hS (lv_sub hl [2, 3, 1, 0] rfl))
  refine lv_iconst (v := 1) hx hb dX6_isSameMirrored_0 (by decide) ?_
  refine lv_istore_n (lv' := [(2, .int (1 : Int32)), (0, .ref (cdA g 19)), (1, .int v1)]) hx hb dX6_isSameMirrored_1 rfl hl (by decide) rfl (fun ls hl => ?_)
  refine lv_iconst (v := 0) hx hb dX6_isSameMirrored_2 (by decide) ?_
  refine lv_istore_n (lv' := [(3, .int (0 : Int32)), (2, .int (1 : Int32)), (0, .ref (cdA g 19)), (1, .int v1)]) hx hb dX6_isSameMirrored_3 rfl hl (by decide) rfl (fun ls hl => ?_)
  exact hB _ _ _ hP hS (lv_sub hl [2, 3, 1, 0] rfl)
def wp_X6_headNow (v1 : Int32) (v2 : Int32) (σ : cdS) (Q : Int32 → Prop) : Prop :=
  
    ((v2 = (0 : Int32) →
    vp_in v1 5 ∧
    Q (σ.1 21 (v1).toNatClampNeg)) ∧
    (¬ (v2 = (0 : Int32)) →
    ((v2 = (1 : Int32) →
    wp_X6_thrownBy v1 σ (fun r_4 => 
    Q r_4)) ∧
    (¬ (v2 = (1 : Int32)) →
    ((v2 = (2 : Int32) →
    wp_X6_deepest v1 σ (fun r_7 => 
    Q r_7)) ∧
    (¬ (v2 = (2 : Int32)) →
    ((v2 = (3 : Int32) →
    wp_X6_sameTurn v1 σ (fun r_10 => 
    Q r_10)) ∧
    (¬ (v2 = (3 : Int32)) →
    wp_X6_isSameMirrored v1 σ (fun r_12 => 
    ((r_12 = 0 →
    Q (0 : Int32)) ∧
    (¬ (r_12 = 0) →
    Q (1 : Int32))))))))))))
set_option maxHeartbeats 4000000 in
set_option maxRecDepth 100000 in
theorem c_X6_headNow (l : Launch) (g : cdG) (v1 : Int32) (v2 : Int32) (σ : cdS) (Q : Int32 → Prop) (hwp : wp_X6_headNow v1 v2 σ Q) : cdCi l g yX6_headNow cX6_headNow 3 (some .int) 5 115 [.ref (cdA g 19), .int v1, .int v2] σ (fun r σ' => σ' = σ ∧ Q r) := by
  intro sz
  refine Met.ofW (cc := cX6_headNow) (maxL := 3) (ret := (some .int)) (by decide) rfl ?_
  intro p e s m args below meth c s₁ B hml hv
  obtain ⟨rfl, hsz, hP, hK, hdi, hV⟩ := hv
  subst hsz
  have hx := B.exec
  have hb := B.bytes
  have hr := B.returns
  have hlocks := B.notSynchronized
  have hown : s.vm.findClass RX6 = some m.cls := findClass_of_methodNamed B.named
  have hts : ∀ w ∈ cdL, w.before _ s = true := fun w hw => atoms_spec (ws := cdWs yX6_headNow cX6_headNow 3 (some .int)) B.pre w (List.mem_cons_of_mem _ hw)
  have X : cdX p s m _ c cX6_headNow 3 RX6 g := ⟨hx, hb, hml, hown, hts, hK, hdi, hV⟩
  have hS : va_S (cdZ g s.heap.size) s.heap s.heap [] := va_S.rf
  have hl := lv_entry ([.ref (cdA g 19), .int v1, .int v2]) (n := 3) (Nat.le_of_ble_eq_true rfl)
  rw [lg_entry_eq]
  generalize (lg_sl ([.ref (cdA g 19), .int v1, .int v2]) ++ List.replicate (3 - (lg_sl ([.ref (cdA g 19), .int v1, .int v2])).length) Slot.unset).toArray = ls at hl ⊢
  have hl : lv_has ls 3 [(0, .ref (cdA g 19)), (1, .int v1), (2, .int v2)] := hl
  obtain ⟨Qm, hQm⟩ : ∃ z, z = MQ below (va_Qi (fun r σ' => σ' = σ ∧ Q r) (fun σ' t => va_P (cdD g) vwCl (cdW g σ') t.heap) (cdZ g s.heap.size)) ([.ref (cdA g 19), .int v1, .int v2] : List Value).toArray s 0 0 (cdZ g s.heap.size) := ⟨_, rfl⟩
  rw [← hQm]
  have hB := hwp
  refine lv_iload_n hx hb dX6_headNow_0 rfl (lv_at hl 2 rfl) ?_
  by_cases c_1 : v2 = (0 : Int32)
  · have hB := hB.1 c_1
    refine lv_tableIn (tgt := 32) hx hb dX6_headNow_1 (by rw [c_1]; decide) (by rw [c_1]; decide) (by rw [c_1]; rfl) (by decide) ?_
    refine lv_aload_n hx hb dX6_headNow_32 rfl (lv_at hl 0 rfl) ?_
    refine cd_get X hP (C := RX6) (T := TX6) (N := 20) (ci := 6) (k := 19) (j := 3) (v := .ref (cdA g 21)) inX6 (by decide) rfl rfl (by decide) wf_X6_13 rfl rfl dX6_headNow_33 ?_
    refine lv_iload_n hx hb dX6_headNow_36 rfl (lv_at hl 1 rfl) ?_
    obtain ⟨i_2, hB⟩ := hB
    refine cd_ald X hP (k := 21) (N := 5) (by decide) rfl i_2 dX6_headNow_37 ?_
    rw [hQm]
    exact W.iret hx hb hr (fun t ht hW => ⟨⟨(σ.1 21 (v1).toNatClampNeg), σ, rfl, ⟨rfl, hB⟩, cd_hp ht hP⟩, hS.F ht⟩) hS.2.2 dX6_headNow_38
  · have hB := hB.2 c_1
    by_cases c_3 : v2 = (1 : Int32)
    · have hB := hB.1 c_3
      refine lv_tableIn (tgt := 39) hx hb dX6_headNow_1 (by rw [c_3]; decide) (by rw [c_3]; decide) (by rw [c_3]; rfl) (by decide) ?_
      refine lv_aload_n hx hb dX6_headNow_39 rfl (lv_at hl 0 rfl) ?_
      refine lv_iload_n hx hb dX6_headNow_40 rfl (lv_at hl 1 rfl) ?_
      refine cd_ci (cd_runV (As := [.int v1]) (rest := []) (σ := σ) (k := 19) (ci := 6) X wm_X6_86 (by decide) rfl rfl rfl (c_X6_thrownBy l g v1 σ _ hB _) hP hS rfl rfl hl.1 (Nat.le_of_ble_eq_true rfl) ⟨Nat.le_of_ble_eq_true rfl, Nat.le_of_ble_eq_true rfl⟩ ⟨Nat.zero_le _, Nat.zero_le _⟩ dX6_headNow_41) hS (fun r_4 σ_5 H locs hB hP hS => ?_)
      obtain ⟨eσ_5, hB⟩ := hB
      rw [eσ_5] at hP
      rw [hQm]
      exact W.iret hx hb hr (fun t ht hW => ⟨⟨r_4, σ, rfl, ⟨rfl, hB⟩, cd_hp ht hP⟩, hS.F ht⟩) hS.2.2 dX6_headNow_44
    · have hB := hB.2 c_3
      by_cases c_6 : v2 = (2 : Int32)
      · have hB := hB.1 c_6
        refine lv_tableIn (tgt := 45) hx hb dX6_headNow_1 (by rw [c_6]; decide) (by rw [c_6]; decide) (by rw [c_6]; rfl) (by decide) ?_
        refine lv_aload_n hx hb dX6_headNow_45 rfl (lv_at hl 0 rfl) ?_
        refine lv_iload_n hx hb dX6_headNow_46 rfl (lv_at hl 1 rfl) ?_
        refine cd_ci (cd_runV (As := [.int v1]) (rest := []) (σ := σ) (k := 19) (ci := 6) X wm_X6_93 (by decide) rfl rfl rfl (c_X6_deepest l g v1 σ _ hB _) hP hS rfl rfl hl.1 (Nat.le_of_ble_eq_true rfl) ⟨Nat.le_of_ble_eq_true rfl, Nat.le_of_ble_eq_true rfl⟩ ⟨Nat.zero_le _, Nat.zero_le _⟩ dX6_headNow_47) hS (fun r_7 σ_8 H locs hB hP hS => ?_)
        obtain ⟨eσ_8, hB⟩ := hB
        rw [eσ_8] at hP
        rw [hQm]
        exact W.iret hx hb hr (fun t ht hW => ⟨⟨r_7, σ, rfl, ⟨rfl, hB⟩, cd_hp ht hP⟩, hS.F ht⟩) hS.2.2 dX6_headNow_50
      · have hB := hB.2 c_6
        by_cases c_9 : v2 = (3 : Int32)
        · have hB := hB.1 c_9
          refine lv_tableIn (tgt := 51) hx hb dX6_headNow_1 (by rw [c_9]; decide) (by rw [c_9]; decide) (by rw [c_9]; rfl) (by decide) ?_
          refine lv_aload_n hx hb dX6_headNow_51 rfl (lv_at hl 0 rfl) ?_
          refine lv_iload_n hx hb dX6_headNow_52 rfl (lv_at hl 1 rfl) ?_
          refine cd_ci (cd_runV (As := [.int v1]) (rest := []) (σ := σ) (k := 19) (ci := 6) X wm_X6_96 (by decide) rfl rfl rfl (c_X6_sameTurn l g v1 σ _ hB _) hP hS rfl rfl hl.1 (Nat.le_of_ble_eq_true rfl) ⟨Nat.le_of_ble_eq_true rfl, Nat.le_of_ble_eq_true rfl⟩ ⟨Nat.zero_le _, Nat.zero_le _⟩ dX6_headNow_53) hS (fun r_10 σ_11 H locs hB hP hS => ?_)
          obtain ⟨eσ_11, hB⟩ := hB
          rw [eσ_11] at hP
          rw [hQm]
          exact W.iret hx hb hr (fun t ht hW => ⟨⟨r_10, σ, rfl, ⟨rfl, hB⟩, cd_hp ht hP⟩, hS.F ht⟩) hS.2.2 dX6_headNow_56
        · have hB := hB.2 c_9
          have qc_1 := cd_ni (z := 0) (by decide) c_1
          have qc_3 := cd_ni (z := 1) (by decide) c_3
          have qc_6 := cd_ni (z := 2) (by decide) c_6
          have qc_9 := cd_ni (z := 3) (by decide) c_9
          refine lv_tableOut (tgt := 57) hx hb dX6_headNow_1 (by omega) (by decide) ?_
          refine lv_aload_n hx hb dX6_headNow_57 rfl (lv_at hl 0 rfl) ?_
          refine lv_iload_n hx hb dX6_headNow_58 rfl (lv_at hl 1 rfl) ?_
          refine cd_ci (cd_runV (As := [.int v1]) (rest := []) (σ := σ) (k := 19) (ci := 6) X wm_X6_99 (by decide) rfl rfl rfl (c_X6_isSameMirrored l g v1 σ _ hB _) hP hS rfl rfl hl.1 (Nat.le_of_ble_eq_true rfl) ⟨Nat.le_of_ble_eq_true rfl, Nat.le_of_ble_eq_true rfl⟩ ⟨Nat.zero_le _, Nat.zero_le _⟩ dX6_headNow_59) hS (fun r_12 σ_13 H locs hB hP hS => ?_)
          obtain ⟨eσ_13, hB⟩ := hB
          rw [eσ_13] at hP
          refine lv_if_eq (tgt := 69) hx hb dX6_headNow_62 (by decide) (fun c_14 => ?_) (fun c_14 => ?_)
          · have hB := hB.1 c_14
            refine lv_iconst (v := 0) hx hb dX6_headNow_69 (by decide) ?_
            rw [hQm]
            exact W.iret hx hb hr (fun t ht hW => ⟨⟨(0 : Int32), σ, rfl, ⟨rfl, hB⟩, cd_hp ht hP⟩, hS.F ht⟩) hS.2.2 dX6_headNow_70
          · have hB := hB.2 c_14
            refine lv_iconst (v := 1) hx hb dX6_headNow_65 (by decide) ?_
            refine lv_goto (tgt := 70) hx hb dX6_headNow_66 (by decide) ?_
            rw [hQm]
            exact W.iret hx hb hr (fun t ht hW => ⟨⟨(1 : Int32), σ, rfl, ⟨rfl, hB⟩, cd_hp ht hP⟩, hS.F ht⟩) hS.2.2 dX6_headNow_70
def wp_X6_mix (v1 : Int64) (σ : cdS) (Q : cdS → Prop) : Prop :=
  
    ∀ σ_1 : cdS, σ_1 = cdJ σ 19 (((31 : Int64) * (σ.2 19)) + v1) →
    Q σ_1
set_option maxHeartbeats 4000000 in
set_option maxRecDepth 100000 in
theorem c_X6_mix (l : Launch) (g : cdG) (v1 : Int64) (σ : cdS) (Q : cdS → Prop) (hwp : wp_X6_mix v1 σ Q) : cdCv l g yX6_mix cX6_mix 3 none 0 0 [.ref (cdA g 19), .long v1] σ Q := by
  intro sz
  refine Met.ofW (cc := cX6_mix) (maxL := 3) (ret := none) (by decide) rfl ?_
  intro p e s m args below meth c s₁ B hml hv
  obtain ⟨rfl, hsz, hP, hK, hdi, hV⟩ := hv
  subst hsz
  have hx := B.exec
  have hb := B.bytes
  have hr := B.returns
  have hlocks := B.notSynchronized
  have hown : s.vm.findClass RX6 = some m.cls := findClass_of_methodNamed B.named
  have hts : ∀ w ∈ cdL, w.before _ s = true := fun w hw => atoms_spec (ws := cdWs yX6_mix cX6_mix 3 none) B.pre w (List.mem_cons_of_mem _ hw)
  have X : cdX p s m _ c cX6_mix 3 RX6 g := ⟨hx, hb, hml, hown, hts, hK, hdi, hV⟩
  have hS : va_S (cdZ g s.heap.size) s.heap s.heap [] := va_S.rf
  have hl := lv_entry ([.ref (cdA g 19), .long v1]) (n := 3) (Nat.le_of_ble_eq_true rfl)
  rw [lg_entry_eq]
  generalize (lg_sl ([.ref (cdA g 19), .long v1]) ++ List.replicate (3 - (lg_sl ([.ref (cdA g 19), .long v1])).length) Slot.unset).toArray = ls at hl ⊢
  have hl : lv_has ls 3 [(0, .ref (cdA g 19)), (1, .long v1)] := hl
  obtain ⟨Qm, hQm⟩ : ∃ z, z = MQ below (va_Qv Q (fun σ' t => va_P (cdD g) vwCl (cdW g σ') t.heap) (cdZ g s.heap.size)) ([.ref (cdA g 19), .long v1] : List Value).toArray s 0 0 (cdZ g s.heap.size) := ⟨_, rfl⟩
  rw [← hQm]
  have hB := hwp
  refine lv_aload_n hx hb dX6_mix_0 rfl (lv_at hl 0 rfl) ?_
  refine lv_ldc2 (v := 31) hx hb hown (hts _ wc_X6_223) dX6_mix_1 ?_
  refine lv_aload_n hx hb dX6_mix_4 rfl (lv_at hl 0 rfl) ?_
  refine cd_get X hP (C := RX6) (T := TX6) (N := 20) (ci := 6) (k := 19) (j := 19) (v := .long (σ.2 19)) inX6 (by decide) rfl rfl (by decide) wf_X6_225 rfl rfl dX6_mix_5 ?_
  refine lv_lmul hx hb dX6_mix_8 ?_
  refine lv_lload_n hx hb dX6_mix_9 rfl (lv_at hl 1 rfl) ?_
  refine lv_ladd hx hb dX6_mix_10 ?_
  refine cd_put X hP hS (C := RX6) (T := TX6) (N := 20) (ci := 6) (k := 19) (j := 19) (v := .long (((31 : Int64) * (σ.2 19)) + v1)) (σ' := cdJ σ 19 (((31 : Int64) * (σ.2 19)) + v1)) inX6 tyX6 tyX6_ok nmX6 (by decide) rfl rfl (by decide) wf_X6_225 rfl rfl (tyX6_ok 19 (by decide)) rfl rfl (Nat.le_of_ble_eq_true rfl) (cdW_J rfl) dX6_mix_11 (fun H locs hP hS => ?_)
  obtain ⟨σ_1, eσ_1⟩ : ∃ z : cdS, z = cdJ σ 19 (((31 : Int64) * (σ.2 19)) + v1) := ⟨_, rfl⟩
  rw [← eσ_1] at hP
  have hB := hB σ_1 eσ_1
  rw [hQm]
  exact W.vret hx hb hr (fun t ht hW => ⟨⟨σ_1, rfl, hB, cd_hp ht hP⟩, hS.F ht⟩) hS.2.2 dX6_mix_14
def wp_X6_mixHead (v1 : Int32) (σ : cdS) (Q : cdS → Prop) : Prop :=
  ∀ (P2 : Int32 → cdS → Prop) (P37 : Int32 → Int32 → cdS → Prop) (P47 : Int32 → Int32 → Int32 → cdS → Prop) (P80 : Int32 → cdS → Prop) (P96 : Int32 → Int32 → cdS → Prop) (P134 : Int32 → cdS → Prop),
    (∀ (x2 : Int32) (σ : cdS), (
    (((5 : Int32) ≤ x2 →
    vp_in v1 5 ∧
    ∀ x2_3 : Int32, x2_3 = (((σ.1 21 (v1).toNatClampNeg) - (1 : Int32)) / (2 : Int32)) →
    P37 x2_3 x2_3 σ) ∧
    (¬ ((5 : Int32) ≤ x2) →
    wp_X6_headNow v1 x2 σ (fun r_4 => 
    wp_X6_mix ((r_4).toInt64) σ (fun σ_7 => 
    ∀ x2_8 : Int32, x2_8 = x2 + 1 →
    P2 x2_8 σ_7))))) → P2 x2 σ) →
    (∀ (x2 : Int32) (x3 : Int32) (σ : cdS), (
    ((x3 < (-x2) →
    P80 (0 : Int32) σ) ∧
    (¬ (x3 < (-x2)) →
    ∀ x4_10 : Int32, x4_10 = (-x2) →
    P47 x2 x3 x4_10 σ))) → P37 x2 x3 σ) →
    (∀ (x2 : Int32) (x3 : Int32) (x4 : Int32) (σ : cdS), (
    ((x2 < x4 →
    ∀ x3_17 : Int32, x3_17 = x3 + (-1) →
    P37 x2 x3_17 σ) ∧
    (¬ (x2 < x4) →
    wp_X6_depthAt v1 x4 x3 σ (fun r_18 => 
    wp_X6_mix ((r_18).toInt64) σ (fun σ_21 => 
    ∀ x4_22 : Int32, x4_22 = x4 + 1 →
    P47 x2 x3 x4_22 σ_21))))) → P47 x2 x3 x4 σ) →
    (∀ (x3 : Int32) (σ : cdS), (
    (((2 : Int32) ≤ x3 →
    wp_X6_layBest v1 (1 : Int32) σ (fun σ_13 => 
    P134 (0 : Int32) σ_13)) ∧
    (¬ ((2 : Int32) ≤ x3) →
    wp_X6_layLayout v1 x3 (4 : Int32) (3 : Int32) σ (fun σ_15 => 
    P96 x3 (0 : Int32) σ_15)))) → P80 x3 σ) →
    (∀ (x3 : Int32) (x4 : Int32) (σ : cdS), (
    (((8 : Int32) ≤ x4 →
    ∀ x3_30 : Int32, x3_30 = x3 + 1 →
    P80 x3_30 σ) ∧
    (¬ ((8 : Int32) ≤ x4) →
    wp_X6_laidNow x4 σ (fun r_31 => 
    wp_X6_mix ((r_31).toInt64) σ (fun σ_34 => 
    ∀ x4_35 : Int32, x4_35 = x4 + 1 →
    P96 x3 x4_35 σ_34))))) → P96 x3 x4 σ) →
    (∀ (x3 : Int32) (σ : cdS), (
    (((5 : Int32) ≤ x3 →
    Q σ) ∧
    (¬ ((5 : Int32) ≤ x3) →
    wp_X6_bestNow x3 σ (fun r_24 => 
    wp_X6_mix ((r_24).toInt64) σ (fun σ_27 => 
    ∀ x3_28 : Int32, x3_28 = x3 + 1 →
    P134 x3_28 σ_27))))) → P134 x3 σ) →
    
    P2 (0 : Int32) σ
set_option maxHeartbeats 4000000 in
set_option maxRecDepth 100000 in
theorem c_X6_mixHead (l : Launch) (g : cdG) (v1 : Int32) (σ : cdS) (Q : cdS → Prop) (hwp : wp_X6_mixHead v1 σ Q) : cdCv l g yX6_mixHead cX6_mixHead 5 none 7 184 [.ref (cdA g 19), .int v1] σ Q := by
  intro sz
  refine Met.ofW (cc := cX6_mixHead) (maxL := 5) (ret := none) (by decide) rfl ?_
  intro p e s m args below meth c s₁ B hml hv
  obtain ⟨rfl, hsz, hP, hK, hdi, hV⟩ := hv
  subst hsz
  have hx := B.exec
  have hb := B.bytes
  have hr := B.returns
  have hlocks := B.notSynchronized
  have hown : s.vm.findClass RX6 = some m.cls := findClass_of_methodNamed B.named
  have hts : ∀ w ∈ cdL, w.before _ s = true := fun w hw => atoms_spec (ws := cdWs yX6_mixHead cX6_mixHead 5 none) B.pre w (List.mem_cons_of_mem _ hw)
  have X : cdX p s m _ c cX6_mixHead 5 RX6 g := ⟨hx, hb, hml, hown, hts, hK, hdi, hV⟩
  have hS : va_S (cdZ g s.heap.size) s.heap s.heap [] := va_S.rf
  have hl := lv_entry ([.ref (cdA g 19), .int v1]) (n := 5) (Nat.le_of_ble_eq_true rfl)
  rw [lg_entry_eq]
  generalize (lg_sl ([.ref (cdA g 19), .int v1]) ++ List.replicate (5 - (lg_sl ([.ref (cdA g 19), .int v1])).length) Slot.unset).toArray = ls at hl ⊢
  have hl : lv_has ls 5 [(0, .ref (cdA g 19)), (1, .int v1)] := hl
  obtain ⟨Qm, hQm⟩ : ∃ z, z = MQ below (va_Qv Q (fun σ' t => va_P (cdD g) vwCl (cdW g σ') t.heap) (cdZ g s.heap.size)) ([.ref (cdA g 19), .int v1] : List Value).toArray s 0 0 (cdZ g s.heap.size) := ⟨_, rfl⟩
  rw [← hQm]
  have hB := hwp (fun (x2 : Int32) (σ : cdS) => cdCut p l e (headSpec (cdWs yX6_mixHead cX6_mixHead 5 none) (cdRm 7 184)).room s m ([.ref (cdA g 19), .int v1] : List Value).toArray below meth c Qm g 5 2 [(0, .ref (cdA g 19)), (1, .int v1), (2, .int x2)] [] σ)
    (fun (x2 : Int32) (x3 : Int32) (σ : cdS) => cdCut p l e (headSpec (cdWs yX6_mixHead cX6_mixHead 5 none) (cdRm 7 184)).room s m ([.ref (cdA g 19), .int v1] : List Value).toArray below meth c Qm g 5 37 [(0, .ref (cdA g 19)), (1, .int v1), (2, .int x2), (3, .int x3)] [] σ)
    (fun (x2 : Int32) (x3 : Int32) (x4 : Int32) (σ : cdS) => cdCut p l e (headSpec (cdWs yX6_mixHead cX6_mixHead 5 none) (cdRm 7 184)).room s m ([.ref (cdA g 19), .int v1] : List Value).toArray below meth c Qm g 5 47 [(0, .ref (cdA g 19)), (1, .int v1), (2, .int x2), (3, .int x3), (4, .int x4)] [] σ)
    (fun (x3 : Int32) (σ : cdS) => cdCut p l e (headSpec (cdWs yX6_mixHead cX6_mixHead 5 none) (cdRm 7 184)).room s m ([.ref (cdA g 19), .int v1] : List Value).toArray below meth c Qm g 5 80 [(0, .ref (cdA g 19)), (1, .int v1), (3, .int x3)] [] σ)
    (fun (x3 : Int32) (x4 : Int32) (σ : cdS) => cdCut p l e (headSpec (cdWs yX6_mixHead cX6_mixHead 5 none) (cdRm 7 184)).room s m ([.ref (cdA g 19), .int v1] : List Value).toArray below meth c Qm g 5 96 [(0, .ref (cdA g 19)), (1, .int v1), (3, .int x3), (4, .int x4)] [] σ)
    (fun (x3 : Int32) (σ : cdS) => cdCut p l e (headSpec (cdWs yX6_mixHead cX6_mixHead 5 none) (cdRm 7 184)).room s m ([.ref (cdA g 19), .int v1] : List Value).toArray below meth c Qm g 5 134 [(0, .ref (cdA g 19)), (3, .int x3)] [] σ)
    (by
    intro x2 σ hB H locs ls hP hS hl
    refine lv_iload_n hx hb dX6_mixHead_2 rfl (lv_at hl 2 rfl) ?_
    refine lv_iconst (v := 5) hx hb dX6_mixHead_3 (by decide) ?_
    refine lv_icmp_ge (tgt := 24) hx hb dX6_mixHead_4 (by decide) (fun c_1 => ?_) (fun c_1 => ?_)
    · have hB := hB.1 c_1
      refine lv_aload_n hx hb dX6_mixHead_24 rfl (lv_at hl 0 rfl) ?_
      refine cd_get X hP (C := RX6) (T := TX6) (N := 20) (ci := 6) (k := 19) (j := 3) (v := .ref (cdA g 21)) inX6 (by decide) rfl rfl (by decide) wf_X6_13 rfl rfl dX6_mixHead_25 ?_
      refine lv_iload_n hx hb dX6_mixHead_28 rfl (lv_at hl 1 rfl) ?_
      obtain ⟨i_2, hB⟩ := hB
      refine cd_ald X hP (k := 21) (N := 5) (by decide) rfl i_2 dX6_mixHead_29 ?_
      refine lv_iconst (v := 1) hx hb dX6_mixHead_30 (by decide) ?_
      refine lv_isub hx hb dX6_mixHead_31 ?_
      refine lv_iconst (v := 2) hx hb dX6_mixHead_32 (by decide) ?_
      refine lv_idiv hx hb dX6_mixHead_33 (by decide) ?_
      refine lv_topi (fun x2_3 ex2_3 => ?_)
      have hB := hB x2_3 ex2_3
      refine lv_istore_n (lv' := [(2, .int x2_3), (0, .ref (cdA g 19)), (1, .int v1)]) hx hb dX6_mixHead_34 rfl hl (by decide) rfl (fun ls hl => ?_)
      refine lv_iload_n hx hb dX6_mixHead_35 rfl (lv_at hl 0 rfl) ?_
      refine lv_istore_n (lv' := [(3, .int x2_3), (2, .int x2_3), (0, .ref (cdA g 19)), (1, .int v1)]) hx hb dX6_mixHead_36 rfl hl (by decide) rfl (fun ls hl => ?_)
      exact hB _ _ _ hP hS (lv_sub hl [2, 3, 1, 0] rfl)
    · have hB := hB.2 c_1
      refine lv_aload_n hx hb dX6_mixHead_7 rfl (lv_at hl 0 rfl) ?_
      refine lv_aload_n hx hb dX6_mixHead_8 rfl (lv_at hl 0 rfl) ?_
      refine lv_iload_n hx hb dX6_mixHead_9 rfl (lv_at hl 1 rfl) ?_
      refine lv_iload_n hx hb dX6_mixHead_10 rfl (lv_at hl 2 rfl) ?_
      refine cd_ci (cd_runV (As := [.int v1, .int x2]) (rest := [.ref (cdA g 19)]) (σ := σ) (k := 19) (ci := 6) X wm_X6_102 (by decide) rfl rfl rfl (c_X6_headNow l g v1 x2 σ _ hB _) hP hS rfl rfl hl.1 (Nat.le_of_ble_eq_true rfl) ⟨Nat.le_of_ble_eq_true rfl, Nat.le_of_ble_eq_true rfl⟩ ⟨Nat.zero_le _, Nat.zero_le _⟩ dX6_mixHead_11) hS (fun r_4 σ_5 H locs hB hP hS => ?_)
      obtain ⟨eσ_5, hB⟩ := hB
      rw [eσ_5] at hP
      refine lv_i2l hx hb dX6_mixHead_14 rfl ?_
      refine cd_cv (cd_runV (As := [.long ((r_4).toInt64)]) (rest := []) (σ := σ) (k := 19) (ci := 6) X wm_X6_228 (by decide) rfl rfl rfl (c_X6_mix l g ((r_4).toInt64) σ _ hB _) hP hS rfl rfl hl.1 (Nat.le_of_ble_eq_true rfl) ⟨Nat.le_of_ble_eq_true rfl, Nat.le_of_ble_eq_true rfl⟩ ⟨Nat.zero_le _, Nat.zero_le _⟩ dX6_mixHead_15) hS (fun σ_7 H locs hB hP hS => ?_)
      obtain ⟨x2_8, ex2_8⟩ : ∃ z : Int32, z = x2 + 1 := ⟨_, rfl⟩
      have hB := hB x2_8 ex2_8
      refine lv_iinc (v := x2_8) (lv' := [(2, .int x2_8), (0, .ref (cdA g 19)), (1, .int v1)]) hx hb dX6_mixHead_18 hl (k := 2) rfl (by rw [ex2_8]; rfl) (by decide) rfl (fun ls hl => ?_)
      refine lv_goto (tgt := 2) hx hb dX6_mixHead_21 (by decide) ?_
      exact hB _ _ _ hP hS (lv_sub hl [1, 2, 0] rfl))
    (by
    intro x2 x3 σ hB H locs ls hP hS hl
    refine lv_iload_n hx hb dX6_mixHead_37 rfl (lv_at hl 3 rfl) ?_
    refine lv_iload_n hx hb dX6_mixHead_38 rfl (lv_at hl 2 rfl) ?_
    refine lv_ineg hx hb dX6_mixHead_39 ?_
    refine lv_icmp_lt (tgt := 78) hx hb dX6_mixHead_40 (by decide) (fun c_9 => ?_) (fun c_9 => ?_)
    · have hB := hB.1 c_9
      refine lv_iconst (v := 0) hx hb dX6_mixHead_78 (by decide) ?_
      refine lv_istore_n (lv' := [(3, .int (0 : Int32)), (0, .ref (cdA g 19)), (1, .int v1), (2, .int x2)]) hx hb dX6_mixHead_79 rfl hl (by decide) rfl (fun ls hl => ?_)
      exact hB _ _ _ hP hS (lv_sub hl [1, 2, 0] rfl)
    · have hB := hB.2 c_9
      refine lv_iload_n hx hb dX6_mixHead_43 rfl (lv_at hl 2 rfl) ?_
      refine lv_ineg hx hb dX6_mixHead_44 ?_
      refine lv_topi (fun x4_10 ex4_10 => ?_)
      have hB := hB x4_10 ex4_10
      refine lv_istore (lv' := [(4, .int x4_10), (0, .ref (cdA g 19)), (1, .int v1), (2, .int x2), (3, .int x3)]) hx hb dX6_mixHead_45 hl (by decide) rfl (fun ls hl => ?_)
      exact hB _ _ _ hP hS (lv_sub hl [1, 2, 3, 4, 0] rfl))
    (by
    intro x2 x3 x4 σ hB H locs ls hP hS hl
    refine lv_iload hx hb dX6_mixHead_47 (lv_at hl 4 rfl) ?_
    refine lv_iload_n hx hb dX6_mixHead_49 rfl (lv_at hl 2 rfl) ?_
    refine lv_icmp_gt (tgt := 72) hx hb dX6_mixHead_50 (by decide) (fun c_16 => ?_) (fun c_16 => ?_)
    · have hB := hB.1 c_16
      obtain ⟨x3_17, ex3_17⟩ : ∃ z : Int32, z = x3 + (-1) := ⟨_, rfl⟩
      have hB := hB x3_17 ex3_17
      refine lv_iinc (v := x3_17) (lv' := [(3, .int x3_17), (0, .ref (cdA g 19)), (1, .int v1), (2, .int x2), (4, .int x4)]) hx hb dX6_mixHead_72 hl (k := 3) rfl (by rw [ex3_17]; rfl) (by decide) rfl (fun ls hl => ?_)
      refine lv_goto (tgt := 37) hx hb dX6_mixHead_75 (by decide) ?_
      exact hB _ _ _ hP hS (lv_sub hl [1, 2, 3, 0] rfl)
    · have hB := hB.2 c_16
      refine lv_aload_n hx hb dX6_mixHead_53 rfl (lv_at hl 0 rfl) ?_
      refine lv_aload_n hx hb dX6_mixHead_54 rfl (lv_at hl 0 rfl) ?_
      refine lv_iload_n hx hb dX6_mixHead_55 rfl (lv_at hl 1 rfl) ?_
      refine lv_iload hx hb dX6_mixHead_56 (lv_at hl 4 rfl) ?_
      refine lv_iload_n hx hb dX6_mixHead_58 rfl (lv_at hl 3 rfl) ?_
      refine cd_ci (cd_runV (As := [.int v1, .int x4, .int x3]) (rest := [.ref (cdA g 19)]) (σ := σ) (k := 19) (ci := 6) X wm_X6_76 (by decide) rfl rfl rfl (c_X6_depthAt l g v1 x4 x3 σ _ hB _) hP hS rfl rfl hl.1 (Nat.le_of_ble_eq_true rfl) ⟨Nat.le_of_ble_eq_true rfl, Nat.le_of_ble_eq_true rfl⟩ ⟨Nat.zero_le _, Nat.zero_le _⟩ dX6_mixHead_59) hS (fun r_18 σ_19 H locs hB hP hS => ?_)
      obtain ⟨eσ_19, hB⟩ := hB
      rw [eσ_19] at hP
      refine lv_i2l hx hb dX6_mixHead_62 rfl ?_
      refine cd_cv (cd_runV (As := [.long ((r_18).toInt64)]) (rest := []) (σ := σ) (k := 19) (ci := 6) X wm_X6_228 (by decide) rfl rfl rfl (c_X6_mix l g ((r_18).toInt64) σ _ hB _) hP hS rfl rfl hl.1 (Nat.le_of_ble_eq_true rfl) ⟨Nat.le_of_ble_eq_true rfl, Nat.le_of_ble_eq_true rfl⟩ ⟨Nat.zero_le _, Nat.zero_le _⟩ dX6_mixHead_63) hS (fun σ_21 H locs hB hP hS => ?_)
      obtain ⟨x4_22, ex4_22⟩ : ∃ z : Int32, z = x4 + 1 := ⟨_, rfl⟩
      have hB := hB x4_22 ex4_22
      refine lv_iinc (v := x4_22) (lv' := [(4, .int x4_22), (0, .ref (cdA g 19)), (1, .int v1), (2, .int x2), (3, .int x3)]) hx hb dX6_mixHead_66 hl (k := 4) rfl (by rw [ex4_22]; rfl) (by decide) rfl (fun ls hl => ?_)
      refine lv_goto (tgt := 47) hx hb dX6_mixHead_69 (by decide) ?_
      exact hB _ _ _ hP hS (lv_sub hl [1, 2, 3, 4, 0] rfl))
    (by
    intro x3 σ hB H locs ls hP hS hl
    refine lv_iload_n hx hb dX6_mixHead_80 rfl (lv_at hl 2 rfl) ?_
    refine lv_iconst (v := 2) hx hb dX6_mixHead_81 (by decide) ?_
    refine lv_icmp_ge (tgt := 126) hx hb dX6_mixHead_82 (by decide) (fun c_11 => ?_) (fun c_11 => ?_)
    · have hB := hB.1 c_11
      refine lv_aload_n hx hb dX6_mixHead_126 rfl (lv_at hl 0 rfl) ?_
      refine lv_iload_n hx hb dX6_mixHead_127 rfl (lv_at hl 1 rfl) ?_
      refine lv_iconst (v := 1) hx hb dX6_mixHead_128 (by decide) ?_
      refine cd_cv (cd_runV (As := [.int v1, .int (1 : Int32)]) (rest := []) (σ := σ) (k := 19) (ci := 6) X wm_X6_191 (by decide) rfl rfl rfl (c_X6_layBest l g v1 (1 : Int32) σ _ hB _) hP hS rfl rfl hl.1 (Nat.le_of_ble_eq_true rfl) ⟨Nat.le_of_ble_eq_true rfl, Nat.le_of_ble_eq_true rfl⟩ ⟨Nat.zero_le _, Nat.zero_le _⟩ dX6_mixHead_129) hS (fun σ_13 H locs hB hP hS => ?_)
      refine lv_iconst (v := 0) hx hb dX6_mixHead_132 (by decide) ?_
      refine lv_istore_n (lv' := [(3, .int (0 : Int32)), (0, .ref (cdA g 19)), (1, .int v1)]) hx hb dX6_mixHead_133 rfl hl (by decide) rfl (fun ls hl => ?_)
      exact hB _ _ _ hP hS (lv_sub hl [1, 0] rfl)
    · have hB := hB.2 c_11
      refine lv_aload_n hx hb dX6_mixHead_85 rfl (lv_at hl 0 rfl) ?_
      refine lv_iload_n hx hb dX6_mixHead_86 rfl (lv_at hl 1 rfl) ?_
      refine lv_iload_n hx hb dX6_mixHead_87 rfl (lv_at hl 2 rfl) ?_
      refine lv_iconst (v := 4) hx hb dX6_mixHead_88 (by decide) ?_
      refine lv_iconst (v := 3) hx hb dX6_mixHead_89 (by decide) ?_
      refine cd_cv (cd_runV (As := [.int v1, .int x3, .int (4 : Int32), .int (3 : Int32)]) (rest := []) (σ := σ) (k := 19) (ci := 6) X wm_X6_158 (by decide) rfl rfl rfl (c_X6_layLayout l g v1 x3 (4 : Int32) (3 : Int32) σ _ hB _) hP hS rfl rfl hl.1 (Nat.le_of_ble_eq_true rfl) ⟨Nat.le_of_ble_eq_true rfl, Nat.le_of_ble_eq_true rfl⟩ ⟨Nat.zero_le _, Nat.zero_le _⟩ dX6_mixHead_90) hS (fun σ_15 H locs hB hP hS => ?_)
      refine lv_iconst (v := 0) hx hb dX6_mixHead_93 (by decide) ?_
      refine lv_istore (lv' := [(4, .int (0 : Int32)), (0, .ref (cdA g 19)), (1, .int v1), (3, .int x3)]) hx hb dX6_mixHead_94 hl (by decide) rfl (fun ls hl => ?_)
      exact hB _ _ _ hP hS (lv_sub hl [1, 2, 3, 0] rfl))
    (by
    intro x3 x4 σ hB H locs ls hP hS hl
    refine lv_iload hx hb dX6_mixHead_96 (lv_at hl 3 rfl) ?_
    refine lv_bipush (v := 8) hx hb dX6_mixHead_98 (by decide) ?_
    refine lv_icmp_ge (tgt := 120) hx hb dX6_mixHead_100 (by decide) (fun c_29 => ?_) (fun c_29 => ?_)
    · have hB := hB.1 c_29
      obtain ⟨x3_30, ex3_30⟩ : ∃ z : Int32, z = x3 + 1 := ⟨_, rfl⟩
      have hB := hB x3_30 ex3_30
      refine lv_iinc (v := x3_30) (lv' := [(3, .int x3_30), (0, .ref (cdA g 19)), (1, .int v1), (4, .int x4)]) hx hb dX6_mixHead_120 hl (k := 2) rfl (by rw [ex3_30]; rfl) (by decide) rfl (fun ls hl => ?_)
      refine lv_goto (tgt := 80) hx hb dX6_mixHead_123 (by decide) ?_
      exact hB _ _ _ hP hS (lv_sub hl [1, 2, 0] rfl)
    · have hB := hB.2 c_29
      refine lv_aload_n hx hb dX6_mixHead_103 rfl (lv_at hl 0 rfl) ?_
      refine lv_aload_n hx hb dX6_mixHead_104 rfl (lv_at hl 0 rfl) ?_
      refine lv_iload hx hb dX6_mixHead_105 (lv_at hl 3 rfl) ?_
      refine cd_ci (cd_runV (As := [.int x4]) (rest := [.ref (cdA g 19)]) (σ := σ) (k := 19) (ci := 6) X wm_X6_162 (by decide) rfl rfl rfl (c_X6_laidNow l g x4 σ _ hB _) hP hS rfl rfl hl.1 (Nat.le_of_ble_eq_true rfl) ⟨Nat.le_of_ble_eq_true rfl, Nat.le_of_ble_eq_true rfl⟩ ⟨Nat.zero_le _, Nat.zero_le _⟩ dX6_mixHead_107) hS (fun r_31 σ_32 H locs hB hP hS => ?_)
      obtain ⟨eσ_32, hB⟩ := hB
      rw [eσ_32] at hP
      refine lv_i2l hx hb dX6_mixHead_110 rfl ?_
      refine cd_cv (cd_runV (As := [.long ((r_31).toInt64)]) (rest := []) (σ := σ) (k := 19) (ci := 6) X wm_X6_228 (by decide) rfl rfl rfl (c_X6_mix l g ((r_31).toInt64) σ _ hB _) hP hS rfl rfl hl.1 (Nat.le_of_ble_eq_true rfl) ⟨Nat.le_of_ble_eq_true rfl, Nat.le_of_ble_eq_true rfl⟩ ⟨Nat.zero_le _, Nat.zero_le _⟩ dX6_mixHead_111) hS (fun σ_34 H locs hB hP hS => ?_)
      obtain ⟨x4_35, ex4_35⟩ : ∃ z : Int32, z = x4 + 1 := ⟨_, rfl⟩
      have hB := hB x4_35 ex4_35
      refine lv_iinc (v := x4_35) (lv' := [(4, .int x4_35), (0, .ref (cdA g 19)), (1, .int v1), (3, .int x3)]) hx hb dX6_mixHead_114 hl (k := 3) rfl (by rw [ex4_35]; rfl) (by decide) rfl (fun ls hl => ?_)
      refine lv_goto (tgt := 96) hx hb dX6_mixHead_117 (by decide) ?_
      exact hB _ _ _ hP hS (lv_sub hl [1, 2, 3, 0] rfl))
    (by
    intro x3 σ hB H locs ls hP hS hl
    refine lv_iload_n hx hb dX6_mixHead_134 rfl (lv_at hl 1 rfl) ?_
    refine lv_iconst (v := 5) hx hb dX6_mixHead_135 (by decide) ?_
    refine lv_icmp_ge (tgt := 155) hx hb dX6_mixHead_136 (by decide) (fun c_23 => ?_) (fun c_23 => ?_)
    · have hB := hB.1 c_23
      rw [hQm]
      exact W.vret hx hb hr (fun t ht hW => ⟨⟨σ, rfl, hB, cd_hp ht hP⟩, hS.F ht⟩) hS.2.2 dX6_mixHead_155
    · have hB := hB.2 c_23
      refine lv_aload_n hx hb dX6_mixHead_139 rfl (lv_at hl 0 rfl) ?_
      refine lv_aload_n hx hb dX6_mixHead_140 rfl (lv_at hl 0 rfl) ?_
      refine lv_iload_n hx hb dX6_mixHead_141 rfl (lv_at hl 1 rfl) ?_
      refine cd_ci (cd_runV (As := [.int x3]) (rest := [.ref (cdA g 19)]) (σ := σ) (k := 19) (ci := 6) X wm_X6_194 (by decide) rfl rfl rfl (c_X6_bestNow l g x3 σ _ hB _) hP hS rfl rfl hl.1 (Nat.le_of_ble_eq_true rfl) ⟨Nat.le_of_ble_eq_true rfl, Nat.le_of_ble_eq_true rfl⟩ ⟨Nat.zero_le _, Nat.zero_le _⟩ dX6_mixHead_142) hS (fun r_24 σ_25 H locs hB hP hS => ?_)
      obtain ⟨eσ_25, hB⟩ := hB
      rw [eσ_25] at hP
      refine lv_i2l hx hb dX6_mixHead_145 rfl ?_
      refine cd_cv (cd_runV (As := [.long ((r_24).toInt64)]) (rest := []) (σ := σ) (k := 19) (ci := 6) X wm_X6_228 (by decide) rfl rfl rfl (c_X6_mix l g ((r_24).toInt64) σ _ hB _) hP hS rfl rfl hl.1 (Nat.le_of_ble_eq_true rfl) ⟨Nat.le_of_ble_eq_true rfl, Nat.le_of_ble_eq_true rfl⟩ ⟨Nat.zero_le _, Nat.zero_le _⟩ dX6_mixHead_146) hS (fun σ_27 H locs hB hP hS => ?_)
      obtain ⟨x3_28, ex3_28⟩ : ∃ z : Int32, z = x3 + 1 := ⟨_, rfl⟩
      have hB := hB x3_28 ex3_28
      refine lv_iinc (v := x3_28) (lv' := [(3, .int x3_28), (0, .ref (cdA g 19))]) hx hb dX6_mixHead_149 hl (k := 1) rfl (by rw [ex3_28]; rfl) (by decide) rfl (fun ls hl => ?_)
      refine lv_goto (tgt := 134) hx hb dX6_mixHead_152 (by decide) ?_
      exact hB _ _ _ hP hS (lv_sub hl [1, 0] rfl))
  refine lv_iconst (v := 0) hx hb dX6_mixHead_0 (by decide) ?_
  refine lv_istore_n (lv' := [(2, .int (0 : Int32)), (0, .ref (cdA g 19)), (1, .int v1)]) hx hb dX6_mixHead_1 rfl hl (by decide) rfl (fun ls hl => ?_)
  exact hB _ _ _ hP hS (lv_sub hl [1, 2, 0] rfl)
def wp_X6_digest  (σ : cdS) (Q : Int64 → cdS → Prop) : Prop :=
  ∀ (P9 : Int32 → cdS → Prop) (P30 : Int32 → cdS → Prop) (P57 : Int32 → cdS → Prop),
    (∀ (x1 : Int32) (σ : cdS), (
    (((σ.1 19 2) ≤ x1 →
    P30 (0 : Int32) σ) ∧
    (¬ ((σ.1 19 2) ≤ x1) →
    wp_X6_mixHead x1 σ (fun σ_4 => 
    ∀ x1_5 : Int32, x1_5 = x1 + 1 →
    P9 x1_5 σ_4)))) → P9 x1 σ) →
    (∀ (x1 : Int32) (σ : cdS), (
    (((σ.1 19 0) ≤ x1 →
    P57 (0 : Int32) σ) ∧
    (¬ ((σ.1 19 0) ≤ x1) →
    vp_in x1 60 ∧
    wp_X6_mix (((σ.1 20 (x1).toNatClampNeg)).toInt64) σ (fun σ_9 => 
    ∀ x1_10 : Int32, x1_10 = x1 + 1 →
    P30 x1_10 σ_9)))) → P30 x1 σ) →
    (∀ (x1 : Int32) (σ : cdS), (
    (((6 : Int32) ≤ x1 →
    Q (σ.2 19) σ) ∧
    (¬ ((6 : Int32) ≤ x1) →
    wp_X6_howMany x1 σ (fun r_12 => 
    wp_X6_mix ((r_12).toInt64) σ (fun σ_15 => 
    ∀ x1_16 : Int32, x1_16 = x1 + 1 →
    P57 x1_16 σ_15))))) → P57 x1 σ) →
    
    ∀ σ_1 : cdS, σ_1 = cdJ σ 19 (1621 : Int64) →
    P9 (0 : Int32) σ_1
set_option maxHeartbeats 4000000 in
set_option maxRecDepth 100000 in
theorem c_X6_digest (l : Launch) (g : cdG)  (σ : cdS) (Q : Int64 → cdS → Prop) (hwp : wp_X6_digest  σ Q) : cdCl l g yX6_digest cX6_digest 2 (some .long) 8 208 [.ref (cdA g 19)] σ Q := by
  intro sz
  refine Met.ofW (cc := cX6_digest) (maxL := 2) (ret := (some .long)) (by decide) rfl ?_
  intro p e s m args below meth c s₁ B hml hv
  obtain ⟨rfl, hsz, hP, hK, hdi, hV⟩ := hv
  subst hsz
  have hx := B.exec
  have hb := B.bytes
  have hr := B.returns
  have hlocks := B.notSynchronized
  have hown : s.vm.findClass RX6 = some m.cls := findClass_of_methodNamed B.named
  have hts : ∀ w ∈ cdL, w.before _ s = true := fun w hw => atoms_spec (ws := cdWs yX6_digest cX6_digest 2 (some .long)) B.pre w (List.mem_cons_of_mem _ hw)
  have X : cdX p s m _ c cX6_digest 2 RX6 g := ⟨hx, hb, hml, hown, hts, hK, hdi, hV⟩
  have hS : va_S (cdZ g s.heap.size) s.heap s.heap [] := va_S.rf
  have hl := lv_entry ([.ref (cdA g 19)]) (n := 2) (Nat.le_of_ble_eq_true rfl)
  rw [lg_entry_eq]
  generalize (lg_sl ([.ref (cdA g 19)]) ++ List.replicate (2 - (lg_sl ([.ref (cdA g 19)])).length) Slot.unset).toArray = ls at hl ⊢
  have hl : lv_has ls 2 [(0, .ref (cdA g 19))] := hl
  obtain ⟨Qm, hQm⟩ : ∃ z, z = MQ below (va_Ql Q (fun σ' t => va_P (cdD g) vwCl (cdW g σ') t.heap) (cdZ g s.heap.size)) ([.ref (cdA g 19)] : List Value).toArray s 0 0 (cdZ g s.heap.size) := ⟨_, rfl⟩
  rw [← hQm]
  have hB := hwp (fun (x1 : Int32) (σ : cdS) => cdCut p l e (headSpec (cdWs yX6_digest cX6_digest 2 (some .long)) (cdRm 8 208)).room s m ([.ref (cdA g 19)] : List Value).toArray below meth c Qm g 2 9 [(0, .ref (cdA g 19)), (1, .int x1)] [] σ)
    (fun (x1 : Int32) (σ : cdS) => cdCut p l e (headSpec (cdWs yX6_digest cX6_digest 2 (some .long)) (cdRm 8 208)).room s m ([.ref (cdA g 19)] : List Value).toArray below meth c Qm g 2 30 [(0, .ref (cdA g 19)), (1, .int x1)] [] σ)
    (fun (x1 : Int32) (σ : cdS) => cdCut p l e (headSpec (cdWs yX6_digest cX6_digest 2 (some .long)) (cdRm 8 208)).room s m ([.ref (cdA g 19)] : List Value).toArray below meth c Qm g 2 57 [(0, .ref (cdA g 19)), (1, .int x1)] [] σ)
    (by
    intro x1 σ hB H locs ls hP hS hl
    refine lv_iload_n hx hb dX6_digest_9 rfl (lv_at hl 1 rfl) ?_
    refine lv_aload_n hx hb dX6_digest_10 rfl (lv_at hl 0 rfl) ?_
    refine cd_get X hP (C := RX6) (T := TX6) (N := 20) (ci := 6) (k := 19) (j := 2) (v := .int (σ.1 19 2)) inX6 (by decide) rfl rfl (by decide) wf_X6_59 rfl rfl dX6_digest_11 ?_
    refine lv_icmp_ge (tgt := 28) hx hb dX6_digest_14 (by decide) (fun c_2 => ?_) (fun c_2 => ?_)
    · have hB := hB.1 c_2
      refine lv_iconst (v := 0) hx hb dX6_digest_28 (by decide) ?_
      refine lv_istore_n (lv' := [(1, .int (0 : Int32)), (0, .ref (cdA g 19))]) hx hb dX6_digest_29 rfl hl (by decide) rfl (fun ls hl => ?_)
      exact hB _ _ _ hP hS (lv_sub hl [1, 0] rfl)
    · have hB := hB.2 c_2
      refine lv_aload_n hx hb dX6_digest_17 rfl (lv_at hl 0 rfl) ?_
      refine lv_iload_n hx hb dX6_digest_18 rfl (lv_at hl 1 rfl) ?_
      refine cd_cv (cd_runV (As := [.int x1]) (rest := []) (σ := σ) (k := 19) (ci := 6) X wm_X6_234 (by decide) rfl rfl rfl (c_X6_mixHead l g x1 σ _ hB _) hP hS rfl rfl hl.1 (Nat.le_of_ble_eq_true rfl) ⟨Nat.le_of_ble_eq_true rfl, Nat.le_of_ble_eq_true rfl⟩ ⟨Nat.zero_le _, Nat.zero_le _⟩ dX6_digest_19) hS (fun σ_4 H locs hB hP hS => ?_)
      obtain ⟨x1_5, ex1_5⟩ : ∃ z : Int32, z = x1 + 1 := ⟨_, rfl⟩
      have hB := hB x1_5 ex1_5
      refine lv_iinc (v := x1_5) (lv' := [(1, .int x1_5), (0, .ref (cdA g 19))]) hx hb dX6_digest_22 hl (k := 1) rfl (by rw [ex1_5]; rfl) (by decide) rfl (fun ls hl => ?_)
      refine lv_goto (tgt := 9) hx hb dX6_digest_25 (by decide) ?_
      exact hB _ _ _ hP hS (lv_sub hl [1, 0] rfl))
    (by
    intro x1 σ hB H locs ls hP hS hl
    refine lv_iload_n hx hb dX6_digest_30 rfl (lv_at hl 1 rfl) ?_
    refine lv_aload_n hx hb dX6_digest_31 rfl (lv_at hl 0 rfl) ?_
    refine cd_get X hP (C := RX6) (T := TX6) (N := 20) (ci := 6) (k := 19) (j := 0) (v := .int (σ.1 19 0)) inX6 (by decide) rfl rfl (by decide) wf_X6_27 rfl rfl dX6_digest_32 ?_
    refine lv_icmp_ge (tgt := 55) hx hb dX6_digest_35 (by decide) (fun c_6 => ?_) (fun c_6 => ?_)
    · have hB := hB.1 c_6
      refine lv_iconst (v := 0) hx hb dX6_digest_55 (by decide) ?_
      refine lv_istore_n (lv' := [(1, .int (0 : Int32)), (0, .ref (cdA g 19))]) hx hb dX6_digest_56 rfl hl (by decide) rfl (fun ls hl => ?_)
      exact hB _ _ _ hP hS (lv_sub hl [1, 0] rfl)
    · have hB := hB.2 c_6
      refine lv_aload_n hx hb dX6_digest_38 rfl (lv_at hl 0 rfl) ?_
      refine lv_aload_n hx hb dX6_digest_39 rfl (lv_at hl 0 rfl) ?_
      refine cd_get X hP (C := RX6) (T := TX6) (N := 20) (ci := 6) (k := 19) (j := 1) (v := .ref (cdA g 20)) inX6 (by decide) rfl rfl (by decide) wf_X6_7 rfl rfl dX6_digest_40 ?_
      refine lv_iload_n hx hb dX6_digest_43 rfl (lv_at hl 1 rfl) ?_
      obtain ⟨i_7, hB⟩ := hB
      refine cd_ald X hP (k := 20) (N := 60) (by decide) rfl i_7 dX6_digest_44 ?_
      refine lv_i2l hx hb dX6_digest_45 rfl ?_
      refine cd_cv (cd_runV (As := [.long (((σ.1 20 (x1).toNatClampNeg)).toInt64)]) (rest := []) (σ := σ) (k := 19) (ci := 6) X wm_X6_228 (by decide) rfl rfl rfl (c_X6_mix l g (((σ.1 20 (x1).toNatClampNeg)).toInt64) σ _ hB _) hP hS rfl rfl hl.1 (Nat.le_of_ble_eq_true rfl) ⟨Nat.le_of_ble_eq_true rfl, Nat.le_of_ble_eq_true rfl⟩ ⟨Nat.zero_le _, Nat.zero_le _⟩ dX6_digest_46) hS (fun σ_9 H locs hB hP hS => ?_)
      obtain ⟨x1_10, ex1_10⟩ : ∃ z : Int32, z = x1 + 1 := ⟨_, rfl⟩
      have hB := hB x1_10 ex1_10
      refine lv_iinc (v := x1_10) (lv' := [(1, .int x1_10), (0, .ref (cdA g 19))]) hx hb dX6_digest_49 hl (k := 1) rfl (by rw [ex1_10]; rfl) (by decide) rfl (fun ls hl => ?_)
      refine lv_goto (tgt := 30) hx hb dX6_digest_52 (by decide) ?_
      exact hB _ _ _ hP hS (lv_sub hl [1, 0] rfl))
    (by
    intro x1 σ hB H locs ls hP hS hl
    refine lv_iload_n hx hb dX6_digest_57 rfl (lv_at hl 1 rfl) ?_
    refine lv_bipush (v := 6) hx hb dX6_digest_58 (by decide) ?_
    refine lv_icmp_ge (tgt := 79) hx hb dX6_digest_60 (by decide) (fun c_11 => ?_) (fun c_11 => ?_)
    · have hB := hB.1 c_11
      refine lv_aload_n hx hb dX6_digest_79 rfl (lv_at hl 0 rfl) ?_
      refine cd_get X hP (C := RX6) (T := TX6) (N := 20) (ci := 6) (k := 19) (j := 19) (v := .long (σ.2 19)) inX6 (by decide) rfl rfl (by decide) wf_X6_225 rfl rfl dX6_digest_80 ?_
      rw [hQm]
      exact W.lret hx hb hr (fun t ht hW => ⟨⟨(σ.2 19), σ, rfl, hB, cd_hp ht hP⟩, hS.F ht⟩) hS.2.2 dX6_digest_83
    · have hB := hB.2 c_11
      refine lv_aload_n hx hb dX6_digest_63 rfl (lv_at hl 0 rfl) ?_
      refine lv_aload_n hx hb dX6_digest_64 rfl (lv_at hl 0 rfl) ?_
      refine lv_iload_n hx hb dX6_digest_65 rfl (lv_at hl 1 rfl) ?_
      refine cd_ci (cd_runV (As := [.int x1]) (rest := [.ref (cdA g 19)]) (σ := σ) (k := 19) (ci := 6) X wm_X6_220 (by decide) rfl rfl rfl (c_X6_howMany l g x1 σ _ hB _) hP hS rfl rfl hl.1 (Nat.le_of_ble_eq_true rfl) ⟨Nat.le_of_ble_eq_true rfl, Nat.le_of_ble_eq_true rfl⟩ ⟨Nat.zero_le _, Nat.zero_le _⟩ dX6_digest_66) hS (fun r_12 σ_13 H locs hB hP hS => ?_)
      obtain ⟨eσ_13, hB⟩ := hB
      rw [eσ_13] at hP
      refine lv_i2l hx hb dX6_digest_69 rfl ?_
      refine cd_cv (cd_runV (As := [.long ((r_12).toInt64)]) (rest := []) (σ := σ) (k := 19) (ci := 6) X wm_X6_228 (by decide) rfl rfl rfl (c_X6_mix l g ((r_12).toInt64) σ _ hB _) hP hS rfl rfl hl.1 (Nat.le_of_ble_eq_true rfl) ⟨Nat.le_of_ble_eq_true rfl, Nat.le_of_ble_eq_true rfl⟩ ⟨Nat.zero_le _, Nat.zero_le _⟩ dX6_digest_70) hS (fun σ_15 H locs hB hP hS => ?_)
      obtain ⟨x1_16, ex1_16⟩ : ∃ z : Int32, z = x1 + 1 := ⟨_, rfl⟩
      have hB := hB x1_16 ex1_16
      refine lv_iinc (v := x1_16) (lv' := [(1, .int x1_16), (0, .ref (cdA g 19))]) hx hb dX6_digest_73 hl (k := 1) rfl (by rw [ex1_16]; rfl) (by decide) rfl (fun ls hl => ?_)
      refine lv_goto (tgt := 57) hx hb dX6_digest_76 (by decide) ?_
      exact hB _ _ _ hP hS (lv_sub hl [1, 0] rfl))
  refine lv_aload_n hx hb dX6_digest_0 rfl (lv_at hl 0 rfl) ?_
  refine lv_ldc2 (v := 1621) hx hb hown (hts _ wc_X6_232) dX6_digest_1 ?_
  refine cd_put X hP hS (C := RX6) (T := TX6) (N := 20) (ci := 6) (k := 19) (j := 19) (v := .long (1621 : Int64)) (σ' := cdJ σ 19 (1621 : Int64)) inX6 tyX6 tyX6_ok nmX6 (by decide) rfl rfl (by decide) wf_X6_225 rfl rfl (tyX6_ok 19 (by decide)) rfl rfl (Nat.le_of_ble_eq_true rfl) (cdW_J rfl) dX6_digest_4 (fun H locs hP hS => ?_)
  obtain ⟨σ_1, eσ_1⟩ : ∃ z : cdS, z = cdJ σ 19 (1621 : Int64) := ⟨_, rfl⟩
  rw [← eσ_1] at hP
  have hB := hB σ_1 eσ_1
  refine lv_iconst (v := 0) hx hb dX6_digest_7 (by decide) ?_
  refine lv_istore_n (lv' := [(1, .int (0 : Int32)), (0, .ref (cdA g 19))]) hx hb dX6_digest_8 rfl hl (by decide) rfl (fun ls hl => ?_)
  exact hB _ _ _ hP hS (lv_sub hl [1, 0] rfl)
def wp_X6_driest  (σ : cdS) (Q : Int32 → Prop) : Prop :=
  ∀ (P4 : Int32 → Int32 → Prop) (P32 : Int32 → Int32 → Prop),
    (∀ (x1 : Int32) (x2 : Int32), (
    (((σ.1 19 11) ≤ x2 →
    Q x1) ∧
    (¬ ((σ.1 19 11) ≤ x2) →
    vp_in x2 361 ∧
    vp_in x1 361 ∧
    (((σ.1 23 (x1).toNatClampNeg) ≤ (σ.1 23 (x2).toNatClampNeg) →
    P32 x2 x1) ∧
    (¬ ((σ.1 23 (x1).toNatClampNeg) ≤ (σ.1 23 (x2).toNatClampNeg)) →
    P32 x2 x2))))) → P4 x1 x2) →
    (∀ (x2 : Int32) (t0 : Int32), (
    ∀ x2_5 : Int32, x2_5 = x2 + 1 →
    P4 t0 x2_5) → P32 x2 t0) →
    
    P4 (0 : Int32) (1 : Int32)
set_option maxHeartbeats 4000000 in
set_option maxRecDepth 100000 in
theorem c_X6_driest (l : Launch) (g : cdG)  (σ : cdS) (Q : Int32 → Prop) (hwp : wp_X6_driest  σ Q) : cdCi l g yX6_driest cX6_driest 3 (some .int) 0 0 [.ref (cdA g 19)] σ (fun r σ' => σ' = σ ∧ Q r) := by
  intro sz
  refine Met.ofW (cc := cX6_driest) (maxL := 3) (ret := (some .int)) (by decide) rfl ?_
  intro p e s m args below meth c s₁ B hml hv
  obtain ⟨rfl, hsz, hP, hK, hdi, hV⟩ := hv
  subst hsz
  have hx := B.exec
  have hb := B.bytes
  have hr := B.returns
  have hlocks := B.notSynchronized
  have hown : s.vm.findClass RX6 = some m.cls := findClass_of_methodNamed B.named
  have hts : ∀ w ∈ cdL, w.before _ s = true := fun w hw => atoms_spec (ws := cdWs yX6_driest cX6_driest 3 (some .int)) B.pre w (List.mem_cons_of_mem _ hw)
  have X : cdX p s m _ c cX6_driest 3 RX6 g := ⟨hx, hb, hml, hown, hts, hK, hdi, hV⟩
  have hS : va_S (cdZ g s.heap.size) s.heap s.heap [] := va_S.rf
  have hl := lv_entry ([.ref (cdA g 19)]) (n := 3) (Nat.le_of_ble_eq_true rfl)
  rw [lg_entry_eq]
  generalize (lg_sl ([.ref (cdA g 19)]) ++ List.replicate (3 - (lg_sl ([.ref (cdA g 19)])).length) Slot.unset).toArray = ls at hl ⊢
  have hl : lv_has ls 3 [(0, .ref (cdA g 19))] := hl
  obtain ⟨Qm, hQm⟩ : ∃ z, z = MQ below (va_Qi (fun r σ' => σ' = σ ∧ Q r) (fun σ' t => va_P (cdD g) vwCl (cdW g σ') t.heap) (cdZ g s.heap.size)) ([.ref (cdA g 19)] : List Value).toArray s 0 0 (cdZ g s.heap.size) := ⟨_, rfl⟩
  rw [← hQm]
  have hB := hwp (fun (x1 : Int32) (x2 : Int32) => cdCut p l e (headSpec (cdWs yX6_driest cX6_driest 3 (some .int)) (cdRm 0 0)).room s m ([.ref (cdA g 19)] : List Value).toArray below meth c Qm g 3 4 [(0, .ref (cdA g 19)), (1, .int x1), (2, .int x2)] [] σ)
    (fun (x2 : Int32) (t0 : Int32) => cdCut p l e (headSpec (cdWs yX6_driest cX6_driest 3 (some .int)) (cdRm 0 0)).room s m ([.ref (cdA g 19)] : List Value).toArray below meth c Qm g 3 32 [(0, .ref (cdA g 19)), (2, .int x2)] [.int t0] σ)
    (by
    intro x1 x2 hB H locs ls hP hS hl
    refine lv_iload_n hx hb dX6_driest_4 rfl (lv_at hl 2 rfl) ?_
    refine lv_aload_n hx hb dX6_driest_5 rfl (lv_at hl 0 rfl) ?_
    refine cd_get X hP (C := RX6) (T := TX6) (N := 20) (ci := 6) (k := 19) (j := 11) (v := .int (σ.1 19 11)) inX6 (by decide) rfl rfl (by decide) wf_X6_117 rfl rfl dX6_driest_6 ?_
    refine lv_icmp_ge (tgt := 39) hx hb dX6_driest_9 (by decide) (fun c_1 => ?_) (fun c_1 => ?_)
    · have hB := hB.1 c_1
      refine lv_iload_n hx hb dX6_driest_39 rfl (lv_at hl 1 rfl) ?_
      rw [hQm]
      exact W.iret hx hb hr (fun t ht hW => ⟨⟨x1, σ, rfl, ⟨rfl, hB⟩, cd_hp ht hP⟩, hS.F ht⟩) hS.2.2 dX6_driest_40
    · have hB := hB.2 c_1
      refine lv_aload_n hx hb dX6_driest_12 rfl (lv_at hl 0 rfl) ?_
      refine cd_get X hP (C := RX6) (T := TX6) (N := 20) (ci := 6) (k := 19) (j := 13) (v := .ref (cdA g 23)) inX6 (by decide) rfl rfl (by decide) wf_X6_19 rfl rfl dX6_driest_13 ?_
      refine lv_iload_n hx hb dX6_driest_16 rfl (lv_at hl 2 rfl) ?_
      obtain ⟨i_2, hB⟩ := hB
      refine cd_ald X hP (k := 23) (N := 361) (by decide) rfl i_2 dX6_driest_17 ?_
      refine lv_aload_n hx hb dX6_driest_18 rfl (lv_at hl 0 rfl) ?_
      refine cd_get X hP (C := RX6) (T := TX6) (N := 20) (ci := 6) (k := 19) (j := 13) (v := .ref (cdA g 23)) inX6 (by decide) rfl rfl (by decide) wf_X6_19 rfl rfl dX6_driest_19 ?_
      refine lv_iload_n hx hb dX6_driest_22 rfl (lv_at hl 1 rfl) ?_
      obtain ⟨i_3, hB⟩ := hB
      refine cd_ald X hP (k := 23) (N := 361) (by decide) rfl i_3 dX6_driest_23 ?_
      refine lv_icmp_ge (tgt := 31) hx hb dX6_driest_24 (by decide) (fun c_4 => ?_) (fun c_4 => ?_)
      · have hB := hB.1 c_4
        refine lv_iload_n hx hb dX6_driest_31 rfl (lv_at hl 1 rfl) ?_
        exact hB _ _ _ hP hS (lv_sub hl [0, 2] rfl)
      · have hB := hB.2 c_4
        refine lv_iload_n hx hb dX6_driest_27 rfl (lv_at hl 2 rfl) ?_
        refine lv_goto (tgt := 32) hx hb dX6_driest_28 (by decide) ?_
        exact hB _ _ _ hP hS (lv_sub hl [0, 2] rfl))
    (by
    intro x2 t0 hB H locs ls hP hS hl
    refine lv_istore_n (lv' := [(1, .int t0), (0, .ref (cdA g 19)), (2, .int x2)]) hx hb dX6_driest_32 rfl hl (by decide) rfl (fun ls hl => ?_)
    obtain ⟨x2_5, ex2_5⟩ : ∃ z : Int32, z = x2 + 1 := ⟨_, rfl⟩
    have hB := hB x2_5 ex2_5
    refine lv_iinc (v := x2_5) (lv' := [(2, .int x2_5), (1, .int t0), (0, .ref (cdA g 19))]) hx hb dX6_driest_33 hl (k := 2) rfl (by rw [ex2_5]; rfl) (by decide) rfl (fun ls hl => ?_)
    refine lv_goto (tgt := 4) hx hb dX6_driest_36 (by decide) ?_
    exact hB _ _ _ hP hS (lv_sub hl [2, 1, 0] rfl))
  refine lv_iconst (v := 0) hx hb dX6_driest_0 (by decide) ?_
  refine lv_istore_n (lv' := [(1, .int (0 : Int32)), (0, .ref (cdA g 19))]) hx hb dX6_driest_1 rfl hl (by decide) rfl (fun ls hl => ?_)
  refine lv_iconst (v := 1) hx hb dX6_driest_2 (by decide) ?_
  refine lv_istore_n (lv' := [(2, .int (1 : Int32)), (1, .int (0 : Int32)), (0, .ref (cdA g 19))]) hx hb dX6_driest_3 rfl hl (by decide) rfl (fun ls hl => ?_)
  exact hB _ _ _ hP hS (lv_sub hl [2, 1, 0] rfl)
def wp_X6_drop (v1 : Int32) (σ : cdS) (Q : Int32 → cdS → Prop) : Prop :=
  ∀ (P33 : Int32 → cdS → Prop),
    (∀ (x2 : Int32) (σ : cdS), (
    (((σ.1 19 2) ≤ x2 →
    Q (σ.1 19 2) σ) ∧
    (¬ ((σ.1 19 2) ≤ x2) →
    wp_X6_copy (x2 + (1 : Int32)) x2 σ (fun σ_8 => 
    ∀ x2_9 : Int32, x2_9 = x2 + 1 →
    P33 x2_9 σ_8)))) → P33 x2 σ) →
    
    wp_X6_isHead v1 σ (fun r_1 => 
    ((¬ r_1 = 0 →
    ∀ σ_4 : cdS, σ_4 = cdU σ 19 2 ((σ.1 19 2) - (1 : Int32)) →
    ∀ σ_5 : cdS, σ_5 = cdU σ_4 19 7 ((σ_4.1 19 7) + (1 : Int32)) →
    P33 v1 σ_5) ∧
    (r_1 = 0 →
    Q (-1000002 : Int32) σ)))
set_option maxHeartbeats 4000000 in
set_option maxRecDepth 100000 in
theorem c_X6_drop (l : Launch) (g : cdG) (v1 : Int32) (σ : cdS) (Q : Int32 → cdS → Prop) (hwp : wp_X6_drop v1 σ Q) : cdCi l g yX6_drop cX6_drop 3 (some .int) 2 43 [.ref (cdA g 19), .int v1] σ Q := by
  intro sz
  refine Met.ofW (cc := cX6_drop) (maxL := 3) (ret := (some .int)) (by decide) rfl ?_
  intro p e s m args below meth c s₁ B hml hv
  obtain ⟨rfl, hsz, hP, hK, hdi, hV⟩ := hv
  subst hsz
  have hx := B.exec
  have hb := B.bytes
  have hr := B.returns
  have hlocks := B.notSynchronized
  have hown : s.vm.findClass RX6 = some m.cls := findClass_of_methodNamed B.named
  have hts : ∀ w ∈ cdL, w.before _ s = true := fun w hw => atoms_spec (ws := cdWs yX6_drop cX6_drop 3 (some .int)) B.pre w (List.mem_cons_of_mem _ hw)
  have X : cdX p s m _ c cX6_drop 3 RX6 g := ⟨hx, hb, hml, hown, hts, hK, hdi, hV⟩
  have hS : va_S (cdZ g s.heap.size) s.heap s.heap [] := va_S.rf
  have hl := lv_entry ([.ref (cdA g 19), .int v1]) (n := 3) (Nat.le_of_ble_eq_true rfl)
  rw [lg_entry_eq]
  generalize (lg_sl ([.ref (cdA g 19), .int v1]) ++ List.replicate (3 - (lg_sl ([.ref (cdA g 19), .int v1])).length) Slot.unset).toArray = ls at hl ⊢
  have hl : lv_has ls 3 [(0, .ref (cdA g 19)), (1, .int v1)] := hl
  obtain ⟨Qm, hQm⟩ : ∃ z, z = MQ below (va_Qi Q (fun σ' t => va_P (cdD g) vwCl (cdW g σ') t.heap) (cdZ g s.heap.size)) ([.ref (cdA g 19), .int v1] : List Value).toArray s 0 0 (cdZ g s.heap.size) := ⟨_, rfl⟩
  rw [← hQm]
  have hB := hwp (fun (x2 : Int32) (σ : cdS) => cdCut p l e (headSpec (cdWs yX6_drop cX6_drop 3 (some .int)) (cdRm 2 43)).room s m ([.ref (cdA g 19), .int v1] : List Value).toArray below meth c Qm g 3 33 [(0, .ref (cdA g 19)), (2, .int x2)] [] σ)
    (by
    intro x2 σ hB H locs ls hP hS hl
    refine lv_iload_n hx hb dX6_drop_33 rfl (lv_at hl 1 rfl) ?_
    refine lv_aload_n hx hb dX6_drop_34 rfl (lv_at hl 0 rfl) ?_
    refine cd_get X hP (C := RX6) (T := TX6) (N := 20) (ci := 6) (k := 19) (j := 2) (v := .int (σ.1 19 2)) inX6 (by decide) rfl rfl (by decide) wf_X6_59 rfl rfl dX6_drop_35 ?_
    refine lv_icmp_ge (tgt := 55) hx hb dX6_drop_38 (by decide) (fun c_6 => ?_) (fun c_6 => ?_)
    · have hB := hB.1 c_6
      refine lv_aload_n hx hb dX6_drop_55 rfl (lv_at hl 0 rfl) ?_
      refine cd_get X hP (C := RX6) (T := TX6) (N := 20) (ci := 6) (k := 19) (j := 2) (v := .int (σ.1 19 2)) inX6 (by decide) rfl rfl (by decide) wf_X6_59 rfl rfl dX6_drop_56 ?_
      rw [hQm]
      exact W.iret hx hb hr (fun t ht hW => ⟨⟨(σ.1 19 2), σ, rfl, hB, cd_hp ht hP⟩, hS.F ht⟩) hS.2.2 dX6_drop_59
    · have hB := hB.2 c_6
      refine lv_aload_n hx hb dX6_drop_41 rfl (lv_at hl 0 rfl) ?_
      refine lv_iload_n hx hb dX6_drop_42 rfl (lv_at hl 1 rfl) ?_
      refine lv_iconst (v := 1) hx hb dX6_drop_43 (by decide) ?_
      refine lv_iadd hx hb dX6_drop_44 ?_
      refine lv_iload_n hx hb dX6_drop_45 rfl (lv_at hl 1 rfl) ?_
      refine cd_cv (cd_runV (As := [.int (x2 + (1 : Int32)), .int x2]) (rest := []) (σ := σ) (k := 19) (ci := 6) X wm_X6_72 (by decide) rfl rfl rfl (c_X6_copy l g (x2 + (1 : Int32)) x2 σ _ hB _) hP hS rfl rfl hl.1 (Nat.le_of_ble_eq_true rfl) ⟨Nat.le_of_ble_eq_true rfl, Nat.le_of_ble_eq_true rfl⟩ ⟨Nat.zero_le _, Nat.zero_le _⟩ dX6_drop_46) hS (fun σ_8 H locs hB hP hS => ?_)
      obtain ⟨x2_9, ex2_9⟩ : ∃ z : Int32, z = x2 + 1 := ⟨_, rfl⟩
      have hB := hB x2_9 ex2_9
      refine lv_iinc (v := x2_9) (lv' := [(2, .int x2_9), (0, .ref (cdA g 19))]) hx hb dX6_drop_49 hl (k := 1) rfl (by rw [ex2_9]; rfl) (by decide) rfl (fun ls hl => ?_)
      refine lv_goto (tgt := 33) hx hb dX6_drop_52 (by decide) ?_
      exact hB _ _ _ hP hS (lv_sub hl [1, 0] rfl))
  refine lv_aload_n hx hb dX6_drop_0 rfl (lv_at hl 0 rfl) ?_
  refine lv_iload_n hx hb dX6_drop_1 rfl (lv_at hl 1 rfl) ?_
  refine cd_ci (cd_runV (As := [.int v1]) (rest := []) (σ := σ) (k := 19) (ci := 6) X wm_X6_65 (by decide) rfl rfl rfl (c_X6_isHead l g v1 σ _ hB _) hP hS rfl rfl hl.1 (Nat.le_of_ble_eq_true rfl) ⟨Nat.le_of_ble_eq_true rfl, Nat.le_of_ble_eq_true rfl⟩ ⟨Nat.zero_le _, Nat.zero_le _⟩ dX6_drop_2) hS (fun r_1 σ_2 H locs hB hP hS => ?_)
  obtain ⟨eσ_2, hB⟩ := hB
  rw [eσ_2] at hP
  refine lv_if_ne (tgt := 11) hx hb dX6_drop_5 (by decide) (fun c_3 => ?_) (fun c_3 => ?_)
  · have hB := hB.1 c_3
    refine lv_aload_n hx hb dX6_drop_11 rfl (lv_at hl 0 rfl) ?_
    refine lv_dup hx hb dX6_drop_12 rfl ?_
    refine cd_get X hP (C := RX6) (T := TX6) (N := 20) (ci := 6) (k := 19) (j := 2) (v := .int (σ.1 19 2)) inX6 (by decide) rfl rfl (by decide) wf_X6_59 rfl rfl dX6_drop_13 ?_
    refine lv_iconst (v := 1) hx hb dX6_drop_16 (by decide) ?_
    refine lv_isub hx hb dX6_drop_17 ?_
    refine cd_put X hP hS (C := RX6) (T := TX6) (N := 20) (ci := 6) (k := 19) (j := 2) (v := .int ((σ.1 19 2) - (1 : Int32))) (σ' := cdU σ 19 2 ((σ.1 19 2) - (1 : Int32))) inX6 tyX6 tyX6_ok nmX6 (by decide) rfl rfl (by decide) wf_X6_59 rfl rfl (tyX6_ok 2 (by decide)) rfl rfl (Nat.le_of_ble_eq_true rfl) (cdW_U (by decide) rfl) dX6_drop_18 (fun H locs hP hS => ?_)
    obtain ⟨σ_4, eσ_4⟩ : ∃ z : cdS, z = cdU σ 19 2 ((σ.1 19 2) - (1 : Int32)) := ⟨_, rfl⟩
    rw [← eσ_4] at hP
    have hB := hB σ_4 eσ_4
    refine lv_aload_n hx hb dX6_drop_21 rfl (lv_at hl 0 rfl) ?_
    refine lv_dup hx hb dX6_drop_22 rfl ?_
    refine cd_get X hP (C := RX6) (T := TX6) (N := 20) (ci := 6) (k := 19) (j := 7) (v := .int (σ_4.1 19 7)) inX6 (by decide) rfl rfl (by decide) wf_X6_69 rfl rfl dX6_drop_23 ?_
    refine lv_iconst (v := 1) hx hb dX6_drop_26 (by decide) ?_
    refine lv_iadd hx hb dX6_drop_27 ?_
    refine cd_put X hP hS (C := RX6) (T := TX6) (N := 20) (ci := 6) (k := 19) (j := 7) (v := .int ((σ_4.1 19 7) + (1 : Int32))) (σ' := cdU σ_4 19 7 ((σ_4.1 19 7) + (1 : Int32))) inX6 tyX6 tyX6_ok nmX6 (by decide) rfl rfl (by decide) wf_X6_69 rfl rfl (tyX6_ok 7 (by decide)) rfl rfl (Nat.le_of_ble_eq_true rfl) (cdW_U (by decide) rfl) dX6_drop_28 (fun H locs hP hS => ?_)
    obtain ⟨σ_5, eσ_5⟩ : ∃ z : cdS, z = cdU σ_4 19 7 ((σ_4.1 19 7) + (1 : Int32)) := ⟨_, rfl⟩
    rw [← eσ_5] at hP
    have hB := hB σ_5 eσ_5
    refine lv_iload_n hx hb dX6_drop_31 rfl (lv_at hl 1 rfl) ?_
    refine lv_istore_n (lv' := [(2, .int v1), (0, .ref (cdA g 19)), (1, .int v1)]) hx hb dX6_drop_32 rfl hl (by decide) rfl (fun ls hl => ?_)
    exact hB _ _ _ hP hS (lv_sub hl [1, 0] rfl)
  · have hB := hB.2 c_3
    refine lv_ldc (v := -1000002) hx hb hown (hts _ wc_X6_68) dX6_drop_8 ?_
    rw [hQm]
    exact W.iret hx hb hr (fun t ht hW => ⟨⟨(-1000002 : Int32), σ, rfl, hB, cd_hp ht hP⟩, hS.F ht⟩) hS.2.2 dX6_drop_10
def wp_X6_takes (v1 : Int32) (σ : cdS) (Q : Int32 → cdS → Prop) : Prop :=
  ∀ (P35 : cdS → Prop) (P67 : cdS → Prop) (P68 : Int32 → cdS → Prop) (P88 : Int32 → cdS → Prop) (P92 : Int32 → Int32 → cdS → Prop) (P109 : Int32 → Int32 → Int32 → cdS → Prop) (P126 : Int32 → Int32 → cdS → Prop) (P160 : Int32 → Int32 → cdS → Prop) (P167 : cdS → Prop) (P168 : Int32 → cdS → Prop) (P183 : Int32 → Int32 → Int32 → cdS → Prop),
    (∀  (σ : cdS), (
    P68 (0 : Int32) σ) → P35 σ) →
    (∀  (σ : cdS), (
    P68 (0 : Int32) σ) → P67 σ) →
    (∀ (t0 : Int32) (σ : cdS), (
    ((¬ (σ.1 19 10) = 0 →
    P88 t0 σ) ∧
    ((σ.1 19 10) = 0 →
    ((t0 = 0 →
    P88 t0 σ) ∧
    (¬ (t0 = 0) →
    P92 t0 (σ.1 19 8) σ))))) → P68 t0 σ) →
    (∀ (x2 : Int32) (σ : cdS), (
    P92 x2 (σ.1 19 10) σ) → P88 x2 σ) →
    (∀ (x2 : Int32) (t0 : Int32) (σ : cdS), (
    ∀ σ_15 : cdS, σ_15 = cdU σ 19 10 t0 →
    ((x2 = 0 →
    P109 x2 (0 : Int32) (σ_15.1 19 9) σ_15) ∧
    (¬ (x2 = 0) →
    P109 x2 (1 : Int32) (σ_15.1 19 9) σ_15))) → P92 x2 t0 σ) →
    (∀ (x2 : Int32) (t0 : Int32) (t1 : Int32) (σ : cdS), (
    ∀ σ_19 : cdS, σ_19 = cdU σ 19 9 (t1 + t0) →
    ((x2 = 0 →
    P126 x2 (σ_19.1 19 8) σ_19) ∧
    (¬ (x2 = 0) →
    P126 x2 (0 : Int32) σ_19))) → P109 x2 t0 t1 σ) →
    (∀ (x2 : Int32) (t0 : Int32) (σ : cdS), (
    ∀ σ_21 : cdS, σ_21 = cdU σ 19 8 t0 →
    cdb x2 ∧ Q x2 σ_21) → P126 x2 t0 σ) →
    (∀ (t0 : Int32) (t1 : Int32) (σ : cdS), (
    ((t0 ≤ t1 →
    P167 σ) ∧
    (¬ (t0 ≤ t1) →
    P168 (1 : Int32) σ))) → P160 t0 t1 σ) →
    (∀  (σ : cdS), (
    P168 (0 : Int32) σ) → P167 σ) →
    (∀ (t0 : Int32) (σ : cdS), (
    ((t0 = 0 →
    P183 t0 (0 : Int32) (σ.1 19 8) σ) ∧
    (¬ (t0 = 0) →
    P183 t0 (1 : Int32) (σ.1 19 8) σ))) → P168 t0 σ) →
    (∀ (x2 : Int32) (t0 : Int32) (t1 : Int32) (σ : cdS), (
    ∀ σ_17 : cdS, σ_17 = cdU σ 19 8 (t1 + t0) →
    cdb x2 ∧ Q x2 σ_17) → P183 x2 t0 t1 σ) →
    
    ((¬ v1 = (47 : Int32) →
    wp_X6_depthOf v1 σ (fun r_2 => 
    ((r_2 = (-1000001 : Int32) →
    P167 σ) ∧
    (¬ (r_2 = (-1000001 : Int32)) →
    ((¬ (σ.1 19 10) = 0 →
    P160 (σ.1 19 10) (σ.1 19 8) σ) ∧
    ((σ.1 19 10) = 0 →
    P160 (7 : Int32) (σ.1 19 8) σ)))))) ∧
    (v1 = (47 : Int32) →
    ((¬ (σ.1 19 10) = 0 →
    ((¬ (σ.1 19 8) = (σ.1 19 10) →
    P67 σ) ∧
    ((σ.1 19 8) = (σ.1 19 10) →
    (((σ.1 19 10) ≤ ((σ.1 19 9) + (1 : Int32)) →
    P67 σ) ∧
    (¬ ((σ.1 19 10) ≤ ((σ.1 19 9) + (1 : Int32))) →
    P68 (1 : Int32) σ))))) ∧
    ((σ.1 19 10) = 0 →
    (((σ.1 19 8) ≤ (2 : Int32) →
    P35 σ) ∧
    (¬ ((σ.1 19 8) ≤ (2 : Int32)) →
    ((¬ (cdm (σ.1 19 8) (2 : Int32)) = (1 : Int32) →
    P35 σ) ∧
    ((cdm (σ.1 19 8) (2 : Int32)) = (1 : Int32) →
    P68 (1 : Int32) σ))))))))
set_option maxHeartbeats 4000000 in
set_option maxRecDepth 100000 in
theorem c_X6_takes (l : Launch) (g : cdG) (v1 : Int32) (σ : cdS) (Q : Int32 → cdS → Prop) (hwp : wp_X6_takes v1 σ Q) : cdCi l g yX6_takes cX6_takes 3 (some .boolean) 2 42 [.ref (cdA g 19), .int v1] σ Q := by
  intro sz
  refine Met.ofW (cc := cX6_takes) (maxL := 3) (ret := (some .boolean)) (by decide) rfl ?_
  intro p e s m args below meth c s₁ B hml hv
  obtain ⟨rfl, hsz, hP, hK, hdi, hV⟩ := hv
  subst hsz
  have hx := B.exec
  have hb := B.bytes
  have hr := B.returns
  have hlocks := B.notSynchronized
  have hown : s.vm.findClass RX6 = some m.cls := findClass_of_methodNamed B.named
  have hts : ∀ w ∈ cdL, w.before _ s = true := fun w hw => atoms_spec (ws := cdWs yX6_takes cX6_takes 3 (some .boolean)) B.pre w (List.mem_cons_of_mem _ hw)
  have X : cdX p s m _ c cX6_takes 3 RX6 g := ⟨hx, hb, hml, hown, hts, hK, hdi, hV⟩
  have hS : va_S (cdZ g s.heap.size) s.heap s.heap [] := va_S.rf
  have hl := lv_entry ([.ref (cdA g 19), .int v1]) (n := 3) (Nat.le_of_ble_eq_true rfl)
  rw [lg_entry_eq]
  generalize (lg_sl ([.ref (cdA g 19), .int v1]) ++ List.replicate (3 - (lg_sl ([.ref (cdA g 19), .int v1])).length) Slot.unset).toArray = ls at hl ⊢
  have hl : lv_has ls 3 [(0, .ref (cdA g 19)), (1, .int v1)] := hl
  obtain ⟨Qm, hQm⟩ : ∃ z, z = MQ below (va_Qi Q (fun σ' t => va_P (cdD g) vwCl (cdW g σ') t.heap) (cdZ g s.heap.size)) ([.ref (cdA g 19), .int v1] : List Value).toArray s 0 0 (cdZ g s.heap.size) := ⟨_, rfl⟩
  rw [← hQm]
  have hB := hwp (fun  (σ : cdS) => cdCut p l e (headSpec (cdWs yX6_takes cX6_takes 3 (some .boolean)) (cdRm 2 42)).room s m ([.ref (cdA g 19), .int v1] : List Value).toArray below meth c Qm g 3 35 [(0, .ref (cdA g 19))] [] σ)
    (fun  (σ : cdS) => cdCut p l e (headSpec (cdWs yX6_takes cX6_takes 3 (some .boolean)) (cdRm 2 42)).room s m ([.ref (cdA g 19), .int v1] : List Value).toArray below meth c Qm g 3 67 [(0, .ref (cdA g 19))] [] σ)
    (fun (t0 : Int32) (σ : cdS) => cdCut p l e (headSpec (cdWs yX6_takes cX6_takes 3 (some .boolean)) (cdRm 2 42)).room s m ([.ref (cdA g 19), .int v1] : List Value).toArray below meth c Qm g 3 68 [(0, .ref (cdA g 19))] [.int t0] σ)
    (fun (x2 : Int32) (σ : cdS) => cdCut p l e (headSpec (cdWs yX6_takes cX6_takes 3 (some .boolean)) (cdRm 2 42)).room s m ([.ref (cdA g 19), .int v1] : List Value).toArray below meth c Qm g 3 88 [(0, .ref (cdA g 19)), (2, .int x2)] [.ref (cdA g 19)] σ)
    (fun (x2 : Int32) (t0 : Int32) (σ : cdS) => cdCut p l e (headSpec (cdWs yX6_takes cX6_takes 3 (some .boolean)) (cdRm 2 42)).room s m ([.ref (cdA g 19), .int v1] : List Value).toArray below meth c Qm g 3 92 [(0, .ref (cdA g 19)), (2, .int x2)] [.int t0, .ref (cdA g 19)] σ)
    (fun (x2 : Int32) (t0 : Int32) (t1 : Int32) (σ : cdS) => cdCut p l e (headSpec (cdWs yX6_takes cX6_takes 3 (some .boolean)) (cdRm 2 42)).room s m ([.ref (cdA g 19), .int v1] : List Value).toArray below meth c Qm g 3 109 [(0, .ref (cdA g 19)), (2, .int x2)] [.int t0, .int t1, .ref (cdA g 19)] σ)
    (fun (x2 : Int32) (t0 : Int32) (σ : cdS) => cdCut p l e (headSpec (cdWs yX6_takes cX6_takes 3 (some .boolean)) (cdRm 2 42)).room s m ([.ref (cdA g 19), .int v1] : List Value).toArray below meth c Qm g 3 126 [(2, .int x2)] [.int t0, .ref (cdA g 19)] σ)
    (fun (t0 : Int32) (t1 : Int32) (σ : cdS) => cdCut p l e (headSpec (cdWs yX6_takes cX6_takes 3 (some .boolean)) (cdRm 2 42)).room s m ([.ref (cdA g 19), .int v1] : List Value).toArray below meth c Qm g 3 160 [(0, .ref (cdA g 19))] [.int t0, .int t1] σ)
    (fun  (σ : cdS) => cdCut p l e (headSpec (cdWs yX6_takes cX6_takes 3 (some .boolean)) (cdRm 2 42)).room s m ([.ref (cdA g 19), .int v1] : List Value).toArray below meth c Qm g 3 167 [(0, .ref (cdA g 19))] [] σ)
    (fun (t0 : Int32) (σ : cdS) => cdCut p l e (headSpec (cdWs yX6_takes cX6_takes 3 (some .boolean)) (cdRm 2 42)).room s m ([.ref (cdA g 19), .int v1] : List Value).toArray below meth c Qm g 3 168 [(0, .ref (cdA g 19))] [.int t0] σ)
    (fun (x2 : Int32) (t0 : Int32) (t1 : Int32) (σ : cdS) => cdCut p l e (headSpec (cdWs yX6_takes cX6_takes 3 (some .boolean)) (cdRm 2 42)).room s m ([.ref (cdA g 19), .int v1] : List Value).toArray below meth c Qm g 3 183 [(2, .int x2)] [.int t0, .int t1, .ref (cdA g 19)] σ)
    (by
    intro  σ hB H locs ls hP hS hl
    refine lv_iconst (v := 0) hx hb dX6_takes_35 (by decide) ?_
    refine lv_goto (tgt := 68) hx hb dX6_takes_36 (by decide) ?_
    exact hB _ _ _ hP hS (lv_sub hl [0] rfl))
    (by
    intro  σ hB H locs ls hP hS hl
    refine lv_iconst (v := 0) hx hb dX6_takes_67 (by decide) ?_
    exact hB _ _ _ hP hS (lv_sub hl [0] rfl))
    (by
    intro t0 σ hB H locs ls hP hS hl
    refine lv_istore_n (lv' := [(2, .int t0), (0, .ref (cdA g 19))]) hx hb dX6_takes_68 rfl hl (by decide) rfl (fun ls hl => ?_)
    refine lv_aload_n hx hb dX6_takes_69 rfl (lv_at hl 1 rfl) ?_
    refine lv_aload_n hx hb dX6_takes_70 rfl (lv_at hl 1 rfl) ?_
    refine cd_get X hP (C := RX6) (T := TX6) (N := 20) (ci := 6) (k := 19) (j := 10) (v := .int (σ.1 19 10)) inX6 (by decide) rfl rfl (by decide) wf_X6_33 rfl rfl dX6_takes_71 ?_
    refine lv_if_ne (tgt := 88) hx hb dX6_takes_74 (by decide) (fun c_12 => ?_) (fun c_12 => ?_)
    · have hB := hB.1 c_12
      exact hB _ _ _ hP hS (lv_sub hl [1, 0] rfl)
    · have hB := hB.2 c_12
      refine lv_iload_n hx hb dX6_takes_77 rfl (lv_at hl 0 rfl) ?_
      refine lv_if_eq (tgt := 88) hx hb dX6_takes_78 (by decide) (fun c_13 => ?_) (fun c_13 => ?_)
      · have hB := hB.1 c_13
        exact hB _ _ _ hP hS (lv_sub hl [1, 0] rfl)
      · have hB := hB.2 c_13
        refine lv_aload_n hx hb dX6_takes_81 rfl (lv_at hl 1 rfl) ?_
        refine cd_get X hP (C := RX6) (T := TX6) (N := 20) (ci := 6) (k := 19) (j := 8) (v := .int (σ.1 19 8)) inX6 (by decide) rfl rfl (by decide) wf_X6_36 rfl rfl dX6_takes_82 ?_
        refine lv_goto (tgt := 92) hx hb dX6_takes_85 (by decide) ?_
        exact hB _ _ _ hP hS (lv_sub hl [1, 0] rfl))
    (by
    intro x2 σ hB H locs ls hP hS hl
    refine lv_aload_n hx hb dX6_takes_88 rfl (lv_at hl 0 rfl) ?_
    refine cd_get X hP (C := RX6) (T := TX6) (N := 20) (ci := 6) (k := 19) (j := 10) (v := .int (σ.1 19 10)) inX6 (by decide) rfl rfl (by decide) wf_X6_33 rfl rfl dX6_takes_89 ?_
    exact hB _ _ _ hP hS (lv_sub hl [0, 1] rfl))
    (by
    intro x2 t0 σ hB H locs ls hP hS hl
    refine cd_put X hP hS (C := RX6) (T := TX6) (N := 20) (ci := 6) (k := 19) (j := 10) (v := .int t0) (σ' := cdU σ 19 10 t0) inX6 tyX6 tyX6_ok nmX6 (by decide) rfl rfl (by decide) wf_X6_33 rfl rfl (tyX6_ok 10 (by decide)) rfl rfl (Nat.le_of_ble_eq_true rfl) (cdW_U (by decide) rfl) dX6_takes_92 (fun H locs hP hS => ?_)
    obtain ⟨σ_15, eσ_15⟩ : ∃ z : cdS, z = cdU σ 19 10 t0 := ⟨_, rfl⟩
    rw [← eσ_15] at hP
    have hB := hB σ_15 eσ_15
    refine lv_aload_n hx hb dX6_takes_95 rfl (lv_at hl 0 rfl) ?_
    refine lv_dup hx hb dX6_takes_96 rfl ?_
    refine cd_get X hP (C := RX6) (T := TX6) (N := 20) (ci := 6) (k := 19) (j := 9) (v := .int (σ_15.1 19 9)) inX6 (by decide) rfl rfl (by decide) wf_X6_39 rfl rfl dX6_takes_97 ?_
    refine lv_iload_n hx hb dX6_takes_100 rfl (lv_at hl 1 rfl) ?_
    refine lv_if_eq (tgt := 108) hx hb dX6_takes_101 (by decide) (fun c_16 => ?_) (fun c_16 => ?_)
    · have hB := hB.1 c_16
      refine lv_iconst (v := 0) hx hb dX6_takes_108 (by decide) ?_
      exact hB _ _ _ hP hS (lv_sub hl [0, 1] rfl)
    · have hB := hB.2 c_16
      refine lv_iconst (v := 1) hx hb dX6_takes_104 (by decide) ?_
      refine lv_goto (tgt := 109) hx hb dX6_takes_105 (by decide) ?_
      exact hB _ _ _ hP hS (lv_sub hl [0, 1] rfl))
    (by
    intro x2 t0 t1 σ hB H locs ls hP hS hl
    refine lv_iadd hx hb dX6_takes_109 ?_
    refine cd_put X hP hS (C := RX6) (T := TX6) (N := 20) (ci := 6) (k := 19) (j := 9) (v := .int (t1 + t0)) (σ' := cdU σ 19 9 (t1 + t0)) inX6 tyX6 tyX6_ok nmX6 (by decide) rfl rfl (by decide) wf_X6_39 rfl rfl (tyX6_ok 9 (by decide)) rfl rfl (Nat.le_of_ble_eq_true rfl) (cdW_U (by decide) rfl) dX6_takes_110 (fun H locs hP hS => ?_)
    obtain ⟨σ_19, eσ_19⟩ : ∃ z : cdS, z = cdU σ 19 9 (t1 + t0) := ⟨_, rfl⟩
    rw [← eσ_19] at hP
    have hB := hB σ_19 eσ_19
    refine lv_aload_n hx hb dX6_takes_113 rfl (lv_at hl 0 rfl) ?_
    refine lv_iload_n hx hb dX6_takes_114 rfl (lv_at hl 1 rfl) ?_
    refine lv_if_eq (tgt := 122) hx hb dX6_takes_115 (by decide) (fun c_20 => ?_) (fun c_20 => ?_)
    · have hB := hB.1 c_20
      refine lv_aload_n hx hb dX6_takes_122 rfl (lv_at hl 0 rfl) ?_
      refine cd_get X hP (C := RX6) (T := TX6) (N := 20) (ci := 6) (k := 19) (j := 8) (v := .int (σ_19.1 19 8)) inX6 (by decide) rfl rfl (by decide) wf_X6_36 rfl rfl dX6_takes_123 ?_
      exact hB _ _ _ hP hS (lv_sub hl [1] rfl)
    · have hB := hB.2 c_20
      refine lv_iconst (v := 0) hx hb dX6_takes_118 (by decide) ?_
      refine lv_goto (tgt := 126) hx hb dX6_takes_119 (by decide) ?_
      exact hB _ _ _ hP hS (lv_sub hl [1] rfl))
    (by
    intro x2 t0 σ hB H locs ls hP hS hl
    refine cd_put X hP hS (C := RX6) (T := TX6) (N := 20) (ci := 6) (k := 19) (j := 8) (v := .int t0) (σ' := cdU σ 19 8 t0) inX6 tyX6 tyX6_ok nmX6 (by decide) rfl rfl (by decide) wf_X6_36 rfl rfl (tyX6_ok 8 (by decide)) rfl rfl (Nat.le_of_ble_eq_true rfl) (cdW_U (by decide) rfl) dX6_takes_126 (fun H locs hP hS => ?_)
    obtain ⟨σ_21, eσ_21⟩ : ∃ z : cdS, z = cdU σ 19 8 t0 := ⟨_, rfl⟩
    rw [← eσ_21] at hP
    have hB := hB σ_21 eσ_21
    refine lv_iload_n hx hb dX6_takes_129 rfl (lv_at hl 0 rfl) ?_
    obtain ⟨z_22, hB⟩ := hB
    rw [hQm]
    exact W.zret hx hb hr (cdb_n z_22) (fun t ht hW => ⟨⟨x2, σ_21, rfl, hB, cd_hp ht hP⟩, hS.F ht⟩) hS.2.2 dX6_takes_130)
    (by
    intro t0 t1 σ hB H locs ls hP hS hl
    refine lv_icmp_ge (tgt := 167) hx hb dX6_takes_160 (by decide) (fun c_11 => ?_) (fun c_11 => ?_)
    · have hB := hB.1 c_11
      exact hB _ _ _ hP hS (lv_sub hl [0] rfl)
    · have hB := hB.2 c_11
      refine lv_iconst (v := 1) hx hb dX6_takes_163 (by decide) ?_
      refine lv_goto (tgt := 168) hx hb dX6_takes_164 (by decide) ?_
      exact hB _ _ _ hP hS (lv_sub hl [0] rfl))
    (by
    intro  σ hB H locs ls hP hS hl
    refine lv_iconst (v := 0) hx hb dX6_takes_167 (by decide) ?_
    exact hB _ _ _ hP hS (lv_sub hl [0] rfl))
    (by
    intro t0 σ hB H locs ls hP hS hl
    refine lv_istore_n (lv' := [(2, .int t0), (0, .ref (cdA g 19))]) hx hb dX6_takes_168 rfl hl (by decide) rfl (fun ls hl => ?_)
    refine lv_aload_n hx hb dX6_takes_169 rfl (lv_at hl 1 rfl) ?_
    refine lv_dup hx hb dX6_takes_170 rfl ?_
    refine cd_get X hP (C := RX6) (T := TX6) (N := 20) (ci := 6) (k := 19) (j := 8) (v := .int (σ.1 19 8)) inX6 (by decide) rfl rfl (by decide) wf_X6_36 rfl rfl dX6_takes_171 ?_
    refine lv_iload_n hx hb dX6_takes_174 rfl (lv_at hl 0 rfl) ?_
    refine lv_if_eq (tgt := 182) hx hb dX6_takes_175 (by decide) (fun c_14 => ?_) (fun c_14 => ?_)
    · have hB := hB.1 c_14
      refine lv_iconst (v := 0) hx hb dX6_takes_182 (by decide) ?_
      exact hB _ _ _ hP hS (lv_sub hl [0] rfl)
    · have hB := hB.2 c_14
      refine lv_iconst (v := 1) hx hb dX6_takes_178 (by decide) ?_
      refine lv_goto (tgt := 183) hx hb dX6_takes_179 (by decide) ?_
      exact hB _ _ _ hP hS (lv_sub hl [0] rfl))
    (by
    intro x2 t0 t1 σ hB H locs ls hP hS hl
    refine lv_iadd hx hb dX6_takes_183 ?_
    refine cd_put X hP hS (C := RX6) (T := TX6) (N := 20) (ci := 6) (k := 19) (j := 8) (v := .int (t1 + t0)) (σ' := cdU σ 19 8 (t1 + t0)) inX6 tyX6 tyX6_ok nmX6 (by decide) rfl rfl (by decide) wf_X6_36 rfl rfl (tyX6_ok 8 (by decide)) rfl rfl (Nat.le_of_ble_eq_true rfl) (cdW_U (by decide) rfl) dX6_takes_184 (fun H locs hP hS => ?_)
    obtain ⟨σ_17, eσ_17⟩ : ∃ z : cdS, z = cdU σ 19 8 (t1 + t0) := ⟨_, rfl⟩
    rw [← eσ_17] at hP
    have hB := hB σ_17 eσ_17
    refine lv_iload_n hx hb dX6_takes_187 rfl (lv_at hl 0 rfl) ?_
    obtain ⟨z_18, hB⟩ := hB
    rw [hQm]
    exact W.zret hx hb hr (cdb_n z_18) (fun t ht hW => ⟨⟨x2, σ_17, rfl, hB, cd_hp ht hP⟩, hS.F ht⟩) hS.2.2 dX6_takes_188)
  refine lv_iload_n hx hb dX6_takes_0 rfl (lv_at hl 1 rfl) ?_
  refine lv_bipush (v := 47) hx hb dX6_takes_1 (by decide) ?_
  refine lv_icmp_ne (tgt := 131) hx hb dX6_takes_3 (by decide) (fun c_1 => ?_) (fun c_1 => ?_)
  · have hB := hB.1 c_1
    refine lv_iload_n hx hb dX6_takes_131 rfl (lv_at hl 1 rfl) ?_
    refine cd_ci (cd_runS (As := [.int v1]) (rest := []) (σ := σ) X wm_X6_42 (c_X6_depthOf l g v1 σ _ hB _) hP hS rfl rfl hl.1 (Nat.le_of_ble_eq_true rfl) ⟨Nat.le_of_ble_eq_true rfl, Nat.le_of_ble_eq_true rfl⟩ ⟨Nat.zero_le _, Nat.zero_le _⟩ dX6_takes_132) hS (fun r_2 σ_3 H locs hB hP hS => ?_)
    obtain ⟨eσ_3, hB⟩ := hB
    rw [eσ_3] at hP
    refine lv_ldc (v := -1000001) hx hb hown (hts _ wc_X6_32) dX6_takes_135 ?_
    refine lv_icmp_eq (tgt := 167) hx hb dX6_takes_137 (by decide) (fun c_4 => ?_) (fun c_4 => ?_)
    · have hB := hB.1 c_4
      exact hB _ _ _ hP hS (lv_sub hl [0] rfl)
    · have hB := hB.2 c_4
      refine lv_aload_n hx hb dX6_takes_140 rfl (lv_at hl 0 rfl) ?_
      refine cd_get X hP (C := RX6) (T := TX6) (N := 20) (ci := 6) (k := 19) (j := 8) (v := .int (σ.1 19 8)) inX6 (by decide) rfl rfl (by decide) wf_X6_36 rfl rfl dX6_takes_141 ?_
      refine lv_aload_n hx hb dX6_takes_144 rfl (lv_at hl 0 rfl) ?_
      refine cd_get X hP (C := RX6) (T := TX6) (N := 20) (ci := 6) (k := 19) (j := 10) (v := .int (σ.1 19 10)) inX6 (by decide) rfl rfl (by decide) wf_X6_33 rfl rfl dX6_takes_145 ?_
      refine lv_if_ne (tgt := 156) hx hb dX6_takes_148 (by decide) (fun c_5 => ?_) (fun c_5 => ?_)
      · have hB := hB.1 c_5
        refine lv_aload_n hx hb dX6_takes_156 rfl (lv_at hl 0 rfl) ?_
        refine cd_get X hP (C := RX6) (T := TX6) (N := 20) (ci := 6) (k := 19) (j := 10) (v := .int (σ.1 19 10)) inX6 (by decide) rfl rfl (by decide) wf_X6_33 rfl rfl dX6_takes_157 ?_
        exact hB _ _ _ hP hS (lv_sub hl [0] rfl)
      · have hB := hB.2 c_5
        refine lv_bipush (v := 7) hx hb dX6_takes_151 (by decide) ?_
        refine lv_goto (tgt := 160) hx hb dX6_takes_153 (by decide) ?_
        exact hB _ _ _ hP hS (lv_sub hl [0] rfl)
  · have hB := hB.2 c_1
    refine lv_aload_n hx hb dX6_takes_6 rfl (lv_at hl 0 rfl) ?_
    refine cd_get X hP (C := RX6) (T := TX6) (N := 20) (ci := 6) (k := 19) (j := 10) (v := .int (σ.1 19 10)) inX6 (by decide) rfl rfl (by decide) wf_X6_33 rfl rfl dX6_takes_7 ?_
    refine lv_if_ne (tgt := 39) hx hb dX6_takes_10 (by decide) (fun c_6 => ?_) (fun c_6 => ?_)
    · have hB := hB.1 c_6
      refine lv_aload_n hx hb dX6_takes_39 rfl (lv_at hl 0 rfl) ?_
      refine cd_get X hP (C := RX6) (T := TX6) (N := 20) (ci := 6) (k := 19) (j := 8) (v := .int (σ.1 19 8)) inX6 (by decide) rfl rfl (by decide) wf_X6_36 rfl rfl dX6_takes_40 ?_
      refine lv_aload_n hx hb dX6_takes_43 rfl (lv_at hl 0 rfl) ?_
      refine cd_get X hP (C := RX6) (T := TX6) (N := 20) (ci := 6) (k := 19) (j := 10) (v := .int (σ.1 19 10)) inX6 (by decide) rfl rfl (by decide) wf_X6_33 rfl rfl dX6_takes_44 ?_
      refine lv_icmp_ne (tgt := 67) hx hb dX6_takes_47 (by decide) (fun c_7 => ?_) (fun c_7 => ?_)
      · have hB := hB.1 c_7
        exact hB _ _ _ hP hS (lv_sub hl [0] rfl)
      · have hB := hB.2 c_7
        refine lv_aload_n hx hb dX6_takes_50 rfl (lv_at hl 0 rfl) ?_
        refine cd_get X hP (C := RX6) (T := TX6) (N := 20) (ci := 6) (k := 19) (j := 9) (v := .int (σ.1 19 9)) inX6 (by decide) rfl rfl (by decide) wf_X6_39 rfl rfl dX6_takes_51 ?_
        refine lv_iconst (v := 1) hx hb dX6_takes_54 (by decide) ?_
        refine lv_iadd hx hb dX6_takes_55 ?_
        refine lv_aload_n hx hb dX6_takes_56 rfl (lv_at hl 0 rfl) ?_
        refine cd_get X hP (C := RX6) (T := TX6) (N := 20) (ci := 6) (k := 19) (j := 10) (v := .int (σ.1 19 10)) inX6 (by decide) rfl rfl (by decide) wf_X6_33 rfl rfl dX6_takes_57 ?_
        refine lv_icmp_ge (tgt := 67) hx hb dX6_takes_60 (by decide) (fun c_8 => ?_) (fun c_8 => ?_)
        · have hB := hB.1 c_8
          exact hB _ _ _ hP hS (lv_sub hl [0] rfl)
        · have hB := hB.2 c_8
          refine lv_iconst (v := 1) hx hb dX6_takes_63 (by decide) ?_
          refine lv_goto (tgt := 68) hx hb dX6_takes_64 (by decide) ?_
          exact hB _ _ _ hP hS (lv_sub hl [0] rfl)
    · have hB := hB.2 c_6
      refine lv_aload_n hx hb dX6_takes_13 rfl (lv_at hl 0 rfl) ?_
      refine cd_get X hP (C := RX6) (T := TX6) (N := 20) (ci := 6) (k := 19) (j := 8) (v := .int (σ.1 19 8)) inX6 (by decide) rfl rfl (by decide) wf_X6_36 rfl rfl dX6_takes_14 ?_
      refine lv_iconst (v := 2) hx hb dX6_takes_17 (by decide) ?_
      refine lv_icmp_le (tgt := 35) hx hb dX6_takes_18 (by decide) (fun c_9 => ?_) (fun c_9 => ?_)
      · have hB := hB.1 c_9
        exact hB _ _ _ hP hS (lv_sub hl [0] rfl)
      · have hB := hB.2 c_9
        refine lv_aload_n hx hb dX6_takes_21 rfl (lv_at hl 0 rfl) ?_
        refine cd_get X hP (C := RX6) (T := TX6) (N := 20) (ci := 6) (k := 19) (j := 8) (v := .int (σ.1 19 8)) inX6 (by decide) rfl rfl (by decide) wf_X6_36 rfl rfl dX6_takes_22 ?_
        refine lv_iconst (v := 2) hx hb dX6_takes_25 (by decide) ?_
        refine lv_irem hx hb dX6_takes_26 (by decide) ?_
        refine lv_iconst (v := 1) hx hb dX6_takes_27 (by decide) ?_
        refine lv_icmp_ne (tgt := 35) hx hb dX6_takes_28 (by decide) (fun c_10 => ?_) (fun c_10 => ?_)
        · have hB := hB.1 c_10
          exact hB _ _ _ hP hS (lv_sub hl [0] rfl)
        · have hB := hB.2 c_10
          refine lv_iconst (v := 1) hx hb dX6_takes_31 (by decide) ?_
          refine lv_goto (tgt := 68) hx hb dX6_takes_32 (by decide) ?_
          exact hB _ _ _ hP hS (lv_sub hl [0] rfl)
def wp_X6_goAlong  (σ : cdS) (Q : Int32 → cdS → Prop) : Prop :=
  ∀ (P17 : Int32 → cdS → Prop),
    (∀ (x1 : Int32) (σ : cdS), (
    (((σ.1 19 0) ≤ x1 →
    Q x1 σ) ∧
    (¬ ((σ.1 19 0) ≤ x1) →
    vp_in x1 60 ∧
    wp_X6_takes (σ.1 20 (x1).toNatClampNeg) σ (fun r_6 σ_7 => 
    ((r_6 = 0 →
    Q x1 σ_7) ∧
    (¬ (r_6 = 0) →
    ∀ x1_9 : Int32, x1_9 = x1 + 1 →
    P17 x1_9 σ_7)))))) → P17 x1 σ) →
    
    ∀ σ_1 : cdS, σ_1 = cdU σ 19 8 (0 : Int32) →
    ∀ σ_2 : cdS, σ_2 = cdU σ_1 19 9 (0 : Int32) →
    ∀ σ_3 : cdS, σ_3 = cdU σ_2 19 10 (0 : Int32) →
    P17 (0 : Int32) σ_3
set_option maxHeartbeats 4000000 in
set_option maxRecDepth 100000 in
theorem c_X6_goAlong (l : Launch) (g : cdG)  (σ : cdS) (Q : Int32 → cdS → Prop) (hwp : wp_X6_goAlong  σ Q) : cdCi l g yX6_goAlong cX6_goAlong 2 (some .int) 3 64 [.ref (cdA g 19)] σ Q := by
  intro sz
  refine Met.ofW (cc := cX6_goAlong) (maxL := 2) (ret := (some .int)) (by decide) rfl ?_
  intro p e s m args below meth c s₁ B hml hv
  obtain ⟨rfl, hsz, hP, hK, hdi, hV⟩ := hv
  subst hsz
  have hx := B.exec
  have hb := B.bytes
  have hr := B.returns
  have hlocks := B.notSynchronized
  have hown : s.vm.findClass RX6 = some m.cls := findClass_of_methodNamed B.named
  have hts : ∀ w ∈ cdL, w.before _ s = true := fun w hw => atoms_spec (ws := cdWs yX6_goAlong cX6_goAlong 2 (some .int)) B.pre w (List.mem_cons_of_mem _ hw)
  have X : cdX p s m _ c cX6_goAlong 2 RX6 g := ⟨hx, hb, hml, hown, hts, hK, hdi, hV⟩
  have hS : va_S (cdZ g s.heap.size) s.heap s.heap [] := va_S.rf
  have hl := lv_entry ([.ref (cdA g 19)]) (n := 2) (Nat.le_of_ble_eq_true rfl)
  rw [lg_entry_eq]
  generalize (lg_sl ([.ref (cdA g 19)]) ++ List.replicate (2 - (lg_sl ([.ref (cdA g 19)])).length) Slot.unset).toArray = ls at hl ⊢
  have hl : lv_has ls 2 [(0, .ref (cdA g 19))] := hl
  obtain ⟨Qm, hQm⟩ : ∃ z, z = MQ below (va_Qi Q (fun σ' t => va_P (cdD g) vwCl (cdW g σ') t.heap) (cdZ g s.heap.size)) ([.ref (cdA g 19)] : List Value).toArray s 0 0 (cdZ g s.heap.size) := ⟨_, rfl⟩
  rw [← hQm]
  have hB := hwp (fun (x1 : Int32) (σ : cdS) => cdCut p l e (headSpec (cdWs yX6_goAlong cX6_goAlong 2 (some .int)) (cdRm 3 64)).room s m ([.ref (cdA g 19)] : List Value).toArray below meth c Qm g 2 17 [(0, .ref (cdA g 19)), (1, .int x1)] [] σ)
    (by
    intro x1 σ hB H locs ls hP hS hl
    refine lv_iload_n hx hb dX6_goAlong_17 rfl (lv_at hl 1 rfl) ?_
    refine lv_aload_n hx hb dX6_goAlong_18 rfl (lv_at hl 0 rfl) ?_
    refine cd_get X hP (C := RX6) (T := TX6) (N := 20) (ci := 6) (k := 19) (j := 0) (v := .int (σ.1 19 0)) inX6 (by decide) rfl rfl (by decide) wf_X6_27 rfl rfl dX6_goAlong_19 ?_
    refine lv_icmp_ge (tgt := 44) hx hb dX6_goAlong_22 (by decide) (fun c_4 => ?_) (fun c_4 => ?_)
    · have hB := hB.1 c_4
      refine lv_iload_n hx hb dX6_goAlong_44 rfl (lv_at hl 1 rfl) ?_
      rw [hQm]
      exact W.iret hx hb hr (fun t ht hW => ⟨⟨x1, σ, rfl, hB, cd_hp ht hP⟩, hS.F ht⟩) hS.2.2 dX6_goAlong_45
    · have hB := hB.2 c_4
      refine lv_aload_n hx hb dX6_goAlong_25 rfl (lv_at hl 0 rfl) ?_
      refine lv_aload_n hx hb dX6_goAlong_26 rfl (lv_at hl 0 rfl) ?_
      refine cd_get X hP (C := RX6) (T := TX6) (N := 20) (ci := 6) (k := 19) (j := 1) (v := .ref (cdA g 20)) inX6 (by decide) rfl rfl (by decide) wf_X6_7 rfl rfl dX6_goAlong_27 ?_
      refine lv_iload_n hx hb dX6_goAlong_30 rfl (lv_at hl 1 rfl) ?_
      obtain ⟨i_5, hB⟩ := hB
      refine cd_ald X hP (k := 20) (N := 60) (by decide) rfl i_5 dX6_goAlong_31 ?_
      refine cd_ci (cd_runV (As := [.int (σ.1 20 (x1).toNatClampNeg)]) (rest := []) (σ := σ) (k := 19) (ci := 6) X wm_X6_46 (by decide) rfl rfl rfl (c_X6_takes l g (σ.1 20 (x1).toNatClampNeg) σ _ hB _) hP hS rfl rfl hl.1 (Nat.le_of_ble_eq_true rfl) ⟨Nat.le_of_ble_eq_true rfl, Nat.le_of_ble_eq_true rfl⟩ ⟨Nat.zero_le _, Nat.zero_le _⟩ dX6_goAlong_32) hS (fun r_6 σ_7 H locs hB hP hS => ?_)
      refine lv_if_eq (tgt := 44) hx hb dX6_goAlong_35 (by decide) (fun c_8 => ?_) (fun c_8 => ?_)
      · have hB := hB.1 c_8
        refine lv_iload_n hx hb dX6_goAlong_44 rfl (lv_at hl 1 rfl) ?_
        rw [hQm]
        exact W.iret hx hb hr (fun t ht hW => ⟨⟨x1, σ_7, rfl, hB, cd_hp ht hP⟩, hS.F ht⟩) hS.2.2 dX6_goAlong_45
      · have hB := hB.2 c_8
        obtain ⟨x1_9, ex1_9⟩ : ∃ z : Int32, z = x1 + 1 := ⟨_, rfl⟩
        have hB := hB x1_9 ex1_9
        refine lv_iinc (v := x1_9) (lv' := [(1, .int x1_9), (0, .ref (cdA g 19))]) hx hb dX6_goAlong_38 hl (k := 1) rfl (by rw [ex1_9]; rfl) (by decide) rfl (fun ls hl => ?_)
        refine lv_goto (tgt := 17) hx hb dX6_goAlong_41 (by decide) ?_
        exact hB _ _ _ hP hS (lv_sub hl [1, 0] rfl))
  refine lv_aload_n hx hb dX6_goAlong_0 rfl (lv_at hl 0 rfl) ?_
  refine lv_iconst (v := 0) hx hb dX6_goAlong_1 (by decide) ?_
  refine cd_put X hP hS (C := RX6) (T := TX6) (N := 20) (ci := 6) (k := 19) (j := 8) (v := .int (0 : Int32)) (σ' := cdU σ 19 8 (0 : Int32)) inX6 tyX6 tyX6_ok nmX6 (by decide) rfl rfl (by decide) wf_X6_36 rfl rfl (tyX6_ok 8 (by decide)) rfl rfl (Nat.le_of_ble_eq_true rfl) (cdW_U (by decide) rfl) dX6_goAlong_2 (fun H locs hP hS => ?_)
  obtain ⟨σ_1, eσ_1⟩ : ∃ z : cdS, z = cdU σ 19 8 (0 : Int32) := ⟨_, rfl⟩
  rw [← eσ_1] at hP
  have hB := hB σ_1 eσ_1
  refine lv_aload_n hx hb dX6_goAlong_5 rfl (lv_at hl 0 rfl) ?_
  refine lv_iconst (v := 0) hx hb dX6_goAlong_6 (by decide) ?_
  refine cd_put X hP hS (C := RX6) (T := TX6) (N := 20) (ci := 6) (k := 19) (j := 9) (v := .int (0 : Int32)) (σ' := cdU σ_1 19 9 (0 : Int32)) inX6 tyX6 tyX6_ok nmX6 (by decide) rfl rfl (by decide) wf_X6_39 rfl rfl (tyX6_ok 9 (by decide)) rfl rfl (Nat.le_of_ble_eq_true rfl) (cdW_U (by decide) rfl) dX6_goAlong_7 (fun H locs hP hS => ?_)
  obtain ⟨σ_2, eσ_2⟩ : ∃ z : cdS, z = cdU σ_1 19 9 (0 : Int32) := ⟨_, rfl⟩
  rw [← eσ_2] at hP
  have hB := hB σ_2 eσ_2
  refine lv_aload_n hx hb dX6_goAlong_10 rfl (lv_at hl 0 rfl) ?_
  refine lv_iconst (v := 0) hx hb dX6_goAlong_11 (by decide) ?_
  refine cd_put X hP hS (C := RX6) (T := TX6) (N := 20) (ci := 6) (k := 19) (j := 10) (v := .int (0 : Int32)) (σ' := cdU σ_2 19 10 (0 : Int32)) inX6 tyX6 tyX6_ok nmX6 (by decide) rfl rfl (by decide) wf_X6_33 rfl rfl (tyX6_ok 10 (by decide)) rfl rfl (Nat.le_of_ble_eq_true rfl) (cdW_U (by decide) rfl) dX6_goAlong_12 (fun H locs hP hS => ?_)
  obtain ⟨σ_3, eσ_3⟩ : ∃ z : cdS, z = cdU σ_2 19 10 (0 : Int32) := ⟨_, rfl⟩
  rw [← eσ_3] at hP
  have hB := hB σ_3 eσ_3
  refine lv_iconst (v := 0) hx hb dX6_goAlong_15 (by decide) ?_
  refine lv_istore_n (lv' := [(1, .int (0 : Int32)), (0, .ref (cdA g 19))]) hx hb dX6_goAlong_16 rfl hl (by decide) rfl (fun ls hl => ?_)
  exact hB _ _ _ hP hS (lv_sub hl [1, 0] rfl)
def wp_X6_fault  (σ : cdS) (Q : Int32 → cdS → Prop) : Prop :=
  
    wp_X6_goAlong σ (fun r_1 σ_2 => 
    Q r_1 σ_2)
set_option maxHeartbeats 4000000 in
set_option maxRecDepth 100000 in
theorem c_X6_fault (l : Launch) (g : cdG)  (σ : cdS) (Q : Int32 → cdS → Prop) (hwp : wp_X6_fault  σ Q) : cdCi l g yX6_fault cX6_fault 1 (some .int) 4 85 [.ref (cdA g 19)] σ Q := by
  intro sz
  refine Met.ofW (cc := cX6_fault) (maxL := 1) (ret := (some .int)) (by decide) rfl ?_
  intro p e s m args below meth c s₁ B hml hv
  obtain ⟨rfl, hsz, hP, hK, hdi, hV⟩ := hv
  subst hsz
  have hx := B.exec
  have hb := B.bytes
  have hr := B.returns
  have hlocks := B.notSynchronized
  have hown : s.vm.findClass RX6 = some m.cls := findClass_of_methodNamed B.named
  have hts : ∀ w ∈ cdL, w.before _ s = true := fun w hw => atoms_spec (ws := cdWs yX6_fault cX6_fault 1 (some .int)) B.pre w (List.mem_cons_of_mem _ hw)
  have X : cdX p s m _ c cX6_fault 1 RX6 g := ⟨hx, hb, hml, hown, hts, hK, hdi, hV⟩
  have hS : va_S (cdZ g s.heap.size) s.heap s.heap [] := va_S.rf
  have hl := lv_entry ([.ref (cdA g 19)]) (n := 1) (Nat.le_of_ble_eq_true rfl)
  rw [lg_entry_eq]
  generalize (lg_sl ([.ref (cdA g 19)]) ++ List.replicate (1 - (lg_sl ([.ref (cdA g 19)])).length) Slot.unset).toArray = ls at hl ⊢
  have hl : lv_has ls 1 [(0, .ref (cdA g 19))] := hl
  obtain ⟨Qm, hQm⟩ : ∃ z, z = MQ below (va_Qi Q (fun σ' t => va_P (cdD g) vwCl (cdW g σ') t.heap) (cdZ g s.heap.size)) ([.ref (cdA g 19)] : List Value).toArray s 0 0 (cdZ g s.heap.size) := ⟨_, rfl⟩
  rw [← hQm]
  have hB := hwp
  refine lv_aload_n hx hb dX6_fault_0 rfl (lv_at hl 0 rfl) ?_
  refine cd_ci (cd_runV (As := []) (rest := []) (σ := σ) (k := 19) (ci := 6) X wm_X6_50 (by decide) rfl rfl rfl (c_X6_goAlong l g  σ _ hB _) hP hS rfl rfl hl.1 (Nat.le_of_ble_eq_true rfl) ⟨Nat.le_of_ble_eq_true rfl, Nat.le_of_ble_eq_true rfl⟩ ⟨Nat.zero_le _, Nat.zero_le _⟩ dX6_fault_1) hS (fun r_1 σ_2 H locs hB hP hS => ?_)
  rw [hQm]
  exact W.iret hx hb hr (fun t ht hW => ⟨⟨r_1, σ_2, rfl, hB, cd_hp ht hP⟩, hS.F ht⟩) hS.2.2 dX6_fault_4
def wp_X6_fieldAt (v1 : Int32) (v2 : Int32) (v3 : Int32) (v4 : Int32) (v5 : Int32) (v6 : Int32) (σ : cdS) (Q : Int32 → Prop) : Prop :=
  ∀ (P6 : Int32 → Int32 → Prop) (P53 : Int32 → Int32 → Int32 → Prop),
    (∀ (x7 : Int32) (x8 : Int32), (
    (((9 : Int32) ≤ x8 →
    Q x7) ∧
    (¬ ((9 : Int32) ≤ x8) →
    ((¬ ((v4 >>> (x8 &&& 31)) &&& (1 : Int32)) = (1 : Int32) →
    P53 x8 (0 : Int32) x7) ∧
    (((v4 >>> (x8 &&& 31)) &&& (1 : Int32)) = (1 : Int32) →
    wp_X6_depthAt v1 (v5 - ((cdm x8 (3 : Int32)) * v2)) (v6 - ((x8 / (3 : Int32)) * v3)) σ (fun r_3 => 
    P53 x8 r_3 x7)))))) → P6 x7 x8) →
    (∀ (x8 : Int32) (t0 : Int32) (t1 : Int32), (
    ∀ x7_5 : Int32, x7_5 = (t1 + t0) →
    ∀ x8_6 : Int32, x8_6 = x8 + 1 →
    P6 x7_5 x8_6) → P53 x8 t0 t1) →
    
    P6 (0 : Int32) (0 : Int32)
set_option maxHeartbeats 4000000 in
set_option maxRecDepth 100000 in
theorem c_X6_fieldAt (l : Launch) (g : cdG) (v1 : Int32) (v2 : Int32) (v3 : Int32) (v4 : Int32) (v5 : Int32) (v6 : Int32) (σ : cdS) (Q : Int32 → Prop) (hwp : wp_X6_fieldAt v1 v2 v3 v4 v5 v6 σ Q) : cdCi l g yX6_fieldAt cX6_fieldAt 9 (some .int) 2 45 [.ref (cdA g 19), .int v1, .int v2, .int v3, .int v4, .int v5, .int v6] σ (fun r σ' => σ' = σ ∧ Q r) := by
  intro sz
  refine Met.ofW (cc := cX6_fieldAt) (maxL := 9) (ret := (some .int)) (by decide) rfl ?_
  intro p e s m args below meth c s₁ B hml hv
  obtain ⟨rfl, hsz, hP, hK, hdi, hV⟩ := hv
  subst hsz
  have hx := B.exec
  have hb := B.bytes
  have hr := B.returns
  have hlocks := B.notSynchronized
  have hown : s.vm.findClass RX6 = some m.cls := findClass_of_methodNamed B.named
  have hts : ∀ w ∈ cdL, w.before _ s = true := fun w hw => atoms_spec (ws := cdWs yX6_fieldAt cX6_fieldAt 9 (some .int)) B.pre w (List.mem_cons_of_mem _ hw)
  have X : cdX p s m _ c cX6_fieldAt 9 RX6 g := ⟨hx, hb, hml, hown, hts, hK, hdi, hV⟩
  have hS : va_S (cdZ g s.heap.size) s.heap s.heap [] := va_S.rf
  have hl := lv_entry ([.ref (cdA g 19), .int v1, .int v2, .int v3, .int v4, .int v5, .int v6]) (n := 9) (Nat.le_of_ble_eq_true rfl)
  rw [lg_entry_eq]
  generalize (lg_sl ([.ref (cdA g 19), .int v1, .int v2, .int v3, .int v4, .int v5, .int v6]) ++ List.replicate (9 - (lg_sl ([.ref (cdA g 19), .int v1, .int v2, .int v3, .int v4, .int v5, .int v6])).length) Slot.unset).toArray = ls at hl ⊢
  have hl : lv_has ls 9 [(0, .ref (cdA g 19)), (1, .int v1), (2, .int v2), (3, .int v3), (4, .int v4), (5, .int v5), (6, .int v6)] := hl
  obtain ⟨Qm, hQm⟩ : ∃ z, z = MQ below (va_Qi (fun r σ' => σ' = σ ∧ Q r) (fun σ' t => va_P (cdD g) vwCl (cdW g σ') t.heap) (cdZ g s.heap.size)) ([.ref (cdA g 19), .int v1, .int v2, .int v3, .int v4, .int v5, .int v6] : List Value).toArray s 0 0 (cdZ g s.heap.size) := ⟨_, rfl⟩
  rw [← hQm]
  have hB := hwp (fun (x7 : Int32) (x8 : Int32) => cdCut p l e (headSpec (cdWs yX6_fieldAt cX6_fieldAt 9 (some .int)) (cdRm 2 45)).room s m ([.ref (cdA g 19), .int v1, .int v2, .int v3, .int v4, .int v5, .int v6] : List Value).toArray below meth c Qm g 9 6 [(0, .ref (cdA g 19)), (1, .int v1), (2, .int v2), (3, .int v3), (4, .int v4), (5, .int v5), (6, .int v6), (7, .int x7), (8, .int x8)] [] σ)
    (fun (x8 : Int32) (t0 : Int32) (t1 : Int32) => cdCut p l e (headSpec (cdWs yX6_fieldAt cX6_fieldAt 9 (some .int)) (cdRm 2 45)).room s m ([.ref (cdA g 19), .int v1, .int v2, .int v3, .int v4, .int v5, .int v6] : List Value).toArray below meth c Qm g 9 53 [(0, .ref (cdA g 19)), (1, .int v1), (2, .int v2), (3, .int v3), (4, .int v4), (5, .int v5), (6, .int v6), (8, .int x8)] [.int t0, .int t1] σ)
    (by
    intro x7 x8 hB H locs ls hP hS hl
    refine lv_iload hx hb dX6_fieldAt_6 (lv_at hl 8 rfl) ?_
    refine lv_bipush (v := 9) hx hb dX6_fieldAt_8 (by decide) ?_
    refine lv_icmp_ge (tgt := 62) hx hb dX6_fieldAt_10 (by decide) (fun c_1 => ?_) (fun c_1 => ?_)
    · have hB := hB.1 c_1
      refine lv_iload hx hb dX6_fieldAt_62 (lv_at hl 7 rfl) ?_
      rw [hQm]
      exact W.iret hx hb hr (fun t ht hW => ⟨⟨x7, σ, rfl, ⟨rfl, hB⟩, cd_hp ht hP⟩, hS.F ht⟩) hS.2.2 dX6_fieldAt_64
    · have hB := hB.2 c_1
      refine lv_iload hx hb dX6_fieldAt_13 (lv_at hl 7 rfl) ?_
      refine lv_iload hx hb dX6_fieldAt_15 (lv_at hl 4 rfl) ?_
      refine lv_iload hx hb dX6_fieldAt_17 (lv_at hl 8 rfl) ?_
      refine lv_ishr hx hb dX6_fieldAt_19 ?_
      refine lv_iconst (v := 1) hx hb dX6_fieldAt_20 (by decide) ?_
      refine lv_iand hx hb dX6_fieldAt_21 ?_
      refine lv_iconst (v := 1) hx hb dX6_fieldAt_22 (by decide) ?_
      refine lv_icmp_ne (tgt := 52) hx hb dX6_fieldAt_23 (by decide) (fun c_2 => ?_) (fun c_2 => ?_)
      · have hB := hB.1 c_2
        refine lv_iconst (v := 0) hx hb dX6_fieldAt_52 (by decide) ?_
        exact hB _ _ _ hP hS (lv_sub hl [0, 1, 2, 3, 4, 5, 6, 8] rfl)
      · have hB := hB.2 c_2
        refine lv_aload_n hx hb dX6_fieldAt_26 rfl (lv_at hl 0 rfl) ?_
        refine lv_iload_n hx hb dX6_fieldAt_27 rfl (lv_at hl 1 rfl) ?_
        refine lv_iload hx hb dX6_fieldAt_28 (lv_at hl 5 rfl) ?_
        refine lv_iload hx hb dX6_fieldAt_30 (lv_at hl 8 rfl) ?_
        refine lv_iconst (v := 3) hx hb dX6_fieldAt_32 (by decide) ?_
        refine lv_irem hx hb dX6_fieldAt_33 (by decide) ?_
        refine lv_iload_n hx hb dX6_fieldAt_34 rfl (lv_at hl 2 rfl) ?_
        refine lv_imul hx hb dX6_fieldAt_35 ?_
        refine lv_isub hx hb dX6_fieldAt_36 ?_
        refine lv_iload hx hb dX6_fieldAt_37 (lv_at hl 6 rfl) ?_
        refine lv_iload hx hb dX6_fieldAt_39 (lv_at hl 8 rfl) ?_
        refine lv_iconst (v := 3) hx hb dX6_fieldAt_41 (by decide) ?_
        refine lv_idiv hx hb dX6_fieldAt_42 (by decide) ?_
        refine lv_iload_n hx hb dX6_fieldAt_43 rfl (lv_at hl 3 rfl) ?_
        refine lv_imul hx hb dX6_fieldAt_44 ?_
        refine lv_isub hx hb dX6_fieldAt_45 ?_
        refine cd_ci (cd_runV (As := [.int v1, .int (v5 - ((cdm x8 (3 : Int32)) * v2)), .int (v6 - ((x8 / (3 : Int32)) * v3))]) (rest := [.int x7]) (σ := σ) (k := 19) (ci := 6) X wm_X6_76 (by decide) rfl rfl rfl (c_X6_depthAt l g v1 (v5 - ((cdm x8 (3 : Int32)) * v2)) (v6 - ((x8 / (3 : Int32)) * v3)) σ _ hB _) hP hS rfl rfl hl.1 (Nat.le_of_ble_eq_true rfl) ⟨Nat.le_of_ble_eq_true rfl, Nat.le_of_ble_eq_true rfl⟩ ⟨Nat.zero_le _, Nat.zero_le _⟩ dX6_fieldAt_46) hS (fun r_3 σ_4 H locs hB hP hS => ?_)
        obtain ⟨eσ_4, hB⟩ := hB
        rw [eσ_4] at hP
        refine lv_goto (tgt := 53) hx hb dX6_fieldAt_49 (by decide) ?_
        exact hB _ _ _ hP hS (lv_sub hl [0, 1, 2, 3, 4, 5, 6, 8] rfl))
    (by
    intro x8 t0 t1 hB H locs ls hP hS hl
    refine lv_iadd hx hb dX6_fieldAt_53 ?_
    refine lv_topi (fun x7_5 ex7_5 => ?_)
    have hB := hB x7_5 ex7_5
    refine lv_istore (lv' := [(7, .int x7_5), (0, .ref (cdA g 19)), (1, .int v1), (2, .int v2), (3, .int v3), (4, .int v4), (5, .int v5), (6, .int v6), (8, .int x8)]) hx hb dX6_fieldAt_54 hl (by decide) rfl (fun ls hl => ?_)
    obtain ⟨x8_6, ex8_6⟩ : ∃ z : Int32, z = x8 + 1 := ⟨_, rfl⟩
    have hB := hB x8_6 ex8_6
    refine lv_iinc (v := x8_6) (lv' := [(8, .int x8_6), (7, .int x7_5), (0, .ref (cdA g 19)), (1, .int v1), (2, .int v2), (3, .int v3), (4, .int v4), (5, .int v5), (6, .int v6)]) hx hb dX6_fieldAt_56 hl (k := 8) rfl (by rw [ex8_6]; rfl) (by decide) rfl (fun ls hl => ?_)
    refine lv_goto (tgt := 6) hx hb dX6_fieldAt_59 (by decide) ?_
    exact hB _ _ _ hP hS (lv_sub hl [2, 3, 4, 5, 6, 7, 8, 1, 0] rfl))
  refine lv_iconst (v := 0) hx hb dX6_fieldAt_0 (by decide) ?_
  refine lv_istore (lv' := [(7, .int (0 : Int32)), (0, .ref (cdA g 19)), (1, .int v1), (2, .int v2), (3, .int v3), (4, .int v4), (5, .int v5), (6, .int v6)]) hx hb dX6_fieldAt_1 hl (by decide) rfl (fun ls hl => ?_)
  refine lv_iconst (v := 0) hx hb dX6_fieldAt_3 (by decide) ?_
  refine lv_istore (lv' := [(8, .int (0 : Int32)), (7, .int (0 : Int32)), (0, .ref (cdA g 19)), (1, .int v1), (2, .int v2), (3, .int v3), (4, .int v4), (5, .int v5), (6, .int v6)]) hx hb dX6_fieldAt_4 hl (by decide) rfl (fun ls hl => ?_)
  exact hB _ _ _ hP hS (lv_sub hl [2, 3, 4, 5, 6, 7, 8, 1, 0] rfl)
def wp_X6_layField (v1 : Int32) (v2 : Int32) (v3 : Int32) (v4 : Int32) (v5 : Int32) (v6 : Int32) (σ : cdS) (Q : cdS → Prop) : Prop :=
  ∀ (P7 : Int32 → cdS → Prop) (P21 : Int32 → Int32 → cdS → Prop),
    (∀ (x7 : Int32) (σ : cdS), (
    ((((v5 - (1 : Int32)) * v3) < x7 →
    Q σ) ∧
    (¬ (((v5 - (1 : Int32)) * v3) < x7) →
    P21 x7 (0 : Int32) σ))) → P7 x7 σ) →
    (∀ (x7 : Int32) (x8 : Int32) (σ : cdS), (
    ((((v4 - (1 : Int32)) * v2) < x8 →
    ∀ x7_5 : Int32, x7_5 = x7 + 1 →
    P7 x7_5 σ) ∧
    (¬ (((v4 - (1 : Int32)) * v2) < x8) →
    wp_X6_fieldAt v1 v2 v3 v6 x8 x7 σ (fun r_6 => 
    wp_X6_lay r_6 σ (fun σ_9 => 
    ∀ x8_10 : Int32, x8_10 = x8 + 1 →
    P21 x7 x8_10 σ_9))))) → P21 x7 x8 σ) →
    
    wp_X6_begins σ (fun σ_2 => 
    P7 (0 : Int32) σ_2)
set_option maxHeartbeats 4000000 in
set_option maxRecDepth 100000 in
theorem c_X6_layField (l : Launch) (g : cdG) (v1 : Int32) (v2 : Int32) (v3 : Int32) (v4 : Int32) (v5 : Int32) (v6 : Int32) (σ : cdS) (Q : cdS → Prop) (hwp : wp_X6_layField v1 v2 v3 v4 v5 v6 σ Q) : cdCv l g yX6_layField cX6_layField 9 none 3 73 [.ref (cdA g 19), .int v1, .int v2, .int v3, .int v4, .int v5, .int v6] σ Q := by
  intro sz
  refine Met.ofW (cc := cX6_layField) (maxL := 9) (ret := none) (by decide) rfl ?_
  intro p e s m args below meth c s₁ B hml hv
  obtain ⟨rfl, hsz, hP, hK, hdi, hV⟩ := hv
  subst hsz
  have hx := B.exec
  have hb := B.bytes
  have hr := B.returns
  have hlocks := B.notSynchronized
  have hown : s.vm.findClass RX6 = some m.cls := findClass_of_methodNamed B.named
  have hts : ∀ w ∈ cdL, w.before _ s = true := fun w hw => atoms_spec (ws := cdWs yX6_layField cX6_layField 9 none) B.pre w (List.mem_cons_of_mem _ hw)
  have X : cdX p s m _ c cX6_layField 9 RX6 g := ⟨hx, hb, hml, hown, hts, hK, hdi, hV⟩
  have hS : va_S (cdZ g s.heap.size) s.heap s.heap [] := va_S.rf
  have hl := lv_entry ([.ref (cdA g 19), .int v1, .int v2, .int v3, .int v4, .int v5, .int v6]) (n := 9) (Nat.le_of_ble_eq_true rfl)
  rw [lg_entry_eq]
  generalize (lg_sl ([.ref (cdA g 19), .int v1, .int v2, .int v3, .int v4, .int v5, .int v6]) ++ List.replicate (9 - (lg_sl ([.ref (cdA g 19), .int v1, .int v2, .int v3, .int v4, .int v5, .int v6])).length) Slot.unset).toArray = ls at hl ⊢
  have hl : lv_has ls 9 [(0, .ref (cdA g 19)), (1, .int v1), (2, .int v2), (3, .int v3), (4, .int v4), (5, .int v5), (6, .int v6)] := hl
  obtain ⟨Qm, hQm⟩ : ∃ z, z = MQ below (va_Qv Q (fun σ' t => va_P (cdD g) vwCl (cdW g σ') t.heap) (cdZ g s.heap.size)) ([.ref (cdA g 19), .int v1, .int v2, .int v3, .int v4, .int v5, .int v6] : List Value).toArray s 0 0 (cdZ g s.heap.size) := ⟨_, rfl⟩
  rw [← hQm]
  have hB := hwp (fun (x7 : Int32) (σ : cdS) => cdCut p l e (headSpec (cdWs yX6_layField cX6_layField 9 none) (cdRm 3 73)).room s m ([.ref (cdA g 19), .int v1, .int v2, .int v3, .int v4, .int v5, .int v6] : List Value).toArray below meth c Qm g 9 7 [(0, .ref (cdA g 19)), (1, .int v1), (2, .int v2), (3, .int v3), (4, .int v4), (5, .int v5), (6, .int v6), (7, .int x7)] [] σ)
    (fun (x7 : Int32) (x8 : Int32) (σ : cdS) => cdCut p l e (headSpec (cdWs yX6_layField cX6_layField 9 none) (cdRm 3 73)).room s m ([.ref (cdA g 19), .int v1, .int v2, .int v3, .int v4, .int v5, .int v6] : List Value).toArray below meth c Qm g 9 21 [(0, .ref (cdA g 19)), (1, .int v1), (2, .int v2), (3, .int v3), (4, .int v4), (5, .int v5), (6, .int v6), (7, .int x7), (8, .int x8)] [] σ)
    (by
    intro x7 σ hB H locs ls hP hS hl
    refine lv_iload hx hb dX6_layField_7 (lv_at hl 7 rfl) ?_
    refine lv_iload hx hb dX6_layField_9 (lv_at hl 5 rfl) ?_
    refine lv_iconst (v := 1) hx hb dX6_layField_11 (by decide) ?_
    refine lv_isub hx hb dX6_layField_12 ?_
    refine lv_iload_n hx hb dX6_layField_13 rfl (lv_at hl 3 rfl) ?_
    refine lv_imul hx hb dX6_layField_14 ?_
    refine lv_icmp_gt (tgt := 61) hx hb dX6_layField_15 (by decide) (fun c_3 => ?_) (fun c_3 => ?_)
    · have hB := hB.1 c_3
      rw [hQm]
      exact W.vret hx hb hr (fun t ht hW => ⟨⟨σ, rfl, hB, cd_hp ht hP⟩, hS.F ht⟩) hS.2.2 dX6_layField_61
    · have hB := hB.2 c_3
      refine lv_iconst (v := 0) hx hb dX6_layField_18 (by decide) ?_
      refine lv_istore (lv' := [(8, .int (0 : Int32)), (0, .ref (cdA g 19)), (1, .int v1), (2, .int v2), (3, .int v3), (4, .int v4), (5, .int v5), (6, .int v6), (7, .int x7)]) hx hb dX6_layField_19 hl (by decide) rfl (fun ls hl => ?_)
      exact hB _ _ _ hP hS (lv_sub hl [1, 2, 3, 4, 5, 6, 7, 8, 0] rfl))
    (by
    intro x7 x8 σ hB H locs ls hP hS hl
    refine lv_iload hx hb dX6_layField_21 (lv_at hl 8 rfl) ?_
    refine lv_iload hx hb dX6_layField_23 (lv_at hl 4 rfl) ?_
    refine lv_iconst (v := 1) hx hb dX6_layField_25 (by decide) ?_
    refine lv_isub hx hb dX6_layField_26 ?_
    refine lv_iload_n hx hb dX6_layField_27 rfl (lv_at hl 2 rfl) ?_
    refine lv_imul hx hb dX6_layField_28 ?_
    refine lv_icmp_gt (tgt := 55) hx hb dX6_layField_29 (by decide) (fun c_4 => ?_) (fun c_4 => ?_)
    · have hB := hB.1 c_4
      obtain ⟨x7_5, ex7_5⟩ : ∃ z : Int32, z = x7 + 1 := ⟨_, rfl⟩
      have hB := hB x7_5 ex7_5
      refine lv_iinc (v := x7_5) (lv' := [(7, .int x7_5), (0, .ref (cdA g 19)), (1, .int v1), (2, .int v2), (3, .int v3), (4, .int v4), (5, .int v5), (6, .int v6), (8, .int x8)]) hx hb dX6_layField_55 hl (k := 7) rfl (by rw [ex7_5]; rfl) (by decide) rfl (fun ls hl => ?_)
      refine lv_goto (tgt := 7) hx hb dX6_layField_58 (by decide) ?_
      exact hB _ _ _ hP hS (lv_sub hl [1, 2, 3, 4, 5, 6, 7, 0] rfl)
    · have hB := hB.2 c_4
      refine lv_aload_n hx hb dX6_layField_32 rfl (lv_at hl 0 rfl) ?_
      refine lv_aload_n hx hb dX6_layField_33 rfl (lv_at hl 0 rfl) ?_
      refine lv_iload_n hx hb dX6_layField_34 rfl (lv_at hl 1 rfl) ?_
      refine lv_iload_n hx hb dX6_layField_35 rfl (lv_at hl 2 rfl) ?_
      refine lv_iload_n hx hb dX6_layField_36 rfl (lv_at hl 3 rfl) ?_
      refine lv_iload hx hb dX6_layField_37 (lv_at hl 6 rfl) ?_
      refine lv_iload hx hb dX6_layField_39 (lv_at hl 8 rfl) ?_
      refine lv_iload hx hb dX6_layField_41 (lv_at hl 7 rfl) ?_
      refine cd_ci (cd_runV (As := [.int v1, .int v2, .int v3, .int v6, .int x8, .int x7]) (rest := [.ref (cdA g 19)]) (σ := σ) (k := 19) (ci := 6) X wm_X6_197 (by decide) rfl rfl rfl (c_X6_fieldAt l g v1 v2 v3 v6 x8 x7 σ _ hB _) hP hS rfl rfl hl.1 (Nat.le_of_ble_eq_true rfl) ⟨Nat.le_of_ble_eq_true rfl, Nat.le_of_ble_eq_true rfl⟩ ⟨Nat.zero_le _, Nat.zero_le _⟩ dX6_layField_43) hS (fun r_6 σ_7 H locs hB hP hS => ?_)
      obtain ⟨eσ_7, hB⟩ := hB
      rw [eσ_7] at hP
      refine cd_cv (cd_runV (As := [.int r_6]) (rest := []) (σ := σ) (k := 19) (ci := 6) X wm_X6_126 (by decide) rfl rfl rfl (c_X6_lay l g r_6 σ _ hB _) hP hS rfl rfl hl.1 (Nat.le_of_ble_eq_true rfl) ⟨Nat.le_of_ble_eq_true rfl, Nat.le_of_ble_eq_true rfl⟩ ⟨Nat.zero_le _, Nat.zero_le _⟩ dX6_layField_46) hS (fun σ_9 H locs hB hP hS => ?_)
      obtain ⟨x8_10, ex8_10⟩ : ∃ z : Int32, z = x8 + 1 := ⟨_, rfl⟩
      have hB := hB x8_10 ex8_10
      refine lv_iinc (v := x8_10) (lv' := [(8, .int x8_10), (0, .ref (cdA g 19)), (1, .int v1), (2, .int v2), (3, .int v3), (4, .int v4), (5, .int v5), (6, .int v6), (7, .int x7)]) hx hb dX6_layField_49 hl (k := 8) rfl (by rw [ex8_10]; rfl) (by decide) rfl (fun ls hl => ?_)
      refine lv_goto (tgt := 21) hx hb dX6_layField_52 (by decide) ?_
      exact hB _ _ _ hP hS (lv_sub hl [1, 2, 3, 4, 5, 6, 7, 8, 0] rfl))
  refine lv_aload_n hx hb dX6_layField_0 rfl (lv_at hl 0 rfl) ?_
  refine cd_cv (cd_runV (As := []) (rest := []) (σ := σ) (k := 19) (ci := 6) X wm_X6_123 (by decide) rfl rfl rfl (c_X6_begins l g  σ _ hB _) hP hS rfl rfl hl.1 (Nat.le_of_ble_eq_true rfl) ⟨Nat.le_of_ble_eq_true rfl, Nat.le_of_ble_eq_true rfl⟩ ⟨Nat.zero_le _, Nat.zero_le _⟩ dX6_layField_1) hS (fun σ_2 H locs hB hP hS => ?_)
  refine lv_iconst (v := 0) hx hb dX6_layField_4 (by decide) ?_
  refine lv_istore (lv' := [(7, .int (0 : Int32)), (0, .ref (cdA g 19)), (1, .int v1), (2, .int v2), (3, .int v3), (4, .int v4), (5, .int v5), (6, .int v6)]) hx hb dX6_layField_5 hl (by decide) rfl (fun ls hl => ?_)
  exact hB _ _ _ hP hS (lv_sub hl [1, 2, 3, 4, 5, 6, 7, 0] rfl)
def wp_X6_missedOf (v1 : Int32) (v2 : Int32) (v3 : Int32) (v4 : Int32) (v5 : Int32) (v6 : Int32) (v7 : Int32) (σ : cdS) (Q : Int32 → cdS → Prop) : Prop :=
  ∀ (P11 : Int32 → Int32 → Int32 → cdS → Prop) (P65 : Int32 → Int32 → Int32 → cdS → Prop) (P70 : Int32 → Int32 → Int32 → Int32 → cdS → Prop) (P84 : Int32 → Int32 → Int32 → Int32 → cdS → Prop) (P100 : Int32 → Int32 → Int32 → cdS → Prop) (P102 : Int32 → Int32 → Int32 → cdS → Prop),
    (∀ (x8 : Int32) (x9 : Int32) (x10 : Int32) (σ : cdS), (
    (((9 : Int32) ≤ x10 →
    ((v7 = 0 →
    Q x8 σ) ∧
    (¬ (v7 = 0) →
    Q x9 σ))) ∧
    (¬ ((9 : Int32) ≤ x10) →
    ((¬ ((v6 >>> (x10 &&& 31)) &&& (1 : Int32)) = (1 : Int32) →
    P102 x8 x9 x10 σ) ∧
    (((v6 >>> (x10 &&& 31)) &&& (1 : Int32)) = (1 : Int32) →
    wp_X6_layField v1 v2 v3 v4 v5 (v6 &&& (((1 : Int32) <<< (x10 &&& 31)) ^^^ (-1 : Int32))) σ (fun σ_5 => 
    ((x8 = (-1000001 : Int32) →
    P65 x8 x9 x10 σ_5) ∧
    (¬ (x8 = (-1000001 : Int32)) →
    ((x9 ≤ (σ_5.1 19 12) →
    P70 x8 x9 x10 (0 : Int32) σ_5) ∧
    (¬ (x9 ≤ (σ_5.1 19 12)) →
    P65 x8 x9 x10 σ_5)))))))))) → P11 x8 x9 x10 σ) →
    (∀ (x8 : Int32) (x9 : Int32) (x10 : Int32) (σ : cdS), (
    P70 x8 x9 x10 (1 : Int32) σ) → P65 x8 x9 x10 σ) →
    (∀ (x8 : Int32) (x9 : Int32) (x10 : Int32) (t0 : Int32) (σ : cdS), (
    ((t0 = 0 →
    P84 x9 x10 t0 x8 σ) ∧
    (¬ (t0 = 0) →
    P84 x9 x10 t0 x10 σ))) → P70 x8 x9 x10 t0 σ) →
    (∀ (x9 : Int32) (x10 : Int32) (x11 : Int32) (t0 : Int32) (σ : cdS), (
    ((x11 = 0 →
    P100 t0 x10 x9 σ) ∧
    (¬ (x11 = 0) →
    P100 t0 x10 (σ.1 19 12) σ))) → P84 x9 x10 x11 t0 σ) →
    (∀ (x8 : Int32) (x10 : Int32) (t0 : Int32) (σ : cdS), (
    P102 x8 t0 x10 σ) → P100 x8 x10 t0 σ) →
    (∀ (x8 : Int32) (x9 : Int32) (x10 : Int32) (σ : cdS), (
    ∀ x10_8 : Int32, x10_8 = x10 + 1 →
    P11 x8 x9 x10_8 σ) → P102 x8 x9 x10 σ) →
    
    P11 (-1000001 : Int32) (-1000001 : Int32) (0 : Int32) σ
set_option maxHeartbeats 4000000 in
set_option maxRecDepth 100000 in
theorem c_X6_missedOf (l : Launch) (g : cdG) (v1 : Int32) (v2 : Int32) (v3 : Int32) (v4 : Int32) (v5 : Int32) (v6 : Int32) (v7 : Int32) (σ : cdS) (Q : Int32 → cdS → Prop) (hwp : wp_X6_missedOf v1 v2 v3 v4 v5 v6 v7 σ Q) : cdCi l g yX6_missedOf cX6_missedOf 12 (some .int) 4 101 [.ref (cdA g 19), .int v1, .int v2, .int v3, .int v4, .int v5, .int v6, .int v7] σ Q := by
  intro sz
  refine Met.ofW (cc := cX6_missedOf) (maxL := 12) (ret := (some .int)) (by decide) rfl ?_
  intro p e s m args below meth c s₁ B hml hv
  obtain ⟨rfl, hsz, hP, hK, hdi, hV⟩ := hv
  subst hsz
  have hx := B.exec
  have hb := B.bytes
  have hr := B.returns
  have hlocks := B.notSynchronized
  have hown : s.vm.findClass RX6 = some m.cls := findClass_of_methodNamed B.named
  have hts : ∀ w ∈ cdL, w.before _ s = true := fun w hw => atoms_spec (ws := cdWs yX6_missedOf cX6_missedOf 12 (some .int)) B.pre w (List.mem_cons_of_mem _ hw)
  have X : cdX p s m _ c cX6_missedOf 12 RX6 g := ⟨hx, hb, hml, hown, hts, hK, hdi, hV⟩
  have hS : va_S (cdZ g s.heap.size) s.heap s.heap [] := va_S.rf
  have hl := lv_entry ([.ref (cdA g 19), .int v1, .int v2, .int v3, .int v4, .int v5, .int v6, .int v7]) (n := 12) (Nat.le_of_ble_eq_true rfl)
  rw [lg_entry_eq]
  generalize (lg_sl ([.ref (cdA g 19), .int v1, .int v2, .int v3, .int v4, .int v5, .int v6, .int v7]) ++ List.replicate (12 - (lg_sl ([.ref (cdA g 19), .int v1, .int v2, .int v3, .int v4, .int v5, .int v6, .int v7])).length) Slot.unset).toArray = ls at hl ⊢
  have hl : lv_has ls 12 [(0, .ref (cdA g 19)), (1, .int v1), (2, .int v2), (3, .int v3), (4, .int v4), (5, .int v5), (6, .int v6), (7, .int v7)] := hl
  obtain ⟨Qm, hQm⟩ : ∃ z, z = MQ below (va_Qi Q (fun σ' t => va_P (cdD g) vwCl (cdW g σ') t.heap) (cdZ g s.heap.size)) ([.ref (cdA g 19), .int v1, .int v2, .int v3, .int v4, .int v5, .int v6, .int v7] : List Value).toArray s 0 0 (cdZ g s.heap.size) := ⟨_, rfl⟩
  rw [← hQm]
  have hB := hwp (fun (x8 : Int32) (x9 : Int32) (x10 : Int32) (σ : cdS) => cdCut p l e (headSpec (cdWs yX6_missedOf cX6_missedOf 12 (some .int)) (cdRm 4 101)).room s m ([.ref (cdA g 19), .int v1, .int v2, .int v3, .int v4, .int v5, .int v6, .int v7] : List Value).toArray below meth c Qm g 12 11 [(0, .ref (cdA g 19)), (1, .int v1), (2, .int v2), (3, .int v3), (4, .int v4), (5, .int v5), (6, .int v6), (7, .int v7), (8, .int x8), (9, .int x9), (10, .int x10)] [] σ)
    (fun (x8 : Int32) (x9 : Int32) (x10 : Int32) (σ : cdS) => cdCut p l e (headSpec (cdWs yX6_missedOf cX6_missedOf 12 (some .int)) (cdRm 4 101)).room s m ([.ref (cdA g 19), .int v1, .int v2, .int v3, .int v4, .int v5, .int v6, .int v7] : List Value).toArray below meth c Qm g 12 65 [(0, .ref (cdA g 19)), (1, .int v1), (2, .int v2), (3, .int v3), (4, .int v4), (5, .int v5), (6, .int v6), (7, .int v7), (8, .int x8), (9, .int x9), (10, .int x10)] [] σ)
    (fun (x8 : Int32) (x9 : Int32) (x10 : Int32) (t0 : Int32) (σ : cdS) => cdCut p l e (headSpec (cdWs yX6_missedOf cX6_missedOf 12 (some .int)) (cdRm 4 101)).room s m ([.ref (cdA g 19), .int v1, .int v2, .int v3, .int v4, .int v5, .int v6, .int v7] : List Value).toArray below meth c Qm g 12 70 [(0, .ref (cdA g 19)), (1, .int v1), (2, .int v2), (3, .int v3), (4, .int v4), (5, .int v5), (6, .int v6), (7, .int v7), (8, .int x8), (9, .int x9), (10, .int x10)] [.int t0] σ)
    (fun (x9 : Int32) (x10 : Int32) (x11 : Int32) (t0 : Int32) (σ : cdS) => cdCut p l e (headSpec (cdWs yX6_missedOf cX6_missedOf 12 (some .int)) (cdRm 4 101)).room s m ([.ref (cdA g 19), .int v1, .int v2, .int v3, .int v4, .int v5, .int v6, .int v7] : List Value).toArray below meth c Qm g 12 84 [(0, .ref (cdA g 19)), (1, .int v1), (2, .int v2), (3, .int v3), (4, .int v4), (5, .int v5), (6, .int v6), (7, .int v7), (9, .int x9), (10, .int x10), (11, .int x11)] [.int t0] σ)
    (fun (x8 : Int32) (x10 : Int32) (t0 : Int32) (σ : cdS) => cdCut p l e (headSpec (cdWs yX6_missedOf cX6_missedOf 12 (some .int)) (cdRm 4 101)).room s m ([.ref (cdA g 19), .int v1, .int v2, .int v3, .int v4, .int v5, .int v6, .int v7] : List Value).toArray below meth c Qm g 12 100 [(0, .ref (cdA g 19)), (1, .int v1), (2, .int v2), (3, .int v3), (4, .int v4), (5, .int v5), (6, .int v6), (7, .int v7), (8, .int x8), (10, .int x10)] [.int t0] σ)
    (fun (x8 : Int32) (x9 : Int32) (x10 : Int32) (σ : cdS) => cdCut p l e (headSpec (cdWs yX6_missedOf cX6_missedOf 12 (some .int)) (cdRm 4 101)).room s m ([.ref (cdA g 19), .int v1, .int v2, .int v3, .int v4, .int v5, .int v6, .int v7] : List Value).toArray below meth c Qm g 12 102 [(0, .ref (cdA g 19)), (1, .int v1), (2, .int v2), (3, .int v3), (4, .int v4), (5, .int v5), (6, .int v6), (7, .int v7), (8, .int x8), (9, .int x9), (10, .int x10)] [] σ)
    (by
    intro x8 x9 x10 σ hB H locs ls hP hS hl
    refine lv_iload hx hb dX6_missedOf_11 (lv_at hl 10 rfl) ?_
    refine lv_bipush (v := 9) hx hb dX6_missedOf_13 (by decide) ?_
    refine lv_icmp_ge (tgt := 108) hx hb dX6_missedOf_15 (by decide) (fun c_1 => ?_) (fun c_1 => ?_)
    · have hB := hB.1 c_1
      refine lv_iload hx hb dX6_missedOf_108 (lv_at hl 7 rfl) ?_
      refine lv_if_eq (tgt := 118) hx hb dX6_missedOf_110 (by decide) (fun c_2 => ?_) (fun c_2 => ?_)
      · have hB := hB.1 c_2
        refine lv_iload hx hb dX6_missedOf_118 (lv_at hl 8 rfl) ?_
        rw [hQm]
        exact W.iret hx hb hr (fun t ht hW => ⟨⟨x8, σ, rfl, hB, cd_hp ht hP⟩, hS.F ht⟩) hS.2.2 dX6_missedOf_120
      · have hB := hB.2 c_2
        refine lv_iload hx hb dX6_missedOf_113 (lv_at hl 9 rfl) ?_
        refine lv_goto (tgt := 120) hx hb dX6_missedOf_115 (by decide) ?_
        rw [hQm]
        exact W.iret hx hb hr (fun t ht hW => ⟨⟨x9, σ, rfl, hB, cd_hp ht hP⟩, hS.F ht⟩) hS.2.2 dX6_missedOf_120
    · have hB := hB.2 c_1
      refine lv_iload hx hb dX6_missedOf_18 (lv_at hl 6 rfl) ?_
      refine lv_iload hx hb dX6_missedOf_20 (lv_at hl 10 rfl) ?_
      refine lv_ishr hx hb dX6_missedOf_22 ?_
      refine lv_iconst (v := 1) hx hb dX6_missedOf_23 (by decide) ?_
      refine lv_iand hx hb dX6_missedOf_24 ?_
      refine lv_iconst (v := 1) hx hb dX6_missedOf_25 (by decide) ?_
      refine lv_icmp_ne (tgt := 102) hx hb dX6_missedOf_26 (by decide) (fun c_3 => ?_) (fun c_3 => ?_)
      · have hB := hB.1 c_3
        exact hB _ _ _ hP hS (lv_sub hl [0, 1, 2, 3, 4, 5, 6, 7, 8, 9, 10] rfl)
      · have hB := hB.2 c_3
        refine lv_aload_n hx hb dX6_missedOf_29 rfl (lv_at hl 0 rfl) ?_
        refine lv_iload_n hx hb dX6_missedOf_30 rfl (lv_at hl 1 rfl) ?_
        refine lv_iload_n hx hb dX6_missedOf_31 rfl (lv_at hl 2 rfl) ?_
        refine lv_iload_n hx hb dX6_missedOf_32 rfl (lv_at hl 3 rfl) ?_
        refine lv_iload hx hb dX6_missedOf_33 (lv_at hl 4 rfl) ?_
        refine lv_iload hx hb dX6_missedOf_35 (lv_at hl 5 rfl) ?_
        refine lv_iload hx hb dX6_missedOf_37 (lv_at hl 6 rfl) ?_
        refine lv_iconst (v := 1) hx hb dX6_missedOf_39 (by decide) ?_
        refine lv_iload hx hb dX6_missedOf_40 (lv_at hl 10 rfl) ?_
        refine lv_ishl hx hb dX6_missedOf_42 ?_
        refine lv_iconst (v := -1) hx hb dX6_missedOf_43 (by decide) ?_
        refine lv_ixor hx hb dX6_missedOf_44 ?_
        refine lv_iand hx hb dX6_missedOf_45 ?_
        refine cd_cv (cd_runV (As := [.int v1, .int v2, .int v3, .int v4, .int v5, .int (v6 &&& (((1 : Int32) <<< (x10 &&& 31)) ^^^ (-1 : Int32)))]) (rest := []) (σ := σ) (k := 19) (ci := 6) X wm_X6_200 (by decide) rfl rfl rfl (c_X6_layField l g v1 v2 v3 v4 v5 (v6 &&& (((1 : Int32) <<< (x10 &&& 31)) ^^^ (-1 : Int32))) σ _ hB _) hP hS rfl rfl hl.1 (Nat.le_of_ble_eq_true rfl) ⟨Nat.le_of_ble_eq_true rfl, Nat.le_of_ble_eq_true rfl⟩ ⟨Nat.zero_le _, Nat.zero_le _⟩ dX6_missedOf_46) hS (fun σ_5 H locs hB hP hS => ?_)
        refine lv_iload hx hb dX6_missedOf_49 (lv_at hl 8 rfl) ?_
        refine lv_ldc (v := -1000001) hx hb hown (hts _ wc_X6_32) dX6_missedOf_51 ?_
        refine lv_icmp_eq (tgt := 65) hx hb dX6_missedOf_53 (by decide) (fun c_6 => ?_) (fun c_6 => ?_)
        · have hB := hB.1 c_6
          exact hB _ _ _ hP hS (lv_sub hl [0, 1, 2, 3, 4, 5, 6, 7, 8, 9, 10] rfl)
        · have hB := hB.2 c_6
          refine lv_aload_n hx hb dX6_missedOf_56 rfl (lv_at hl 0 rfl) ?_
          refine cd_get X hP (C := RX6) (T := TX6) (N := 20) (ci := 6) (k := 19) (j := 12) (v := .int (σ_5.1 19 12)) inX6 (by decide) rfl rfl (by decide) wf_X6_120 rfl rfl dX6_missedOf_57 ?_
          refine lv_iload hx hb dX6_missedOf_60 (lv_at hl 9 rfl) ?_
          refine lv_icmp_ge (tgt := 69) hx hb dX6_missedOf_62 (by decide) (fun c_7 => ?_) (fun c_7 => ?_)
          · have hB := hB.1 c_7
            refine lv_iconst (v := 0) hx hb dX6_missedOf_69 (by decide) ?_
            exact hB _ _ _ hP hS (lv_sub hl [0, 1, 2, 3, 4, 5, 6, 7, 8, 9, 10] rfl)
          · have hB := hB.2 c_7
            exact hB _ _ _ hP hS (lv_sub hl [0, 1, 2, 3, 4, 5, 6, 7, 8, 9, 10] rfl))
    (by
    intro x8 x9 x10 σ hB H locs ls hP hS hl
    refine lv_iconst (v := 1) hx hb dX6_missedOf_65 (by decide) ?_
    refine lv_goto (tgt := 70) hx hb dX6_missedOf_66 (by decide) ?_
    exact hB _ _ _ hP hS (lv_sub hl [0, 1, 2, 3, 4, 5, 6, 7, 8, 9, 10] rfl))
    (by
    intro x8 x9 x10 t0 σ hB H locs ls hP hS hl
    refine lv_istore (lv' := [(11, .int t0), (0, .ref (cdA g 19)), (1, .int v1), (2, .int v2), (3, .int v3), (4, .int v4), (5, .int v5), (6, .int v6), (7, .int v7), (8, .int x8), (9, .int x9), (10, .int x10)]) hx hb dX6_missedOf_70 hl (by decide) rfl (fun ls hl => ?_)
    refine lv_iload hx hb dX6_missedOf_72 (lv_at hl 0 rfl) ?_
    refine lv_if_eq (tgt := 82) hx hb dX6_missedOf_74 (by decide) (fun c_9 => ?_) (fun c_9 => ?_)
    · have hB := hB.1 c_9
      refine lv_iload hx hb dX6_missedOf_82 (lv_at hl 9 rfl) ?_
      exact hB _ _ _ hP hS (lv_sub hl [1, 2, 3, 4, 5, 6, 7, 8, 10, 11, 0] rfl)
    · have hB := hB.2 c_9
      refine lv_iload hx hb dX6_missedOf_77 (lv_at hl 11 rfl) ?_
      refine lv_goto (tgt := 84) hx hb dX6_missedOf_79 (by decide) ?_
      exact hB _ _ _ hP hS (lv_sub hl [1, 2, 3, 4, 5, 6, 7, 8, 10, 11, 0] rfl))
    (by
    intro x9 x10 x11 t0 σ hB H locs ls hP hS hl
    refine lv_istore (lv' := [(8, .int t0), (0, .ref (cdA g 19)), (1, .int v1), (2, .int v2), (3, .int v3), (4, .int v4), (5, .int v5), (6, .int v6), (7, .int v7), (9, .int x9), (10, .int x10), (11, .int x11)]) hx hb dX6_missedOf_84 hl (by decide) rfl (fun ls hl => ?_)
    refine lv_iload hx hb dX6_missedOf_86 (lv_at hl 11 rfl) ?_
    refine lv_if_eq (tgt := 98) hx hb dX6_missedOf_88 (by decide) (fun c_10 => ?_) (fun c_10 => ?_)
    · have hB := hB.1 c_10
      refine lv_iload hx hb dX6_missedOf_98 (lv_at hl 9 rfl) ?_
      exact hB _ _ _ hP hS (lv_sub hl [1, 2, 3, 4, 5, 6, 7, 8, 0, 10] rfl)
    · have hB := hB.2 c_10
      refine lv_aload_n hx hb dX6_missedOf_91 rfl (lv_at hl 1 rfl) ?_
      refine cd_get X hP (C := RX6) (T := TX6) (N := 20) (ci := 6) (k := 19) (j := 12) (v := .int (σ.1 19 12)) inX6 (by decide) rfl rfl (by decide) wf_X6_120 rfl rfl dX6_missedOf_92 ?_
      refine lv_goto (tgt := 100) hx hb dX6_missedOf_95 (by decide) ?_
      exact hB _ _ _ hP hS (lv_sub hl [1, 2, 3, 4, 5, 6, 7, 8, 0, 10] rfl))
    (by
    intro x8 x10 t0 σ hB H locs ls hP hS hl
    refine lv_istore (lv' := [(9, .int t0), (0, .ref (cdA g 19)), (1, .int v1), (2, .int v2), (3, .int v3), (4, .int v4), (5, .int v5), (6, .int v6), (7, .int v7), (8, .int x8), (10, .int x10)]) hx hb dX6_missedOf_100 hl (by decide) rfl (fun ls hl => ?_)
    exact hB _ _ _ hP hS (lv_sub hl [1, 2, 3, 4, 5, 6, 7, 8, 9, 0, 10] rfl))
    (by
    intro x8 x9 x10 σ hB H locs ls hP hS hl
    obtain ⟨x10_8, ex10_8⟩ : ∃ z : Int32, z = x10 + 1 := ⟨_, rfl⟩
    have hB := hB x10_8 ex10_8
    refine lv_iinc (v := x10_8) (lv' := [(10, .int x10_8), (0, .ref (cdA g 19)), (1, .int v1), (2, .int v2), (3, .int v3), (4, .int v4), (5, .int v5), (6, .int v6), (7, .int v7), (8, .int x8), (9, .int x9)]) hx hb dX6_missedOf_102 hl (k := 10) rfl (by rw [ex10_8]; rfl) (by decide) rfl (fun ls hl => ?_)
    refine lv_goto (tgt := 11) hx hb dX6_missedOf_105 (by decide) ?_
    exact hB _ _ _ hP hS (lv_sub hl [1, 2, 3, 4, 5, 6, 7, 8, 9, 10, 0] rfl))
  refine lv_ldc (v := -1000001) hx hb hown (hts _ wc_X6_32) dX6_missedOf_0 ?_
  refine lv_istore (lv' := [(8, .int (-1000001 : Int32)), (0, .ref (cdA g 19)), (1, .int v1), (2, .int v2), (3, .int v3), (4, .int v4), (5, .int v5), (6, .int v6), (7, .int v7)]) hx hb dX6_missedOf_2 hl (by decide) rfl (fun ls hl => ?_)
  refine lv_ldc (v := -1000001) hx hb hown (hts _ wc_X6_32) dX6_missedOf_4 ?_
  refine lv_istore (lv' := [(9, .int (-1000001 : Int32)), (8, .int (-1000001 : Int32)), (0, .ref (cdA g 19)), (1, .int v1), (2, .int v2), (3, .int v3), (4, .int v4), (5, .int v5), (6, .int v6), (7, .int v7)]) hx hb dX6_missedOf_6 hl (by decide) rfl (fun ls hl => ?_)
  refine lv_iconst (v := 0) hx hb dX6_missedOf_8 (by decide) ?_
  refine lv_istore (lv' := [(10, .int (0 : Int32)), (9, .int (-1000001 : Int32)), (8, .int (-1000001 : Int32)), (0, .ref (cdA g 19)), (1, .int v1), (2, .int v2), (3, .int v3), (4, .int v4), (5, .int v5), (6, .int v6), (7, .int v7)]) hx hb dX6_missedOf_9 hl (by decide) rfl (fun ls hl => ?_)
  exact hB _ _ _ hP hS (lv_sub hl [3, 4, 5, 6, 7, 8, 9, 10, 2, 1, 0] rfl)
def wp_X6_fieldNow (v1 : Int32) (v2 : Int32) (v3 : Int32) (v4 : Int32) (v5 : Int32) (v6 : Int32) (v7 : Int32) (σ : cdS) (Q : Int32 → cdS → Prop) : Prop :=
  ∀ (P29 : Int32 → Int32 → Int32 → Int32 → Int32 → Int32 → Int32 → cdS → Prop),
    (∀ (t0 : Int32) (t1 : Int32) (t2 : Int32) (t3 : Int32) (t4 : Int32) (t5 : Int32) (t6 : Int32) (σ : cdS), (
    wp_X6_missedOf t6 t5 t4 t3 t2 t1 t0 σ (fun r_16 σ_17 => 
    Q r_16 σ_17)) → P29 t0 t1 t2 t3 t4 t5 t6 σ) →
    
    ((v7 ≤ (9 : Int32) →
    wp_X6_layField v1 v2 v3 v4 v5 v6 σ (fun σ_3 => 
    ∀ x8_4 : Int32, x8_4 = (((v4 - (1 : Int32)) * v2) + (1 : Int32)) →
    (((8 : Int32) ≤ v7 →
    ((¬ v7 = (8 : Int32) →
    wp_X6_driest σ_3 (fun r_7 => 
    ¬ x8_4 = 0 ∧
    Q (r_7 / x8_4) σ_3)) ∧
    (v7 = (8 : Int32) →
    wp_X6_driest σ_3 (fun r_10 => 
    ¬ x8_4 = 0 ∧
    Q (cdm r_10 x8_4) σ_3)))) ∧
    (¬ ((8 : Int32) ≤ v7) →
    wp_X6_laidNow v7 σ_3 (fun r_13 => 
    Q r_13 σ_3))))) ∧
    (¬ (v7 ≤ (9 : Int32)) →
    ((¬ v7 = (11 : Int32) →
    P29 (0 : Int32) v6 v5 v4 v3 v2 v1 σ) ∧
    (v7 = (11 : Int32) →
    P29 (1 : Int32) v6 v5 v4 v3 v2 v1 σ))))
set_option maxHeartbeats 4000000 in
set_option maxRecDepth 100000 in
theorem c_X6_fieldNow (l : Launch) (g : cdG) (v1 : Int32) (v2 : Int32) (v3 : Int32) (v4 : Int32) (v5 : Int32) (v6 : Int32) (v7 : Int32) (σ : cdS) (Q : Int32 → cdS → Prop) (hwp : wp_X6_fieldNow v1 v2 v3 v4 v5 v6 v7 σ Q) : cdCi l g yX6_fieldNow cX6_fieldNow 9 (some .int) 5 132 [.ref (cdA g 19), .int v1, .int v2, .int v3, .int v4, .int v5, .int v6, .int v7] σ Q := by
  intro sz
  refine Met.ofW (cc := cX6_fieldNow) (maxL := 9) (ret := (some .int)) (by decide) rfl ?_
  intro p e s m args below meth c s₁ B hml hv
  obtain ⟨rfl, hsz, hP, hK, hdi, hV⟩ := hv
  subst hsz
  have hx := B.exec
  have hb := B.bytes
  have hr := B.returns
  have hlocks := B.notSynchronized
  have hown : s.vm.findClass RX6 = some m.cls := findClass_of_methodNamed B.named
  have hts : ∀ w ∈ cdL, w.before _ s = true := fun w hw => atoms_spec (ws := cdWs yX6_fieldNow cX6_fieldNow 9 (some .int)) B.pre w (List.mem_cons_of_mem _ hw)
  have X : cdX p s m _ c cX6_fieldNow 9 RX6 g := ⟨hx, hb, hml, hown, hts, hK, hdi, hV⟩
  have hS : va_S (cdZ g s.heap.size) s.heap s.heap [] := va_S.rf
  have hl := lv_entry ([.ref (cdA g 19), .int v1, .int v2, .int v3, .int v4, .int v5, .int v6, .int v7]) (n := 9) (Nat.le_of_ble_eq_true rfl)
  rw [lg_entry_eq]
  generalize (lg_sl ([.ref (cdA g 19), .int v1, .int v2, .int v3, .int v4, .int v5, .int v6, .int v7]) ++ List.replicate (9 - (lg_sl ([.ref (cdA g 19), .int v1, .int v2, .int v3, .int v4, .int v5, .int v6, .int v7])).length) Slot.unset).toArray = ls at hl ⊢
  have hl : lv_has ls 9 [(0, .ref (cdA g 19)), (1, .int v1), (2, .int v2), (3, .int v3), (4, .int v4), (5, .int v5), (6, .int v6), (7, .int v7)] := hl
  obtain ⟨Qm, hQm⟩ : ∃ z, z = MQ below (va_Qi Q (fun σ' t => va_P (cdD g) vwCl (cdW g σ') t.heap) (cdZ g s.heap.size)) ([.ref (cdA g 19), .int v1, .int v2, .int v3, .int v4, .int v5, .int v6, .int v7] : List Value).toArray s 0 0 (cdZ g s.heap.size) := ⟨_, rfl⟩
  rw [← hQm]
  have hB := hwp (fun (t0 : Int32) (t1 : Int32) (t2 : Int32) (t3 : Int32) (t4 : Int32) (t5 : Int32) (t6 : Int32) (σ : cdS) => cdCut p l e (headSpec (cdWs yX6_fieldNow cX6_fieldNow 9 (some .int)) (cdRm 5 132)).room s m ([.ref (cdA g 19), .int v1, .int v2, .int v3, .int v4, .int v5, .int v6, .int v7] : List Value).toArray below meth c Qm g 9 29 [] [.int t0, .int t1, .int t2, .int t3, .int t4, .int t5, .int t6, .ref (cdA g 19)] σ)
    (by
    intro t0 t1 t2 t3 t4 t5 t6 σ hB H locs ls hP hS hl
    refine cd_ci (cd_runV (As := [.int t6, .int t5, .int t4, .int t3, .int t2, .int t1, .int t0]) (rest := []) (σ := σ) (k := 19) (ci := 6) X wm_X6_204 (by decide) rfl rfl rfl (c_X6_missedOf l g t6 t5 t4 t3 t2 t1 t0 σ _ hB _) hP hS rfl rfl hl.1 (Nat.le_of_ble_eq_true rfl) ⟨Nat.le_of_ble_eq_true rfl, Nat.le_of_ble_eq_true rfl⟩ ⟨Nat.zero_le _, Nat.zero_le _⟩ dX6_fieldNow_29) hS (fun r_16 σ_17 H locs hB hP hS => ?_)
    rw [hQm]
    exact W.iret hx hb hr (fun t ht hW => ⟨⟨r_16, σ_17, rfl, hB, cd_hp ht hP⟩, hS.F ht⟩) hS.2.2 dX6_fieldNow_32)
  refine lv_iload hx hb dX6_fieldNow_0 (lv_at hl 7 rfl) ?_
  refine lv_bipush (v := 9) hx hb dX6_fieldNow_2 (by decide) ?_
  refine lv_icmp_le (tgt := 33) hx hb dX6_fieldNow_4 (by decide) (fun c_1 => ?_) (fun c_1 => ?_)
  · have hB := hB.1 c_1
    refine lv_aload_n hx hb dX6_fieldNow_33 rfl (lv_at hl 0 rfl) ?_
    refine lv_iload_n hx hb dX6_fieldNow_34 rfl (lv_at hl 1 rfl) ?_
    refine lv_iload_n hx hb dX6_fieldNow_35 rfl (lv_at hl 2 rfl) ?_
    refine lv_iload_n hx hb dX6_fieldNow_36 rfl (lv_at hl 3 rfl) ?_
    refine lv_iload hx hb dX6_fieldNow_37 (lv_at hl 4 rfl) ?_
    refine lv_iload hx hb dX6_fieldNow_39 (lv_at hl 5 rfl) ?_
    refine lv_iload hx hb dX6_fieldNow_41 (lv_at hl 6 rfl) ?_
    refine cd_cv (cd_runV (As := [.int v1, .int v2, .int v3, .int v4, .int v5, .int v6]) (rest := []) (σ := σ) (k := 19) (ci := 6) X wm_X6_200 (by decide) rfl rfl rfl (c_X6_layField l g v1 v2 v3 v4 v5 v6 σ _ hB _) hP hS rfl rfl hl.1 (Nat.le_of_ble_eq_true rfl) ⟨Nat.le_of_ble_eq_true rfl, Nat.le_of_ble_eq_true rfl⟩ ⟨Nat.zero_le _, Nat.zero_le _⟩ dX6_fieldNow_43) hS (fun σ_3 H locs hB hP hS => ?_)
    refine lv_iload hx hb dX6_fieldNow_46 (lv_at hl 4 rfl) ?_
    refine lv_iconst (v := 1) hx hb dX6_fieldNow_48 (by decide) ?_
    refine lv_isub hx hb dX6_fieldNow_49 ?_
    refine lv_iload_n hx hb dX6_fieldNow_50 rfl (lv_at hl 2 rfl) ?_
    refine lv_imul hx hb dX6_fieldNow_51 ?_
    refine lv_iconst (v := 1) hx hb dX6_fieldNow_52 (by decide) ?_
    refine lv_iadd hx hb dX6_fieldNow_53 ?_
    refine lv_topi (fun x8_4 ex8_4 => ?_)
    have hB := hB x8_4 ex8_4
    refine lv_istore (lv' := [(8, .int x8_4), (0, .ref (cdA g 19)), (1, .int v1), (2, .int v2), (3, .int v3), (4, .int v4), (5, .int v5), (6, .int v6), (7, .int v7)]) hx hb dX6_fieldNow_54 hl (by decide) rfl (fun ls hl => ?_)
    refine lv_iload hx hb dX6_fieldNow_56 (lv_at hl 8 rfl) ?_
    refine lv_bipush (v := 8) hx hb dX6_fieldNow_58 (by decide) ?_
    refine lv_icmp_ge (tgt := 72) hx hb dX6_fieldNow_60 (by decide) (fun c_5 => ?_) (fun c_5 => ?_)
    · have hB := hB.1 c_5
      refine lv_iload hx hb dX6_fieldNow_72 (lv_at hl 8 rfl) ?_
      refine lv_bipush (v := 8) hx hb dX6_fieldNow_74 (by decide) ?_
      refine lv_icmp_ne (tgt := 89) hx hb dX6_fieldNow_76 (by decide) (fun c_6 => ?_) (fun c_6 => ?_)
      · have hB := hB.1 c_6
        refine lv_aload_n hx hb dX6_fieldNow_89 rfl (lv_at hl 1 rfl) ?_
        refine cd_ci (cd_runV (As := []) (rest := []) (σ := σ_3) (k := 19) (ci := 6) X wm_X6_208 (by decide) rfl rfl rfl (c_X6_driest l g  σ_3 _ hB _) hP hS rfl rfl hl.1 (Nat.le_of_ble_eq_true rfl) ⟨Nat.le_of_ble_eq_true rfl, Nat.le_of_ble_eq_true rfl⟩ ⟨Nat.zero_le _, Nat.zero_le _⟩ dX6_fieldNow_90) hS (fun r_7 σ_8 H locs hB hP hS => ?_)
        obtain ⟨eσ_8, hB⟩ := hB
        rw [eσ_8] at hP
        refine lv_iload hx hb dX6_fieldNow_93 (lv_at hl 0 rfl) ?_
        obtain ⟨z_9, hB⟩ := hB
        refine lv_idiv hx hb dX6_fieldNow_95 z_9 ?_
        rw [hQm]
        exact W.iret hx hb hr (fun t ht hW => ⟨⟨(r_7 / x8_4), σ_3, rfl, hB, cd_hp ht hP⟩, hS.F ht⟩) hS.2.2 dX6_fieldNow_96
      · have hB := hB.2 c_6
        refine lv_aload_n hx hb dX6_fieldNow_79 rfl (lv_at hl 1 rfl) ?_
        refine cd_ci (cd_runV (As := []) (rest := []) (σ := σ_3) (k := 19) (ci := 6) X wm_X6_208 (by decide) rfl rfl rfl (c_X6_driest l g  σ_3 _ hB _) hP hS rfl rfl hl.1 (Nat.le_of_ble_eq_true rfl) ⟨Nat.le_of_ble_eq_true rfl, Nat.le_of_ble_eq_true rfl⟩ ⟨Nat.zero_le _, Nat.zero_le _⟩ dX6_fieldNow_80) hS (fun r_10 σ_11 H locs hB hP hS => ?_)
        obtain ⟨eσ_11, hB⟩ := hB
        rw [eσ_11] at hP
        refine lv_iload hx hb dX6_fieldNow_83 (lv_at hl 0 rfl) ?_
        obtain ⟨z_12, hB⟩ := hB
        refine lv_irem hx hb dX6_fieldNow_85 z_12 ?_
        refine lv_goto (tgt := 96) hx hb dX6_fieldNow_86 (by decide) ?_
        rw [hQm]
        exact W.iret hx hb hr (fun t ht hW => ⟨⟨(cdm r_10 x8_4), σ_3, rfl, hB, cd_hp ht hP⟩, hS.F ht⟩) hS.2.2 dX6_fieldNow_96
    · have hB := hB.2 c_5
      refine lv_aload_n hx hb dX6_fieldNow_63 rfl (lv_at hl 1 rfl) ?_
      refine lv_iload hx hb dX6_fieldNow_64 (lv_at hl 8 rfl) ?_
      refine cd_ci (cd_runV (As := [.int v7]) (rest := []) (σ := σ_3) (k := 19) (ci := 6) X wm_X6_162 (by decide) rfl rfl rfl (c_X6_laidNow l g v7 σ_3 _ hB _) hP hS rfl rfl hl.1 (Nat.le_of_ble_eq_true rfl) ⟨Nat.le_of_ble_eq_true rfl, Nat.le_of_ble_eq_true rfl⟩ ⟨Nat.zero_le _, Nat.zero_le _⟩ dX6_fieldNow_66) hS (fun r_13 σ_14 H locs hB hP hS => ?_)
      obtain ⟨eσ_14, hB⟩ := hB
      rw [eσ_14] at hP
      refine lv_goto (tgt := 96) hx hb dX6_fieldNow_69 (by decide) ?_
      rw [hQm]
      exact W.iret hx hb hr (fun t ht hW => ⟨⟨r_13, σ_3, rfl, hB, cd_hp ht hP⟩, hS.F ht⟩) hS.2.2 dX6_fieldNow_96
  · have hB := hB.2 c_1
    refine lv_aload_n hx hb dX6_fieldNow_7 rfl (lv_at hl 0 rfl) ?_
    refine lv_iload_n hx hb dX6_fieldNow_8 rfl (lv_at hl 1 rfl) ?_
    refine lv_iload_n hx hb dX6_fieldNow_9 rfl (lv_at hl 2 rfl) ?_
    refine lv_iload_n hx hb dX6_fieldNow_10 rfl (lv_at hl 3 rfl) ?_
    refine lv_iload hx hb dX6_fieldNow_11 (lv_at hl 4 rfl) ?_
    refine lv_iload hx hb dX6_fieldNow_13 (lv_at hl 5 rfl) ?_
    refine lv_iload hx hb dX6_fieldNow_15 (lv_at hl 6 rfl) ?_
    refine lv_iload hx hb dX6_fieldNow_17 (lv_at hl 7 rfl) ?_
    refine lv_bipush (v := 11) hx hb dX6_fieldNow_19 (by decide) ?_
    refine lv_icmp_ne (tgt := 28) hx hb dX6_fieldNow_21 (by decide) (fun c_15 => ?_) (fun c_15 => ?_)
    · have hB := hB.1 c_15
      refine lv_iconst (v := 0) hx hb dX6_fieldNow_28 (by decide) ?_
      exact hB _ _ _ hP hS (lv_sub hl [] rfl)
    · have hB := hB.2 c_15
      refine lv_iconst (v := 1) hx hb dX6_fieldNow_24 (by decide) ?_
      refine lv_goto (tgt := 29) hx hb dX6_fieldNow_25 (by decide) ?_
      exact hB _ _ _ hP hS (lv_sub hl [] rfl)
def wp_X6_field (v1 : Int32) (v2 : Int32) (v3 : Int32) (v4 : Int32) (v5 : Int32) (v6 : Int32) (v7 : Int32) (σ : cdS) (Q : Int32 → cdS → Prop) : Prop :=
  ∀ (P55 : cdS → Prop) (P56 : Int32 → cdS → Prop),
    (∀  (σ : cdS), (
    P56 (0 : Int32) σ) → P55 σ) →
    (∀ (t0 : Int32) (σ : cdS), (
    ((t0 = 0 →
    Q (-1000003 : Int32) σ) ∧
    (¬ (t0 = 0) →
    wp_X6_allOf v4 v5 σ (fun r_17 => 
    (((v6 &&& (r_17 ^^^ (-1 : Int32))) = 0 →
    wp_X6_allOf v4 v5 σ (fun r_20 => 
    wp_X6_fieldNow v1 v2 v3 v4 v5 (r_20 &&& (v6 ^^^ (-1 : Int32))) v7 σ (fun r_22 σ_23 => 
    Q r_22 σ_23))) ∧
    (¬ ((v6 &&& (r_17 ^^^ (-1 : Int32))) = 0) →
    Q (-1000003 : Int32) σ)))))) → P56 t0 σ) →
    
    wp_X6_isHead v1 σ (fun r_1 => 
    ((¬ r_1 = 0 →
    wp_X6_isLaid (0 : Int32) v2 v3 σ (fun r_4 => 
    ((r_4 = 0 →
    P55 σ) ∧
    (¬ (r_4 = 0) →
    wp_X6_within v4 (2 : Int32) (3 : Int32) σ (fun r_7 => 
    ((r_7 = 0 →
    P55 σ) ∧
    (¬ (r_7 = 0) →
    wp_X6_within v5 (2 : Int32) (3 : Int32) σ (fun r_10 => 
    ((r_10 = 0 →
    P55 σ) ∧
    (¬ (r_10 = 0) →
    wp_X6_within v7 (0 : Int32) (11 : Int32) σ (fun r_13 => 
    ((r_13 = 0 →
    P55 σ) ∧
    (¬ (r_13 = 0) →
    P56 (1 : Int32) σ))))))))))))) ∧
    (r_1 = 0 →
    Q (-1000002 : Int32) σ)))
set_option maxHeartbeats 4000000 in
set_option maxRecDepth 100000 in
theorem c_X6_field (l : Launch) (g : cdG) (v1 : Int32) (v2 : Int32) (v3 : Int32) (v4 : Int32) (v5 : Int32) (v6 : Int32) (v7 : Int32) (σ : cdS) (Q : Int32 → cdS → Prop) (hwp : wp_X6_field v1 v2 v3 v4 v5 v6 v7 σ Q) : cdCi l g yX6_field cX6_field 9 (some .int) 6 160 [.ref (cdA g 19), .int v1, .int v2, .int v3, .int v4, .int v5, .int v6, .int v7] σ Q := by
  intro sz
  refine Met.ofW (cc := cX6_field) (maxL := 9) (ret := (some .int)) (by decide) rfl ?_
  intro p e s m args below meth c s₁ B hml hv
  obtain ⟨rfl, hsz, hP, hK, hdi, hV⟩ := hv
  subst hsz
  have hx := B.exec
  have hb := B.bytes
  have hr := B.returns
  have hlocks := B.notSynchronized
  have hown : s.vm.findClass RX6 = some m.cls := findClass_of_methodNamed B.named
  have hts : ∀ w ∈ cdL, w.before _ s = true := fun w hw => atoms_spec (ws := cdWs yX6_field cX6_field 9 (some .int)) B.pre w (List.mem_cons_of_mem _ hw)
  have X : cdX p s m _ c cX6_field 9 RX6 g := ⟨hx, hb, hml, hown, hts, hK, hdi, hV⟩
  have hS : va_S (cdZ g s.heap.size) s.heap s.heap [] := va_S.rf
  have hl := lv_entry ([.ref (cdA g 19), .int v1, .int v2, .int v3, .int v4, .int v5, .int v6, .int v7]) (n := 9) (Nat.le_of_ble_eq_true rfl)
  rw [lg_entry_eq]
  generalize (lg_sl ([.ref (cdA g 19), .int v1, .int v2, .int v3, .int v4, .int v5, .int v6, .int v7]) ++ List.replicate (9 - (lg_sl ([.ref (cdA g 19), .int v1, .int v2, .int v3, .int v4, .int v5, .int v6, .int v7])).length) Slot.unset).toArray = ls at hl ⊢
  have hl : lv_has ls 9 [(0, .ref (cdA g 19)), (1, .int v1), (2, .int v2), (3, .int v3), (4, .int v4), (5, .int v5), (6, .int v6), (7, .int v7)] := hl
  obtain ⟨Qm, hQm⟩ : ∃ z, z = MQ below (va_Qi Q (fun σ' t => va_P (cdD g) vwCl (cdW g σ') t.heap) (cdZ g s.heap.size)) ([.ref (cdA g 19), .int v1, .int v2, .int v3, .int v4, .int v5, .int v6, .int v7] : List Value).toArray s 0 0 (cdZ g s.heap.size) := ⟨_, rfl⟩
  rw [← hQm]
  have hB := hwp (fun  (σ : cdS) => cdCut p l e (headSpec (cdWs yX6_field cX6_field 9 (some .int)) (cdRm 6 160)).room s m ([.ref (cdA g 19), .int v1, .int v2, .int v3, .int v4, .int v5, .int v6, .int v7] : List Value).toArray below meth c Qm g 9 55 [(0, .ref (cdA g 19)), (1, .int v1), (2, .int v2), (3, .int v3), (4, .int v4), (5, .int v5), (6, .int v6), (7, .int v7)] [] σ)
    (fun (t0 : Int32) (σ : cdS) => cdCut p l e (headSpec (cdWs yX6_field cX6_field 9 (some .int)) (cdRm 6 160)).room s m ([.ref (cdA g 19), .int v1, .int v2, .int v3, .int v4, .int v5, .int v6, .int v7] : List Value).toArray below meth c Qm g 9 56 [(0, .ref (cdA g 19)), (1, .int v1), (2, .int v2), (3, .int v3), (4, .int v4), (5, .int v5), (6, .int v6), (7, .int v7)] [.int t0] σ)
    (by
    intro  σ hB H locs ls hP hS hl
    refine lv_iconst (v := 0) hx hb dX6_field_55 (by decide) ?_
    exact hB _ _ _ hP hS (lv_sub hl [0, 1, 2, 3, 4, 5, 6, 7] rfl))
    (by
    intro t0 σ hB H locs ls hP hS hl
    refine lv_istore (lv' := [(8, .int t0), (0, .ref (cdA g 19)), (1, .int v1), (2, .int v2), (3, .int v3), (4, .int v4), (5, .int v5), (6, .int v6), (7, .int v7)]) hx hb dX6_field_56 hl (by decide) rfl (fun ls hl => ?_)
    refine lv_iload hx hb dX6_field_58 (lv_at hl 0 rfl) ?_
    refine lv_if_eq (tgt := 78) hx hb dX6_field_60 (by decide) (fun c_16 => ?_) (fun c_16 => ?_)
    · have hB := hB.1 c_16
      refine lv_ldc (v := -1000003) hx hb hown (hts _ wc_X6_26) dX6_field_78 ?_
      rw [hQm]
      exact W.iret hx hb hr (fun t ht hW => ⟨⟨(-1000003 : Int32), σ, rfl, hB, cd_hp ht hP⟩, hS.F ht⟩) hS.2.2 dX6_field_80
    · have hB := hB.2 c_16
      refine lv_iload hx hb dX6_field_63 (lv_at hl 7 rfl) ?_
      refine lv_iload hx hb dX6_field_65 (lv_at hl 5 rfl) ?_
      refine lv_iload hx hb dX6_field_67 (lv_at hl 6 rfl) ?_
      refine cd_ci (cd_runS (As := [.int v4, .int v5]) (rest := [.int v6]) (σ := σ) X wm_X6_211 (c_X6_allOf l g v4 v5 σ _ hB _) hP hS rfl rfl hl.1 (Nat.le_of_ble_eq_true rfl) ⟨Nat.le_of_ble_eq_true rfl, Nat.le_of_ble_eq_true rfl⟩ ⟨Nat.zero_le _, Nat.zero_le _⟩ dX6_field_69) hS (fun r_17 σ_18 H locs hB hP hS => ?_)
      obtain ⟨eσ_18, hB⟩ := hB
      rw [eσ_18] at hP
      refine lv_iconst (v := -1) hx hb dX6_field_72 (by decide) ?_
      refine lv_ixor hx hb dX6_field_73 ?_
      refine lv_iand hx hb dX6_field_74 ?_
      refine lv_if_eq (tgt := 81) hx hb dX6_field_75 (by decide) (fun c_19 => ?_) (fun c_19 => ?_)
      · have hB := hB.1 c_19
        refine lv_aload_n hx hb dX6_field_81 rfl (lv_at hl 1 rfl) ?_
        refine lv_iload_n hx hb dX6_field_82 rfl (lv_at hl 2 rfl) ?_
        refine lv_iload_n hx hb dX6_field_83 rfl (lv_at hl 3 rfl) ?_
        refine lv_iload_n hx hb dX6_field_84 rfl (lv_at hl 4 rfl) ?_
        refine lv_iload hx hb dX6_field_85 (lv_at hl 5 rfl) ?_
        refine lv_iload hx hb dX6_field_87 (lv_at hl 6 rfl) ?_
        refine lv_iload hx hb dX6_field_89 (lv_at hl 5 rfl) ?_
        refine lv_iload hx hb dX6_field_91 (lv_at hl 6 rfl) ?_
        refine cd_ci (cd_runS (As := [.int v4, .int v5]) (rest := [.int v5, .int v4, .int v3, .int v2, .int v1, .ref (cdA g 19)]) (σ := σ) X wm_X6_211 (c_X6_allOf l g v4 v5 σ _ hB _) hP hS rfl rfl hl.1 (Nat.le_of_ble_eq_true rfl) ⟨Nat.le_of_ble_eq_true rfl, Nat.le_of_ble_eq_true rfl⟩ ⟨Nat.zero_le _, Nat.zero_le _⟩ dX6_field_93) hS (fun r_20 σ_21 H locs hB hP hS => ?_)
        obtain ⟨eσ_21, hB⟩ := hB
        rw [eσ_21] at hP
        refine lv_iload hx hb dX6_field_96 (lv_at hl 7 rfl) ?_
        refine lv_iconst (v := -1) hx hb dX6_field_98 (by decide) ?_
        refine lv_ixor hx hb dX6_field_99 ?_
        refine lv_iand hx hb dX6_field_100 ?_
        refine lv_iload hx hb dX6_field_101 (lv_at hl 8 rfl) ?_
        refine cd_ci (cd_runV (As := [.int v1, .int v2, .int v3, .int v4, .int v5, .int (r_20 &&& (v6 ^^^ (-1 : Int32))), .int v7]) (rest := []) (σ := σ) (k := 19) (ci := 6) X wm_X6_214 (by decide) rfl rfl rfl (c_X6_fieldNow l g v1 v2 v3 v4 v5 (r_20 &&& (v6 ^^^ (-1 : Int32))) v7 σ _ hB _) hP hS rfl rfl hl.1 (Nat.le_of_ble_eq_true rfl) ⟨Nat.le_of_ble_eq_true rfl, Nat.le_of_ble_eq_true rfl⟩ ⟨Nat.zero_le _, Nat.zero_le _⟩ dX6_field_103) hS (fun r_22 σ_23 H locs hB hP hS => ?_)
        rw [hQm]
        exact W.iret hx hb hr (fun t ht hW => ⟨⟨r_22, σ_23, rfl, hB, cd_hp ht hP⟩, hS.F ht⟩) hS.2.2 dX6_field_106
      · have hB := hB.2 c_19
        refine lv_ldc (v := -1000003) hx hb hown (hts _ wc_X6_26) dX6_field_78 ?_
        rw [hQm]
        exact W.iret hx hb hr (fun t ht hW => ⟨⟨(-1000003 : Int32), σ, rfl, hB, cd_hp ht hP⟩, hS.F ht⟩) hS.2.2 dX6_field_80)
  refine lv_aload_n hx hb dX6_field_0 rfl (lv_at hl 0 rfl) ?_
  refine lv_iload_n hx hb dX6_field_1 rfl (lv_at hl 1 rfl) ?_
  refine cd_ci (cd_runV (As := [.int v1]) (rest := []) (σ := σ) (k := 19) (ci := 6) X wm_X6_65 (by decide) rfl rfl rfl (c_X6_isHead l g v1 σ _ hB _) hP hS rfl rfl hl.1 (Nat.le_of_ble_eq_true rfl) ⟨Nat.le_of_ble_eq_true rfl, Nat.le_of_ble_eq_true rfl⟩ ⟨Nat.zero_le _, Nat.zero_le _⟩ dX6_field_2) hS (fun r_1 σ_2 H locs hB hP hS => ?_)
  obtain ⟨eσ_2, hB⟩ := hB
  rw [eσ_2] at hP
  refine lv_if_ne (tgt := 11) hx hb dX6_field_5 (by decide) (fun c_3 => ?_) (fun c_3 => ?_)
  · have hB := hB.1 c_3
    refine lv_iconst (v := 0) hx hb dX6_field_11 (by decide) ?_
    refine lv_iload_n hx hb dX6_field_12 rfl (lv_at hl 2 rfl) ?_
    refine lv_iload_n hx hb dX6_field_13 rfl (lv_at hl 3 rfl) ?_
    refine cd_ci (cd_runS (As := [.int (0 : Int32), .int v2, .int v3]) (rest := []) (σ := σ) X wm_X6_110 (c_X6_isLaid l g (0 : Int32) v2 v3 σ _ hB _) hP hS rfl rfl hl.1 (Nat.le_of_ble_eq_true rfl) ⟨Nat.le_of_ble_eq_true rfl, Nat.le_of_ble_eq_true rfl⟩ ⟨Nat.zero_le _, Nat.zero_le _⟩ dX6_field_14) hS (fun r_4 σ_5 H locs hB hP hS => ?_)
    obtain ⟨eσ_5, hB⟩ := hB
    rw [eσ_5] at hP
    refine lv_if_eq (tgt := 55) hx hb dX6_field_17 (by decide) (fun c_6 => ?_) (fun c_6 => ?_)
    · have hB := hB.1 c_6
      exact hB _ _ _ hP hS (lv_sub hl [0, 1, 2, 3, 4, 5, 6, 7] rfl)
    · have hB := hB.2 c_6
      refine lv_iload hx hb dX6_field_20 (lv_at hl 4 rfl) ?_
      refine lv_iconst (v := 2) hx hb dX6_field_22 (by decide) ?_
      refine lv_iconst (v := 3) hx hb dX6_field_23 (by decide) ?_
      refine cd_ci (cd_runS (As := [.int v4, .int (2 : Int32), .int (3 : Int32)]) (rest := []) (σ := σ) X wm_X6_22 (c_X6_within l g v4 (2 : Int32) (3 : Int32) σ _ hB _) hP hS rfl rfl hl.1 (Nat.le_of_ble_eq_true rfl) ⟨Nat.le_of_ble_eq_true rfl, Nat.le_of_ble_eq_true rfl⟩ ⟨Nat.zero_le _, Nat.zero_le _⟩ dX6_field_24) hS (fun r_7 σ_8 H locs hB hP hS => ?_)
      obtain ⟨eσ_8, hB⟩ := hB
      rw [eσ_8] at hP
      refine lv_if_eq (tgt := 55) hx hb dX6_field_27 (by decide) (fun c_9 => ?_) (fun c_9 => ?_)
      · have hB := hB.1 c_9
        exact hB _ _ _ hP hS (lv_sub hl [0, 1, 2, 3, 4, 5, 6, 7] rfl)
      · have hB := hB.2 c_9
        refine lv_iload hx hb dX6_field_30 (lv_at hl 5 rfl) ?_
        refine lv_iconst (v := 2) hx hb dX6_field_32 (by decide) ?_
        refine lv_iconst (v := 3) hx hb dX6_field_33 (by decide) ?_
        refine cd_ci (cd_runS (As := [.int v5, .int (2 : Int32), .int (3 : Int32)]) (rest := []) (σ := σ) X wm_X6_22 (c_X6_within l g v5 (2 : Int32) (3 : Int32) σ _ hB _) hP hS rfl rfl hl.1 (Nat.le_of_ble_eq_true rfl) ⟨Nat.le_of_ble_eq_true rfl, Nat.le_of_ble_eq_true rfl⟩ ⟨Nat.zero_le _, Nat.zero_le _⟩ dX6_field_34) hS (fun r_10 σ_11 H locs hB hP hS => ?_)
        obtain ⟨eσ_11, hB⟩ := hB
        rw [eσ_11] at hP
        refine lv_if_eq (tgt := 55) hx hb dX6_field_37 (by decide) (fun c_12 => ?_) (fun c_12 => ?_)
        · have hB := hB.1 c_12
          exact hB _ _ _ hP hS (lv_sub hl [0, 1, 2, 3, 4, 5, 6, 7] rfl)
        · have hB := hB.2 c_12
          refine lv_iload hx hb dX6_field_40 (lv_at hl 7 rfl) ?_
          refine lv_iconst (v := 0) hx hb dX6_field_42 (by decide) ?_
          refine lv_bipush (v := 11) hx hb dX6_field_43 (by decide) ?_
          refine cd_ci (cd_runS (As := [.int v7, .int (0 : Int32), .int (11 : Int32)]) (rest := []) (σ := σ) X wm_X6_22 (c_X6_within l g v7 (0 : Int32) (11 : Int32) σ _ hB _) hP hS rfl rfl hl.1 (Nat.le_of_ble_eq_true rfl) ⟨Nat.le_of_ble_eq_true rfl, Nat.le_of_ble_eq_true rfl⟩ ⟨Nat.zero_le _, Nat.zero_le _⟩ dX6_field_45) hS (fun r_13 σ_14 H locs hB hP hS => ?_)
          obtain ⟨eσ_14, hB⟩ := hB
          rw [eσ_14] at hP
          refine lv_if_eq (tgt := 55) hx hb dX6_field_48 (by decide) (fun c_15 => ?_) (fun c_15 => ?_)
          · have hB := hB.1 c_15
            exact hB _ _ _ hP hS (lv_sub hl [0, 1, 2, 3, 4, 5, 6, 7] rfl)
          · have hB := hB.2 c_15
            refine lv_iconst (v := 1) hx hb dX6_field_51 (by decide) ?_
            refine lv_goto (tgt := 56) hx hb dX6_field_52 (by decide) ?_
            exact hB _ _ _ hP hS (lv_sub hl [0, 1, 2, 3, 4, 5, 6, 7] rfl)
  · have hB := hB.2 c_3
    refine lv_ldc (v := -1000002) hx hb hown (hts _ wc_X6_68) dX6_field_8 ?_
    rw [hQm]
    exact W.iret hx hb hr (fun t ht hW => ⟨⟨(-1000002 : Int32), σ, rfl, hB, cd_hp ht hP⟩, hS.F ht⟩) hS.2.2 dX6_field_10
def wp_X6_ground (v1 : Int32) (v2 : Int32) (v3 : Int32) (v4 : Int32) (v5 : Int32) (v6 : Int32) (σ : cdS) (Q : Int32 → Prop) : Prop :=
  ∀ (P49 : Prop) (P50 : Int32 → Prop),
    ((
    P50 (0 : Int32)) → P49 ) →
    (∀ (t0 : Int32), (
    ((t0 = 0 →
    Q (-1000003 : Int32)) ∧
    (¬ (t0 = 0) →
    wp_X6_groundAt v1 v1 v2 v3 v4 v5 v6 σ (fun r_14 => 
    Q r_14)))) → P50 t0) →
    
    wp_X6_isHead v1 σ (fun r_1 => 
    ((¬ r_1 = 0 →
    wp_X6_isLaid v2 v3 v4 σ (fun r_4 => 
    ((r_4 = 0 →
    P49) ∧
    (¬ (r_4 = 0) →
    wp_X6_within v5 (-50 : Int32) (50 : Int32) σ (fun r_7 => 
    ((r_7 = 0 →
    P49) ∧
    (¬ (r_7 = 0) →
    wp_X6_within v6 (-50 : Int32) (50 : Int32) σ (fun r_10 => 
    ((r_10 = 0 →
    P49) ∧
    (¬ (r_10 = 0) →
    P50 (1 : Int32))))))))))) ∧
    (r_1 = 0 →
    Q (-1000002 : Int32))))
set_option maxHeartbeats 4000000 in
set_option maxRecDepth 100000 in
theorem c_X6_ground (l : Launch) (g : cdG) (v1 : Int32) (v2 : Int32) (v3 : Int32) (v4 : Int32) (v5 : Int32) (v6 : Int32) (σ : cdS) (Q : Int32 → Prop) (hwp : wp_X6_ground v1 v2 v3 v4 v5 v6 σ Q) : cdCi l g yX6_ground cX6_ground 8 (some .int) 4 105 [.ref (cdA g 19), .int v1, .int v2, .int v3, .int v4, .int v5, .int v6] σ (fun r σ' => σ' = σ ∧ Q r) := by
  intro sz
  refine Met.ofW (cc := cX6_ground) (maxL := 8) (ret := (some .int)) (by decide) rfl ?_
  intro p e s m args below meth c s₁ B hml hv
  obtain ⟨rfl, hsz, hP, hK, hdi, hV⟩ := hv
  subst hsz
  have hx := B.exec
  have hb := B.bytes
  have hr := B.returns
  have hlocks := B.notSynchronized
  have hown : s.vm.findClass RX6 = some m.cls := findClass_of_methodNamed B.named
  have hts : ∀ w ∈ cdL, w.before _ s = true := fun w hw => atoms_spec (ws := cdWs yX6_ground cX6_ground 8 (some .int)) B.pre w (List.mem_cons_of_mem _ hw)
  have X : cdX p s m _ c cX6_ground 8 RX6 g := ⟨hx, hb, hml, hown, hts, hK, hdi, hV⟩
  have hS : va_S (cdZ g s.heap.size) s.heap s.heap [] := va_S.rf
  have hl := lv_entry ([.ref (cdA g 19), .int v1, .int v2, .int v3, .int v4, .int v5, .int v6]) (n := 8) (Nat.le_of_ble_eq_true rfl)
  rw [lg_entry_eq]
  generalize (lg_sl ([.ref (cdA g 19), .int v1, .int v2, .int v3, .int v4, .int v5, .int v6]) ++ List.replicate (8 - (lg_sl ([.ref (cdA g 19), .int v1, .int v2, .int v3, .int v4, .int v5, .int v6])).length) Slot.unset).toArray = ls at hl ⊢
  have hl : lv_has ls 8 [(0, .ref (cdA g 19)), (1, .int v1), (2, .int v2), (3, .int v3), (4, .int v4), (5, .int v5), (6, .int v6)] := hl
  obtain ⟨Qm, hQm⟩ : ∃ z, z = MQ below (va_Qi (fun r σ' => σ' = σ ∧ Q r) (fun σ' t => va_P (cdD g) vwCl (cdW g σ') t.heap) (cdZ g s.heap.size)) ([.ref (cdA g 19), .int v1, .int v2, .int v3, .int v4, .int v5, .int v6] : List Value).toArray s 0 0 (cdZ g s.heap.size) := ⟨_, rfl⟩
  rw [← hQm]
  have hB := hwp (cdCut p l e (headSpec (cdWs yX6_ground cX6_ground 8 (some .int)) (cdRm 4 105)).room s m ([.ref (cdA g 19), .int v1, .int v2, .int v3, .int v4, .int v5, .int v6] : List Value).toArray below meth c Qm g 8 49 [(0, .ref (cdA g 19)), (1, .int v1), (2, .int v2), (3, .int v3), (4, .int v4), (5, .int v5), (6, .int v6)] [] σ)
    (fun (t0 : Int32) => cdCut p l e (headSpec (cdWs yX6_ground cX6_ground 8 (some .int)) (cdRm 4 105)).room s m ([.ref (cdA g 19), .int v1, .int v2, .int v3, .int v4, .int v5, .int v6] : List Value).toArray below meth c Qm g 8 50 [(0, .ref (cdA g 19)), (1, .int v1), (2, .int v2), (3, .int v3), (4, .int v4), (5, .int v5), (6, .int v6)] [.int t0] σ)
    (by
    intro  hB H locs ls hP hS hl
    refine lv_iconst (v := 0) hx hb dX6_ground_49 (by decide) ?_
    exact hB _ _ _ hP hS (lv_sub hl [0, 1, 2, 3, 4, 5, 6] rfl))
    (by
    intro t0 hB H locs ls hP hS hl
    refine lv_istore (lv' := [(7, .int t0), (0, .ref (cdA g 19)), (1, .int v1), (2, .int v2), (3, .int v3), (4, .int v4), (5, .int v5), (6, .int v6)]) hx hb dX6_ground_50 hl (by decide) rfl (fun ls hl => ?_)
    refine lv_iload hx hb dX6_ground_52 (lv_at hl 0 rfl) ?_
    refine lv_if_eq (tgt := 74) hx hb dX6_ground_54 (by decide) (fun c_13 => ?_) (fun c_13 => ?_)
    · have hB := hB.1 c_13
      refine lv_ldc (v := -1000003) hx hb hown (hts _ wc_X6_26) dX6_ground_74 ?_
      rw [hQm]
      exact W.iret hx hb hr (fun t ht hW => ⟨⟨(-1000003 : Int32), σ, rfl, ⟨rfl, hB⟩, cd_hp ht hP⟩, hS.F ht⟩) hS.2.2 dX6_ground_76
    · have hB := hB.2 c_13
      refine lv_aload_n hx hb dX6_ground_57 rfl (lv_at hl 1 rfl) ?_
      refine lv_iload_n hx hb dX6_ground_58 rfl (lv_at hl 2 rfl) ?_
      refine lv_iload_n hx hb dX6_ground_59 rfl (lv_at hl 2 rfl) ?_
      refine lv_iload_n hx hb dX6_ground_60 rfl (lv_at hl 3 rfl) ?_
      refine lv_iload_n hx hb dX6_ground_61 rfl (lv_at hl 4 rfl) ?_
      refine lv_iload hx hb dX6_ground_62 (lv_at hl 5 rfl) ?_
      refine lv_iload hx hb dX6_ground_64 (lv_at hl 6 rfl) ?_
      refine lv_iload hx hb dX6_ground_66 (lv_at hl 7 rfl) ?_
      refine cd_ci (cd_runV (As := [.int v1, .int v1, .int v2, .int v3, .int v4, .int v5, .int v6]) (rest := []) (σ := σ) (k := 19) (ci := 6) X wm_X6_113 (by decide) rfl rfl rfl (c_X6_groundAt l g v1 v1 v2 v3 v4 v5 v6 σ _ hB _) hP hS rfl rfl hl.1 (Nat.le_of_ble_eq_true rfl) ⟨Nat.le_of_ble_eq_true rfl, Nat.le_of_ble_eq_true rfl⟩ ⟨Nat.zero_le _, Nat.zero_le _⟩ dX6_ground_68) hS (fun r_14 σ_15 H locs hB hP hS => ?_)
      obtain ⟨eσ_15, hB⟩ := hB
      rw [eσ_15] at hP
      refine lv_goto (tgt := 76) hx hb dX6_ground_71 (by decide) ?_
      rw [hQm]
      exact W.iret hx hb hr (fun t ht hW => ⟨⟨r_14, σ, rfl, ⟨rfl, hB⟩, cd_hp ht hP⟩, hS.F ht⟩) hS.2.2 dX6_ground_76)
  refine lv_aload_n hx hb dX6_ground_0 rfl (lv_at hl 0 rfl) ?_
  refine lv_iload_n hx hb dX6_ground_1 rfl (lv_at hl 1 rfl) ?_
  refine cd_ci (cd_runV (As := [.int v1]) (rest := []) (σ := σ) (k := 19) (ci := 6) X wm_X6_65 (by decide) rfl rfl rfl (c_X6_isHead l g v1 σ _ hB _) hP hS rfl rfl hl.1 (Nat.le_of_ble_eq_true rfl) ⟨Nat.le_of_ble_eq_true rfl, Nat.le_of_ble_eq_true rfl⟩ ⟨Nat.zero_le _, Nat.zero_le _⟩ dX6_ground_2) hS (fun r_1 σ_2 H locs hB hP hS => ?_)
  obtain ⟨eσ_2, hB⟩ := hB
  rw [eσ_2] at hP
  refine lv_if_ne (tgt := 11) hx hb dX6_ground_5 (by decide) (fun c_3 => ?_) (fun c_3 => ?_)
  · have hB := hB.1 c_3
    refine lv_iload_n hx hb dX6_ground_11 rfl (lv_at hl 2 rfl) ?_
    refine lv_iload_n hx hb dX6_ground_12 rfl (lv_at hl 3 rfl) ?_
    refine lv_iload hx hb dX6_ground_13 (lv_at hl 4 rfl) ?_
    refine cd_ci (cd_runS (As := [.int v2, .int v3, .int v4]) (rest := []) (σ := σ) X wm_X6_110 (c_X6_isLaid l g v2 v3 v4 σ _ hB _) hP hS rfl rfl hl.1 (Nat.le_of_ble_eq_true rfl) ⟨Nat.le_of_ble_eq_true rfl, Nat.le_of_ble_eq_true rfl⟩ ⟨Nat.zero_le _, Nat.zero_le _⟩ dX6_ground_15) hS (fun r_4 σ_5 H locs hB hP hS => ?_)
    obtain ⟨eσ_5, hB⟩ := hB
    rw [eσ_5] at hP
    refine lv_if_eq (tgt := 49) hx hb dX6_ground_18 (by decide) (fun c_6 => ?_) (fun c_6 => ?_)
    · have hB := hB.1 c_6
      exact hB _ _ _ hP hS (lv_sub hl [0, 1, 2, 3, 4, 5, 6] rfl)
    · have hB := hB.2 c_6
      refine lv_iload hx hb dX6_ground_21 (lv_at hl 5 rfl) ?_
      refine lv_bipush (v := -50) hx hb dX6_ground_23 (by decide) ?_
      refine lv_bipush (v := 50) hx hb dX6_ground_25 (by decide) ?_
      refine cd_ci (cd_runS (As := [.int v5, .int (-50 : Int32), .int (50 : Int32)]) (rest := []) (σ := σ) X wm_X6_22 (c_X6_within l g v5 (-50 : Int32) (50 : Int32) σ _ hB _) hP hS rfl rfl hl.1 (Nat.le_of_ble_eq_true rfl) ⟨Nat.le_of_ble_eq_true rfl, Nat.le_of_ble_eq_true rfl⟩ ⟨Nat.zero_le _, Nat.zero_le _⟩ dX6_ground_27) hS (fun r_7 σ_8 H locs hB hP hS => ?_)
      obtain ⟨eσ_8, hB⟩ := hB
      rw [eσ_8] at hP
      refine lv_if_eq (tgt := 49) hx hb dX6_ground_30 (by decide) (fun c_9 => ?_) (fun c_9 => ?_)
      · have hB := hB.1 c_9
        exact hB _ _ _ hP hS (lv_sub hl [0, 1, 2, 3, 4, 5, 6] rfl)
      · have hB := hB.2 c_9
        refine lv_iload hx hb dX6_ground_33 (lv_at hl 6 rfl) ?_
        refine lv_bipush (v := -50) hx hb dX6_ground_35 (by decide) ?_
        refine lv_bipush (v := 50) hx hb dX6_ground_37 (by decide) ?_
        refine cd_ci (cd_runS (As := [.int v6, .int (-50 : Int32), .int (50 : Int32)]) (rest := []) (σ := σ) X wm_X6_22 (c_X6_within l g v6 (-50 : Int32) (50 : Int32) σ _ hB _) hP hS rfl rfl hl.1 (Nat.le_of_ble_eq_true rfl) ⟨Nat.le_of_ble_eq_true rfl, Nat.le_of_ble_eq_true rfl⟩ ⟨Nat.zero_le _, Nat.zero_le _⟩ dX6_ground_39) hS (fun r_10 σ_11 H locs hB hP hS => ?_)
        obtain ⟨eσ_11, hB⟩ := hB
        rw [eσ_11] at hP
        refine lv_if_eq (tgt := 49) hx hb dX6_ground_42 (by decide) (fun c_12 => ?_) (fun c_12 => ?_)
        · have hB := hB.1 c_12
          exact hB _ _ _ hP hS (lv_sub hl [0, 1, 2, 3, 4, 5, 6] rfl)
        · have hB := hB.2 c_12
          refine lv_iconst (v := 1) hx hb dX6_ground_45 (by decide) ?_
          refine lv_goto (tgt := 50) hx hb dX6_ground_46 (by decide) ?_
          exact hB _ _ _ hP hS (lv_sub hl [0, 1, 2, 3, 4, 5, 6] rfl)
  · have hB := hB.2 c_3
    refine lv_ldc (v := -1000002) hx hb hown (hts _ wc_X6_68) dX6_ground_8 ?_
    rw [hQm]
    exact W.iret hx hb hr (fun t ht hW => ⟨⟨(-1000002 : Int32), σ, rfl, ⟨rfl, hB⟩, cd_hp ht hP⟩, hS.F ht⟩) hS.2.2 dX6_ground_10
def wp_X6_head (v1 : Int32) (v2 : Int32) (σ : cdS) (Q : Int32 → Prop) : Prop :=
  
    wp_X6_isHead v1 σ (fun r_1 => 
    ((¬ r_1 = 0 →
    wp_X6_within v2 (0 : Int32) (4 : Int32) σ (fun r_4 => 
    ((r_4 = 0 →
    Q (-1000003 : Int32)) ∧
    (¬ (r_4 = 0) →
    wp_X6_headNow v1 v2 σ (fun r_7 => 
    Q r_7))))) ∧
    (r_1 = 0 →
    Q (-1000002 : Int32))))
set_option maxHeartbeats 4000000 in
set_option maxRecDepth 100000 in
theorem c_X6_head (l : Launch) (g : cdG) (v1 : Int32) (v2 : Int32) (σ : cdS) (Q : Int32 → Prop) (hwp : wp_X6_head v1 v2 σ Q) : cdCi l g yX6_head cX6_head 3 (some .int) 6 137 [.ref (cdA g 19), .int v1, .int v2] σ (fun r σ' => σ' = σ ∧ Q r) := by
  intro sz
  refine Met.ofW (cc := cX6_head) (maxL := 3) (ret := (some .int)) (by decide) rfl ?_
  intro p e s m args below meth c s₁ B hml hv
  obtain ⟨rfl, hsz, hP, hK, hdi, hV⟩ := hv
  subst hsz
  have hx := B.exec
  have hb := B.bytes
  have hr := B.returns
  have hlocks := B.notSynchronized
  have hown : s.vm.findClass RX6 = some m.cls := findClass_of_methodNamed B.named
  have hts : ∀ w ∈ cdL, w.before _ s = true := fun w hw => atoms_spec (ws := cdWs yX6_head cX6_head 3 (some .int)) B.pre w (List.mem_cons_of_mem _ hw)
  have X : cdX p s m _ c cX6_head 3 RX6 g := ⟨hx, hb, hml, hown, hts, hK, hdi, hV⟩
  have hS : va_S (cdZ g s.heap.size) s.heap s.heap [] := va_S.rf
  have hl := lv_entry ([.ref (cdA g 19), .int v1, .int v2]) (n := 3) (Nat.le_of_ble_eq_true rfl)
  rw [lg_entry_eq]
  generalize (lg_sl ([.ref (cdA g 19), .int v1, .int v2]) ++ List.replicate (3 - (lg_sl ([.ref (cdA g 19), .int v1, .int v2])).length) Slot.unset).toArray = ls at hl ⊢
  have hl : lv_has ls 3 [(0, .ref (cdA g 19)), (1, .int v1), (2, .int v2)] := hl
  obtain ⟨Qm, hQm⟩ : ∃ z, z = MQ below (va_Qi (fun r σ' => σ' = σ ∧ Q r) (fun σ' t => va_P (cdD g) vwCl (cdW g σ') t.heap) (cdZ g s.heap.size)) ([.ref (cdA g 19), .int v1, .int v2] : List Value).toArray s 0 0 (cdZ g s.heap.size) := ⟨_, rfl⟩
  rw [← hQm]
  have hB := hwp
  refine lv_aload_n hx hb dX6_head_0 rfl (lv_at hl 0 rfl) ?_
  refine lv_iload_n hx hb dX6_head_1 rfl (lv_at hl 1 rfl) ?_
  refine cd_ci (cd_runV (As := [.int v1]) (rest := []) (σ := σ) (k := 19) (ci := 6) X wm_X6_65 (by decide) rfl rfl rfl (c_X6_isHead l g v1 σ _ hB _) hP hS rfl rfl hl.1 (Nat.le_of_ble_eq_true rfl) ⟨Nat.le_of_ble_eq_true rfl, Nat.le_of_ble_eq_true rfl⟩ ⟨Nat.zero_le _, Nat.zero_le _⟩ dX6_head_2) hS (fun r_1 σ_2 H locs hB hP hS => ?_)
  obtain ⟨eσ_2, hB⟩ := hB
  rw [eσ_2] at hP
  refine lv_if_ne (tgt := 11) hx hb dX6_head_5 (by decide) (fun c_3 => ?_) (fun c_3 => ?_)
  · have hB := hB.1 c_3
    refine lv_iload_n hx hb dX6_head_11 rfl (lv_at hl 2 rfl) ?_
    refine lv_iconst (v := 0) hx hb dX6_head_12 (by decide) ?_
    refine lv_iconst (v := 4) hx hb dX6_head_13 (by decide) ?_
    refine cd_ci (cd_runS (As := [.int v2, .int (0 : Int32), .int (4 : Int32)]) (rest := []) (σ := σ) X wm_X6_22 (c_X6_within l g v2 (0 : Int32) (4 : Int32) σ _ hB _) hP hS rfl rfl hl.1 (Nat.le_of_ble_eq_true rfl) ⟨Nat.le_of_ble_eq_true rfl, Nat.le_of_ble_eq_true rfl⟩ ⟨Nat.zero_le _, Nat.zero_le _⟩ dX6_head_14) hS (fun r_4 σ_5 H locs hB hP hS => ?_)
    obtain ⟨eσ_5, hB⟩ := hB
    rw [eσ_5] at hP
    refine lv_if_eq (tgt := 29) hx hb dX6_head_17 (by decide) (fun c_6 => ?_) (fun c_6 => ?_)
    · have hB := hB.1 c_6
      refine lv_ldc (v := -1000003) hx hb hown (hts _ wc_X6_26) dX6_head_29 ?_
      rw [hQm]
      exact W.iret hx hb hr (fun t ht hW => ⟨⟨(-1000003 : Int32), σ, rfl, ⟨rfl, hB⟩, cd_hp ht hP⟩, hS.F ht⟩) hS.2.2 dX6_head_31
    · have hB := hB.2 c_6
      refine lv_aload_n hx hb dX6_head_20 rfl (lv_at hl 0 rfl) ?_
      refine lv_iload_n hx hb dX6_head_21 rfl (lv_at hl 1 rfl) ?_
      refine lv_iload_n hx hb dX6_head_22 rfl (lv_at hl 2 rfl) ?_
      refine cd_ci (cd_runV (As := [.int v1, .int v2]) (rest := []) (σ := σ) (k := 19) (ci := 6) X wm_X6_102 (by decide) rfl rfl rfl (c_X6_headNow l g v1 v2 σ _ hB _) hP hS rfl rfl hl.1 (Nat.le_of_ble_eq_true rfl) ⟨Nat.le_of_ble_eq_true rfl, Nat.le_of_ble_eq_true rfl⟩ ⟨Nat.zero_le _, Nat.zero_le _⟩ dX6_head_23) hS (fun r_7 σ_8 H locs hB hP hS => ?_)
      obtain ⟨eσ_8, hB⟩ := hB
      rw [eσ_8] at hP
      refine lv_goto (tgt := 31) hx hb dX6_head_26 (by decide) ?_
      rw [hQm]
      exact W.iret hx hb hr (fun t ht hW => ⟨⟨r_7, σ, rfl, ⟨rfl, hB⟩, cd_hp ht hP⟩, hS.F ht⟩) hS.2.2 dX6_head_31
  · have hB := hB.2 c_3
    refine lv_ldc (v := -1000002) hx hb hown (hts _ wc_X6_68) dX6_head_8 ?_
    rw [hQm]
    exact W.iret hx hb hr (fun t ht hW => ⟨⟨(-1000002 : Int32), σ, rfl, ⟨rfl, hB⟩, cd_hp ht hP⟩, hS.F ht⟩) hS.2.2 dX6_head_10
def wp_X6_letter (v1 : Int32) (σ : cdS) (Q : Int32 → cdS → Prop) : Prop :=
  
    wp_X6_within v1 (32 : Int32) (126 : Int32) σ (fun r_1 => 
    ((¬ r_1 = 0 →
    ((¬ (σ.1 19 0) = (60 : Int32) →
    vp_in (σ.1 19 0) 60 ∧ ∀ σ_6 : cdS, σ_6 = cdU σ 20 ((σ.1 19 0)).toNatClampNeg v1 →
    ∀ σ_7 : cdS, σ_7 = cdU σ_6 19 0 ((σ_6.1 19 0) + (1 : Int32)) →
    Q (σ_7.1 19 0) σ_7) ∧
    ((σ.1 19 0) = (60 : Int32) →
    Q (-1000005 : Int32) σ))) ∧
    (r_1 = 0 →
    Q (-1000003 : Int32) σ)))
set_option maxHeartbeats 4000000 in
set_option maxRecDepth 100000 in
theorem c_X6_letter (l : Launch) (g : cdG) (v1 : Int32) (σ : cdS) (Q : Int32 → cdS → Prop) (hwp : wp_X6_letter v1 σ Q) : cdCi l g yX6_letter cX6_letter 2 (some .int) 1 22 [.ref (cdA g 19), .int v1] σ Q := by
  intro sz
  refine Met.ofW (cc := cX6_letter) (maxL := 2) (ret := (some .int)) (by decide) rfl ?_
  intro p e s m args below meth c s₁ B hml hv
  obtain ⟨rfl, hsz, hP, hK, hdi, hV⟩ := hv
  subst hsz
  have hx := B.exec
  have hb := B.bytes
  have hr := B.returns
  have hlocks := B.notSynchronized
  have hown : s.vm.findClass RX6 = some m.cls := findClass_of_methodNamed B.named
  have hts : ∀ w ∈ cdL, w.before _ s = true := fun w hw => atoms_spec (ws := cdWs yX6_letter cX6_letter 2 (some .int)) B.pre w (List.mem_cons_of_mem _ hw)
  have X : cdX p s m _ c cX6_letter 2 RX6 g := ⟨hx, hb, hml, hown, hts, hK, hdi, hV⟩
  have hS : va_S (cdZ g s.heap.size) s.heap s.heap [] := va_S.rf
  have hl := lv_entry ([.ref (cdA g 19), .int v1]) (n := 2) (Nat.le_of_ble_eq_true rfl)
  rw [lg_entry_eq]
  generalize (lg_sl ([.ref (cdA g 19), .int v1]) ++ List.replicate (2 - (lg_sl ([.ref (cdA g 19), .int v1])).length) Slot.unset).toArray = ls at hl ⊢
  have hl : lv_has ls 2 [(0, .ref (cdA g 19)), (1, .int v1)] := hl
  obtain ⟨Qm, hQm⟩ : ∃ z, z = MQ below (va_Qi Q (fun σ' t => va_P (cdD g) vwCl (cdW g σ') t.heap) (cdZ g s.heap.size)) ([.ref (cdA g 19), .int v1] : List Value).toArray s 0 0 (cdZ g s.heap.size) := ⟨_, rfl⟩
  rw [← hQm]
  have hB := hwp
  refine lv_iload_n hx hb dX6_letter_0 rfl (lv_at hl 1 rfl) ?_
  refine lv_bipush (v := 32) hx hb dX6_letter_1 (by decide) ?_
  refine lv_bipush (v := 126) hx hb dX6_letter_3 (by decide) ?_
  refine cd_ci (cd_runS (As := [.int v1, .int (32 : Int32), .int (126 : Int32)]) (rest := []) (σ := σ) X wm_X6_22 (c_X6_within l g v1 (32 : Int32) (126 : Int32) σ _ hB _) hP hS rfl rfl hl.1 (Nat.le_of_ble_eq_true rfl) ⟨Nat.le_of_ble_eq_true rfl, Nat.le_of_ble_eq_true rfl⟩ ⟨Nat.zero_le _, Nat.zero_le _⟩ dX6_letter_5) hS (fun r_1 σ_2 H locs hB hP hS => ?_)
  obtain ⟨eσ_2, hB⟩ := hB
  rw [eσ_2] at hP
  refine lv_if_ne (tgt := 14) hx hb dX6_letter_8 (by decide) (fun c_3 => ?_) (fun c_3 => ?_)
  · have hB := hB.1 c_3
    refine lv_aload_n hx hb dX6_letter_14 rfl (lv_at hl 0 rfl) ?_
    refine cd_get X hP (C := RX6) (T := TX6) (N := 20) (ci := 6) (k := 19) (j := 0) (v := .int (σ.1 19 0)) inX6 (by decide) rfl rfl (by decide) wf_X6_27 rfl rfl dX6_letter_15 ?_
    refine lv_bipush (v := 60) hx hb dX6_letter_18 (by decide) ?_
    refine lv_icmp_ne (tgt := 26) hx hb dX6_letter_20 (by decide) (fun c_4 => ?_) (fun c_4 => ?_)
    · have hB := hB.1 c_4
      refine lv_aload_n hx hb dX6_letter_26 rfl (lv_at hl 0 rfl) ?_
      refine cd_get X hP (C := RX6) (T := TX6) (N := 20) (ci := 6) (k := 19) (j := 1) (v := .ref (cdA g 20)) inX6 (by decide) rfl rfl (by decide) wf_X6_7 rfl rfl dX6_letter_27 ?_
      refine lv_aload_n hx hb dX6_letter_30 rfl (lv_at hl 0 rfl) ?_
      refine cd_get X hP (C := RX6) (T := TX6) (N := 20) (ci := 6) (k := 19) (j := 0) (v := .int (σ.1 19 0)) inX6 (by decide) rfl rfl (by decide) wf_X6_27 rfl rfl dX6_letter_31 ?_
      refine lv_iload_n hx hb dX6_letter_34 rfl (lv_at hl 1 rfl) ?_
      obtain ⟨i_5, hB⟩ := hB
      refine cd_ast X hP hS (k := 20) (N := 60) (by decide) (fun _ => rfl) i_5 dX6_letter_35 (fun H locs hP hS => ?_)
      obtain ⟨σ_6, eσ_6⟩ : ∃ z : cdS, z = cdU σ 20 ((σ.1 19 0)).toNatClampNeg v1 := ⟨_, rfl⟩
      rw [← eσ_6] at hP
      have hB := hB σ_6 eσ_6
      refine lv_aload_n hx hb dX6_letter_36 rfl (lv_at hl 0 rfl) ?_
      refine lv_dup hx hb dX6_letter_37 rfl ?_
      refine cd_get X hP (C := RX6) (T := TX6) (N := 20) (ci := 6) (k := 19) (j := 0) (v := .int (σ_6.1 19 0)) inX6 (by decide) rfl rfl (by decide) wf_X6_27 rfl rfl dX6_letter_38 ?_
      refine lv_iconst (v := 1) hx hb dX6_letter_41 (by decide) ?_
      refine lv_iadd hx hb dX6_letter_42 ?_
      refine cd_put X hP hS (C := RX6) (T := TX6) (N := 20) (ci := 6) (k := 19) (j := 0) (v := .int ((σ_6.1 19 0) + (1 : Int32))) (σ' := cdU σ_6 19 0 ((σ_6.1 19 0) + (1 : Int32))) inX6 tyX6 tyX6_ok nmX6 (by decide) rfl rfl (by decide) wf_X6_27 rfl rfl (tyX6_ok 0 (by decide)) rfl rfl (Nat.le_of_ble_eq_true rfl) (cdW_U (by decide) rfl) dX6_letter_43 (fun H locs hP hS => ?_)
      obtain ⟨σ_7, eσ_7⟩ : ∃ z : cdS, z = cdU σ_6 19 0 ((σ_6.1 19 0) + (1 : Int32)) := ⟨_, rfl⟩
      rw [← eσ_7] at hP
      have hB := hB σ_7 eσ_7
      refine lv_aload_n hx hb dX6_letter_46 rfl (lv_at hl 0 rfl) ?_
      refine cd_get X hP (C := RX6) (T := TX6) (N := 20) (ci := 6) (k := 19) (j := 0) (v := .int (σ_7.1 19 0)) inX6 (by decide) rfl rfl (by decide) wf_X6_27 rfl rfl dX6_letter_47 ?_
      rw [hQm]
      exact W.iret hx hb hr (fun t ht hW => ⟨⟨(σ_7.1 19 0), σ_7, rfl, hB, cd_hp ht hP⟩, hS.F ht⟩) hS.2.2 dX6_letter_50
    · have hB := hB.2 c_4
      refine lv_ldc (v := -1000005) hx hb hown (hts _ wc_X6_31) dX6_letter_23 ?_
      rw [hQm]
      exact W.iret hx hb hr (fun t ht hW => ⟨⟨(-1000005 : Int32), σ, rfl, hB, cd_hp ht hP⟩, hS.F ht⟩) hS.2.2 dX6_letter_25
  · have hB := hB.2 c_3
    refine lv_ldc (v := -1000003) hx hb hown (hts _ wc_X6_26) dX6_letter_11 ?_
    rw [hQm]
    exact W.iret hx hb hr (fun t ht hW => ⟨⟨(-1000003 : Int32), σ, rfl, hB, cd_hp ht hP⟩, hS.F ht⟩) hS.2.2 dX6_letter_13
def wp_X6_take  (σ : cdS) (Q : Int32 → cdS → Prop) : Prop :=
  ∀ (P58 : Int32 → cdS → Prop) (P96 : Int32 → Int32 → cdS → Prop),
    (∀ (x1 : Int32) (σ : cdS), (
    (((49 : Int32) ≤ x1 →
    ∀ x1_9 : Int32, x1_9 = (((σ.1 19 10) - (1 : Int32)) / (2 : Int32)) →
    P96 x1_9 (0 : Int32) σ) ∧
    (¬ ((49 : Int32) ≤ x1) →
    vp_in (((49 : Int32) * (σ.1 19 2)) + x1) 245 ∧ ∀ σ_11 : cdS, σ_11 = cdU σ 22 ((((49 : Int32) * (σ.1 19 2)) + x1)).toNatClampNeg (0 : Int32) →
    ∀ x1_12 : Int32, x1_12 = x1 + 1 →
    P58 x1_12 σ_11))) → P58 x1 σ) →
    (∀ (x1 : Int32) (x2 : Int32) (σ : cdS), (
    ((((σ.1 19 10) * (σ.1 19 10)) ≤ x2 →
    vp_in (σ.1 19 2) 5 ∧ ∀ σ_15 : cdS, σ_15 = cdU σ 21 ((σ.1 19 2)).toNatClampNeg (σ.1 19 10) →
    ∀ σ_16 : cdS, σ_16 = cdU σ_15 19 2 ((σ_15.1 19 2) + (1 : Int32)) →
    ∀ σ_17 : cdS, σ_17 = cdU σ_16 19 5 ((σ_16.1 19 5) + (1 : Int32)) →
    ∀ σ_18 : cdS, σ_18 = cdU σ_17 19 0 (0 : Int32) →
    Q ((σ_18.1 19 2) - (1 : Int32)) σ_18) ∧
    (¬ (((σ.1 19 10) * (σ.1 19 10)) ≤ x2) →
    ¬ (σ.1 19 10) = 0 ∧
    ¬ (σ.1 19 10) = 0 ∧
    vp_in (((x2 / (σ.1 19 10)) * ((σ.1 19 10) + (1 : Int32))) + (cdm x2 (σ.1 19 10))) 60 ∧
    ∀ x3_22 : Int32, x3_22 = (σ.1 20 ((((x2 / (σ.1 19 10)) * ((σ.1 19 10) + (1 : Int32))) + (cdm x2 (σ.1 19 10)))).toNatClampNeg) →
    ¬ (σ.1 19 10) = 0 ∧
    ¬ (σ.1 19 10) = 0 ∧
    wp_X6_cell (σ.1 19 2) ((cdm x2 (σ.1 19 10)) - x1) (x1 - (x2 / (σ.1 19 10))) σ (fun r_25 => 
    wp_X6_depthOf x3_22 σ (fun r_27 => 
    vp_in r_25 245 ∧ ∀ σ_30 : cdS, σ_30 = cdU σ 22 (r_25).toNatClampNeg r_27 →
    ∀ x2_31 : Int32, x2_31 = x2 + 1 →
    P96 x1 x2_31 σ_30))))) → P96 x1 x2 σ) →
    
    wp_X6_goAlong σ (fun r_1 σ_2 => 
    ((r_1 < (σ_2.1 19 0) →
    Q (-1000004 : Int32) σ_2) ∧
    (¬ (r_1 < (σ_2.1 19 0)) →
    (((σ_2.1 19 10) = 0 →
    Q (-1000004 : Int32) σ_2) ∧
    (¬ ((σ_2.1 19 10) = 0) →
    ((¬ (σ_2.1 19 8) = (σ_2.1 19 10) →
    Q (-1000004 : Int32) σ_2) ∧
    ((σ_2.1 19 8) = (σ_2.1 19 10) →
    ((((σ_2.1 19 9) + (1 : Int32)) = (σ_2.1 19 10) →
    ((¬ (σ_2.1 19 2) = (4 : Int32) →
    P58 (0 : Int32) σ_2) ∧
    ((σ_2.1 19 2) = (4 : Int32) →
    Q (-1000005 : Int32) σ_2))) ∧
    (¬ (((σ_2.1 19 9) + (1 : Int32)) = (σ_2.1 19 10)) →
    Q (-1000004 : Int32) σ_2)))))))))
set_option maxHeartbeats 4000000 in
set_option maxRecDepth 100000 in
theorem c_X6_take (l : Launch) (g : cdG)  (σ : cdS) (Q : Int32 → cdS → Prop) (hwp : wp_X6_take  σ Q) : cdCi l g yX6_take cX6_take 4 (some .int) 4 85 [.ref (cdA g 19)] σ Q := by
  intro sz
  refine Met.ofW (cc := cX6_take) (maxL := 4) (ret := (some .int)) (by decide) rfl ?_
  intro p e s m args below meth c s₁ B hml hv
  obtain ⟨rfl, hsz, hP, hK, hdi, hV⟩ := hv
  subst hsz
  have hx := B.exec
  have hb := B.bytes
  have hr := B.returns
  have hlocks := B.notSynchronized
  have hown : s.vm.findClass RX6 = some m.cls := findClass_of_methodNamed B.named
  have hts : ∀ w ∈ cdL, w.before _ s = true := fun w hw => atoms_spec (ws := cdWs yX6_take cX6_take 4 (some .int)) B.pre w (List.mem_cons_of_mem _ hw)
  have X : cdX p s m _ c cX6_take 4 RX6 g := ⟨hx, hb, hml, hown, hts, hK, hdi, hV⟩
  have hS : va_S (cdZ g s.heap.size) s.heap s.heap [] := va_S.rf
  have hl := lv_entry ([.ref (cdA g 19)]) (n := 4) (Nat.le_of_ble_eq_true rfl)
  rw [lg_entry_eq]
  generalize (lg_sl ([.ref (cdA g 19)]) ++ List.replicate (4 - (lg_sl ([.ref (cdA g 19)])).length) Slot.unset).toArray = ls at hl ⊢
  have hl : lv_has ls 4 [(0, .ref (cdA g 19))] := hl
  obtain ⟨Qm, hQm⟩ : ∃ z, z = MQ below (va_Qi Q (fun σ' t => va_P (cdD g) vwCl (cdW g σ') t.heap) (cdZ g s.heap.size)) ([.ref (cdA g 19)] : List Value).toArray s 0 0 (cdZ g s.heap.size) := ⟨_, rfl⟩
  rw [← hQm]
  have hB := hwp (fun (x1 : Int32) (σ : cdS) => cdCut p l e (headSpec (cdWs yX6_take cX6_take 4 (some .int)) (cdRm 4 85)).room s m ([.ref (cdA g 19)] : List Value).toArray below meth c Qm g 4 58 [(0, .ref (cdA g 19)), (1, .int x1)] [] σ)
    (fun (x1 : Int32) (x2 : Int32) (σ : cdS) => cdCut p l e (headSpec (cdWs yX6_take cX6_take 4 (some .int)) (cdRm 4 85)).room s m ([.ref (cdA g 19)] : List Value).toArray below meth c Qm g 4 96 [(0, .ref (cdA g 19)), (1, .int x1), (2, .int x2)] [] σ)
    (by
    intro x1 σ hB H locs ls hP hS hl
    refine lv_iload_n hx hb dX6_take_58 rfl (lv_at hl 1 rfl) ?_
    refine lv_bipush (v := 49) hx hb dX6_take_59 (by decide) ?_
    refine lv_icmp_ge (tgt := 85) hx hb dX6_take_61 (by decide) (fun c_8 => ?_) (fun c_8 => ?_)
    · have hB := hB.1 c_8
      refine lv_aload_n hx hb dX6_take_85 rfl (lv_at hl 0 rfl) ?_
      refine cd_get X hP (C := RX6) (T := TX6) (N := 20) (ci := 6) (k := 19) (j := 10) (v := .int (σ.1 19 10)) inX6 (by decide) rfl rfl (by decide) wf_X6_33 rfl rfl dX6_take_86 ?_
      refine lv_iconst (v := 1) hx hb dX6_take_89 (by decide) ?_
      refine lv_isub hx hb dX6_take_90 ?_
      refine lv_iconst (v := 2) hx hb dX6_take_91 (by decide) ?_
      refine lv_idiv hx hb dX6_take_92 (by decide) ?_
      refine lv_topi (fun x1_9 ex1_9 => ?_)
      have hB := hB x1_9 ex1_9
      refine lv_istore_n (lv' := [(1, .int x1_9), (0, .ref (cdA g 19))]) hx hb dX6_take_93 rfl hl (by decide) rfl (fun ls hl => ?_)
      refine lv_iconst (v := 0) hx hb dX6_take_94 (by decide) ?_
      refine lv_istore_n (lv' := [(2, .int (0 : Int32)), (1, .int x1_9), (0, .ref (cdA g 19))]) hx hb dX6_take_95 rfl hl (by decide) rfl (fun ls hl => ?_)
      exact hB _ _ _ hP hS (lv_sub hl [2, 1, 0] rfl)
    · have hB := hB.2 c_8
      refine lv_aload_n hx hb dX6_take_64 rfl (lv_at hl 0 rfl) ?_
      refine cd_get X hP (C := RX6) (T := TX6) (N := 20) (ci := 6) (k := 19) (j := 4) (v := .ref (cdA g 22)) inX6 (by decide) rfl rfl (by decide) wf_X6_16 rfl rfl dX6_take_65 ?_
      refine lv_bipush (v := 49) hx hb dX6_take_68 (by decide) ?_
      refine lv_aload_n hx hb dX6_take_70 rfl (lv_at hl 0 rfl) ?_
      refine cd_get X hP (C := RX6) (T := TX6) (N := 20) (ci := 6) (k := 19) (j := 2) (v := .int (σ.1 19 2)) inX6 (by decide) rfl rfl (by decide) wf_X6_59 rfl rfl dX6_take_71 ?_
      refine lv_imul hx hb dX6_take_74 ?_
      refine lv_iload_n hx hb dX6_take_75 rfl (lv_at hl 1 rfl) ?_
      refine lv_iadd hx hb dX6_take_76 ?_
      refine lv_iconst (v := 0) hx hb dX6_take_77 (by decide) ?_
      obtain ⟨i_10, hB⟩ := hB
      refine cd_ast X hP hS (k := 22) (N := 245) (by decide) (fun _ => rfl) i_10 dX6_take_78 (fun H locs hP hS => ?_)
      obtain ⟨σ_11, eσ_11⟩ : ∃ z : cdS, z = cdU σ 22 ((((49 : Int32) * (σ.1 19 2)) + x1)).toNatClampNeg (0 : Int32) := ⟨_, rfl⟩
      rw [← eσ_11] at hP
      have hB := hB σ_11 eσ_11
      obtain ⟨x1_12, ex1_12⟩ : ∃ z : Int32, z = x1 + 1 := ⟨_, rfl⟩
      have hB := hB x1_12 ex1_12
      refine lv_iinc (v := x1_12) (lv' := [(1, .int x1_12), (0, .ref (cdA g 19))]) hx hb dX6_take_79 hl (k := 1) rfl (by rw [ex1_12]; rfl) (by decide) rfl (fun ls hl => ?_)
      refine lv_goto (tgt := 58) hx hb dX6_take_82 (by decide) ?_
      exact hB _ _ _ hP hS (lv_sub hl [1, 0] rfl))
    (by
    intro x1 x2 σ hB H locs ls hP hS hl
    refine lv_iload_n hx hb dX6_take_96 rfl (lv_at hl 2 rfl) ?_
    refine lv_aload_n hx hb dX6_take_97 rfl (lv_at hl 0 rfl) ?_
    refine cd_get X hP (C := RX6) (T := TX6) (N := 20) (ci := 6) (k := 19) (j := 10) (v := .int (σ.1 19 10)) inX6 (by decide) rfl rfl (by decide) wf_X6_33 rfl rfl dX6_take_98 ?_
    refine lv_aload_n hx hb dX6_take_101 rfl (lv_at hl 0 rfl) ?_
    refine cd_get X hP (C := RX6) (T := TX6) (N := 20) (ci := 6) (k := 19) (j := 10) (v := .int (σ.1 19 10)) inX6 (by decide) rfl rfl (by decide) wf_X6_33 rfl rfl dX6_take_102 ?_
    refine lv_imul hx hb dX6_take_105 ?_
    refine lv_icmp_ge (tgt := 173) hx hb dX6_take_106 (by decide) (fun c_13 => ?_) (fun c_13 => ?_)
    · have hB := hB.1 c_13
      refine lv_aload_n hx hb dX6_take_173 rfl (lv_at hl 0 rfl) ?_
      refine cd_get X hP (C := RX6) (T := TX6) (N := 20) (ci := 6) (k := 19) (j := 3) (v := .ref (cdA g 21)) inX6 (by decide) rfl rfl (by decide) wf_X6_13 rfl rfl dX6_take_174 ?_
      refine lv_aload_n hx hb dX6_take_177 rfl (lv_at hl 0 rfl) ?_
      refine cd_get X hP (C := RX6) (T := TX6) (N := 20) (ci := 6) (k := 19) (j := 2) (v := .int (σ.1 19 2)) inX6 (by decide) rfl rfl (by decide) wf_X6_59 rfl rfl dX6_take_178 ?_
      refine lv_aload_n hx hb dX6_take_181 rfl (lv_at hl 0 rfl) ?_
      refine cd_get X hP (C := RX6) (T := TX6) (N := 20) (ci := 6) (k := 19) (j := 10) (v := .int (σ.1 19 10)) inX6 (by decide) rfl rfl (by decide) wf_X6_33 rfl rfl dX6_take_182 ?_
      obtain ⟨i_14, hB⟩ := hB
      refine cd_ast X hP hS (k := 21) (N := 5) (by decide) (fun _ => rfl) i_14 dX6_take_185 (fun H locs hP hS => ?_)
      obtain ⟨σ_15, eσ_15⟩ : ∃ z : cdS, z = cdU σ 21 ((σ.1 19 2)).toNatClampNeg (σ.1 19 10) := ⟨_, rfl⟩
      rw [← eσ_15] at hP
      have hB := hB σ_15 eσ_15
      refine lv_aload_n hx hb dX6_take_186 rfl (lv_at hl 0 rfl) ?_
      refine lv_dup hx hb dX6_take_187 rfl ?_
      refine cd_get X hP (C := RX6) (T := TX6) (N := 20) (ci := 6) (k := 19) (j := 2) (v := .int (σ_15.1 19 2)) inX6 (by decide) rfl rfl (by decide) wf_X6_59 rfl rfl dX6_take_188 ?_
      refine lv_iconst (v := 1) hx hb dX6_take_191 (by decide) ?_
      refine lv_iadd hx hb dX6_take_192 ?_
      refine cd_put X hP hS (C := RX6) (T := TX6) (N := 20) (ci := 6) (k := 19) (j := 2) (v := .int ((σ_15.1 19 2) + (1 : Int32))) (σ' := cdU σ_15 19 2 ((σ_15.1 19 2) + (1 : Int32))) inX6 tyX6 tyX6_ok nmX6 (by decide) rfl rfl (by decide) wf_X6_59 rfl rfl (tyX6_ok 2 (by decide)) rfl rfl (Nat.le_of_ble_eq_true rfl) (cdW_U (by decide) rfl) dX6_take_193 (fun H locs hP hS => ?_)
      obtain ⟨σ_16, eσ_16⟩ : ∃ z : cdS, z = cdU σ_15 19 2 ((σ_15.1 19 2) + (1 : Int32)) := ⟨_, rfl⟩
      rw [← eσ_16] at hP
      have hB := hB σ_16 eσ_16
      refine lv_aload_n hx hb dX6_take_196 rfl (lv_at hl 0 rfl) ?_
      refine lv_dup hx hb dX6_take_197 rfl ?_
      refine cd_get X hP (C := RX6) (T := TX6) (N := 20) (ci := 6) (k := 19) (j := 5) (v := .int (σ_16.1 19 5)) inX6 (by decide) rfl rfl (by decide) wf_X6_62 rfl rfl dX6_take_198 ?_
      refine lv_iconst (v := 1) hx hb dX6_take_201 (by decide) ?_
      refine lv_iadd hx hb dX6_take_202 ?_
      refine cd_put X hP hS (C := RX6) (T := TX6) (N := 20) (ci := 6) (k := 19) (j := 5) (v := .int ((σ_16.1 19 5) + (1 : Int32))) (σ' := cdU σ_16 19 5 ((σ_16.1 19 5) + (1 : Int32))) inX6 tyX6 tyX6_ok nmX6 (by decide) rfl rfl (by decide) wf_X6_62 rfl rfl (tyX6_ok 5 (by decide)) rfl rfl (Nat.le_of_ble_eq_true rfl) (cdW_U (by decide) rfl) dX6_take_203 (fun H locs hP hS => ?_)
      obtain ⟨σ_17, eσ_17⟩ : ∃ z : cdS, z = cdU σ_16 19 5 ((σ_16.1 19 5) + (1 : Int32)) := ⟨_, rfl⟩
      rw [← eσ_17] at hP
      have hB := hB σ_17 eσ_17
      refine lv_aload_n hx hb dX6_take_206 rfl (lv_at hl 0 rfl) ?_
      refine lv_iconst (v := 0) hx hb dX6_take_207 (by decide) ?_
      refine cd_put X hP hS (C := RX6) (T := TX6) (N := 20) (ci := 6) (k := 19) (j := 0) (v := .int (0 : Int32)) (σ' := cdU σ_17 19 0 (0 : Int32)) inX6 tyX6 tyX6_ok nmX6 (by decide) rfl rfl (by decide) wf_X6_27 rfl rfl (tyX6_ok 0 (by decide)) rfl rfl (Nat.le_of_ble_eq_true rfl) (cdW_U (by decide) rfl) dX6_take_208 (fun H locs hP hS => ?_)
      obtain ⟨σ_18, eσ_18⟩ : ∃ z : cdS, z = cdU σ_17 19 0 (0 : Int32) := ⟨_, rfl⟩
      rw [← eσ_18] at hP
      have hB := hB σ_18 eσ_18
      refine lv_aload_n hx hb dX6_take_211 rfl (lv_at hl 0 rfl) ?_
      refine cd_get X hP (C := RX6) (T := TX6) (N := 20) (ci := 6) (k := 19) (j := 2) (v := .int (σ_18.1 19 2)) inX6 (by decide) rfl rfl (by decide) wf_X6_59 rfl rfl dX6_take_212 ?_
      refine lv_iconst (v := 1) hx hb dX6_take_215 (by decide) ?_
      refine lv_isub hx hb dX6_take_216 ?_
      rw [hQm]
      exact W.iret hx hb hr (fun t ht hW => ⟨⟨((σ_18.1 19 2) - (1 : Int32)), σ_18, rfl, hB, cd_hp ht hP⟩, hS.F ht⟩) hS.2.2 dX6_take_217
    · have hB := hB.2 c_13
      refine lv_aload_n hx hb dX6_take_109 rfl (lv_at hl 0 rfl) ?_
      refine cd_get X hP (C := RX6) (T := TX6) (N := 20) (ci := 6) (k := 19) (j := 1) (v := .ref (cdA g 20)) inX6 (by decide) rfl rfl (by decide) wf_X6_7 rfl rfl dX6_take_110 ?_
      refine lv_iload_n hx hb dX6_take_113 rfl (lv_at hl 2 rfl) ?_
      refine lv_aload_n hx hb dX6_take_114 rfl (lv_at hl 0 rfl) ?_
      refine cd_get X hP (C := RX6) (T := TX6) (N := 20) (ci := 6) (k := 19) (j := 10) (v := .int (σ.1 19 10)) inX6 (by decide) rfl rfl (by decide) wf_X6_33 rfl rfl dX6_take_115 ?_
      obtain ⟨z_19, hB⟩ := hB
      refine lv_idiv hx hb dX6_take_118 z_19 ?_
      refine lv_aload_n hx hb dX6_take_119 rfl (lv_at hl 0 rfl) ?_
      refine cd_get X hP (C := RX6) (T := TX6) (N := 20) (ci := 6) (k := 19) (j := 10) (v := .int (σ.1 19 10)) inX6 (by decide) rfl rfl (by decide) wf_X6_33 rfl rfl dX6_take_120 ?_
      refine lv_iconst (v := 1) hx hb dX6_take_123 (by decide) ?_
      refine lv_iadd hx hb dX6_take_124 ?_
      refine lv_imul hx hb dX6_take_125 ?_
      refine lv_iload_n hx hb dX6_take_126 rfl (lv_at hl 2 rfl) ?_
      refine lv_aload_n hx hb dX6_take_127 rfl (lv_at hl 0 rfl) ?_
      refine cd_get X hP (C := RX6) (T := TX6) (N := 20) (ci := 6) (k := 19) (j := 10) (v := .int (σ.1 19 10)) inX6 (by decide) rfl rfl (by decide) wf_X6_33 rfl rfl dX6_take_128 ?_
      obtain ⟨z_20, hB⟩ := hB
      refine lv_irem hx hb dX6_take_131 z_20 ?_
      refine lv_iadd hx hb dX6_take_132 ?_
      obtain ⟨i_21, hB⟩ := hB
      refine cd_ald X hP (k := 20) (N := 60) (by decide) rfl i_21 dX6_take_133 ?_
      refine lv_topi (fun x3_22 ex3_22 => ?_)
      have hB := hB x3_22 ex3_22
      refine lv_istore_n (lv' := [(3, .int x3_22), (0, .ref (cdA g 19)), (1, .int x1), (2, .int x2)]) hx hb dX6_take_134 rfl hl (by decide) rfl (fun ls hl => ?_)
      refine lv_aload_n hx hb dX6_take_135 rfl (lv_at hl 1 rfl) ?_
      refine cd_get X hP (C := RX6) (T := TX6) (N := 20) (ci := 6) (k := 19) (j := 4) (v := .ref (cdA g 22)) inX6 (by decide) rfl rfl (by decide) wf_X6_16 rfl rfl dX6_take_136 ?_
      refine lv_aload_n hx hb dX6_take_139 rfl (lv_at hl 1 rfl) ?_
      refine cd_get X hP (C := RX6) (T := TX6) (N := 20) (ci := 6) (k := 19) (j := 2) (v := .int (σ.1 19 2)) inX6 (by decide) rfl rfl (by decide) wf_X6_59 rfl rfl dX6_take_140 ?_
      refine lv_iload_n hx hb dX6_take_143 rfl (lv_at hl 3 rfl) ?_
      refine lv_aload_n hx hb dX6_take_144 rfl (lv_at hl 1 rfl) ?_
      refine cd_get X hP (C := RX6) (T := TX6) (N := 20) (ci := 6) (k := 19) (j := 10) (v := .int (σ.1 19 10)) inX6 (by decide) rfl rfl (by decide) wf_X6_33 rfl rfl dX6_take_145 ?_
      obtain ⟨z_23, hB⟩ := hB
      refine lv_irem hx hb dX6_take_148 z_23 ?_
      refine lv_iload_n hx hb dX6_take_149 rfl (lv_at hl 2 rfl) ?_
      refine lv_isub hx hb dX6_take_150 ?_
      refine lv_iload_n hx hb dX6_take_151 rfl (lv_at hl 2 rfl) ?_
      refine lv_iload_n hx hb dX6_take_152 rfl (lv_at hl 3 rfl) ?_
      refine lv_aload_n hx hb dX6_take_153 rfl (lv_at hl 1 rfl) ?_
      refine cd_get X hP (C := RX6) (T := TX6) (N := 20) (ci := 6) (k := 19) (j := 10) (v := .int (σ.1 19 10)) inX6 (by decide) rfl rfl (by decide) wf_X6_33 rfl rfl dX6_take_154 ?_
      obtain ⟨z_24, hB⟩ := hB
      refine lv_idiv hx hb dX6_take_157 z_24 ?_
      refine lv_isub hx hb dX6_take_158 ?_
      refine cd_ci (cd_runS (As := [.int (σ.1 19 2), .int ((cdm x2 (σ.1 19 10)) - x1), .int (x1 - (x2 / (σ.1 19 10)))]) (rest := [.ref (cdA g 22)]) (σ := σ) X wm_X6_54 (c_X6_cell l g (σ.1 19 2) ((cdm x2 (σ.1 19 10)) - x1) (x1 - (x2 / (σ.1 19 10))) σ _ hB _) hP hS rfl rfl hl.1 (Nat.le_of_ble_eq_true rfl) ⟨Nat.le_of_ble_eq_true rfl, Nat.le_of_ble_eq_true rfl⟩ ⟨Nat.zero_le _, Nat.zero_le _⟩ dX6_take_159) hS (fun r_25 σ_26 H locs hB hP hS => ?_)
      obtain ⟨eσ_26, hB⟩ := hB
      rw [eσ_26] at hP
      refine lv_iload_n hx hb dX6_take_162 rfl (lv_at hl 0 rfl) ?_
      refine cd_ci (cd_runS (As := [.int x3_22]) (rest := [.int r_25, .ref (cdA g 22)]) (σ := σ) X wm_X6_42 (c_X6_depthOf l g x3_22 σ _ hB _) hP hS rfl rfl hl.1 (Nat.le_of_ble_eq_true rfl) ⟨Nat.le_of_ble_eq_true rfl, Nat.le_of_ble_eq_true rfl⟩ ⟨Nat.zero_le _, Nat.zero_le _⟩ dX6_take_163) hS (fun r_27 σ_28 H locs hB hP hS => ?_)
      obtain ⟨eσ_28, hB⟩ := hB
      rw [eσ_28] at hP
      obtain ⟨i_29, hB⟩ := hB
      refine cd_ast X hP hS (k := 22) (N := 245) (by decide) (fun _ => rfl) i_29 dX6_take_166 (fun H locs hP hS => ?_)
      obtain ⟨σ_30, eσ_30⟩ : ∃ z : cdS, z = cdU σ 22 (r_25).toNatClampNeg r_27 := ⟨_, rfl⟩
      rw [← eσ_30] at hP
      have hB := hB σ_30 eσ_30
      obtain ⟨x2_31, ex2_31⟩ : ∃ z : Int32, z = x2 + 1 := ⟨_, rfl⟩
      have hB := hB x2_31 ex2_31
      refine lv_iinc (v := x2_31) (lv' := [(2, .int x2_31), (3, .int x3_22), (0, .ref (cdA g 19)), (1, .int x1)]) hx hb dX6_take_167 hl (k := 3) rfl (by rw [ex2_31]; rfl) (by decide) rfl (fun ls hl => ?_)
      refine lv_goto (tgt := 96) hx hb dX6_take_170 (by decide) ?_
      exact hB _ _ _ hP hS (lv_sub hl [2, 3, 0] rfl))
  refine lv_aload_n hx hb dX6_take_0 rfl (lv_at hl 0 rfl) ?_
  refine cd_ci (cd_runV (As := []) (rest := []) (σ := σ) (k := 19) (ci := 6) X wm_X6_50 (by decide) rfl rfl rfl (c_X6_goAlong l g  σ _ hB _) hP hS rfl rfl hl.1 (Nat.le_of_ble_eq_true rfl) ⟨Nat.le_of_ble_eq_true rfl, Nat.le_of_ble_eq_true rfl⟩ ⟨Nat.zero_le _, Nat.zero_le _⟩ dX6_take_1) hS (fun r_1 σ_2 H locs hB hP hS => ?_)
  refine lv_aload_n hx hb dX6_take_4 rfl (lv_at hl 0 rfl) ?_
  refine cd_get X hP (C := RX6) (T := TX6) (N := 20) (ci := 6) (k := 19) (j := 0) (v := .int (σ_2.1 19 0)) inX6 (by decide) rfl rfl (by decide) wf_X6_27 rfl rfl dX6_take_5 ?_
  refine lv_icmp_lt (tgt := 42) hx hb dX6_take_8 (by decide) (fun c_3 => ?_) (fun c_3 => ?_)
  · have hB := hB.1 c_3
    refine lv_ldc (v := -1000004) hx hb hown (hts _ wc_X6_58) dX6_take_42 ?_
    rw [hQm]
    exact W.iret hx hb hr (fun t ht hW => ⟨⟨(-1000004 : Int32), σ_2, rfl, hB, cd_hp ht hP⟩, hS.F ht⟩) hS.2.2 dX6_take_44
  · have hB := hB.2 c_3
    refine lv_aload_n hx hb dX6_take_11 rfl (lv_at hl 0 rfl) ?_
    refine cd_get X hP (C := RX6) (T := TX6) (N := 20) (ci := 6) (k := 19) (j := 10) (v := .int (σ_2.1 19 10)) inX6 (by decide) rfl rfl (by decide) wf_X6_33 rfl rfl dX6_take_12 ?_
    refine lv_if_eq (tgt := 42) hx hb dX6_take_15 (by decide) (fun c_4 => ?_) (fun c_4 => ?_)
    · have hB := hB.1 c_4
      refine lv_ldc (v := -1000004) hx hb hown (hts _ wc_X6_58) dX6_take_42 ?_
      rw [hQm]
      exact W.iret hx hb hr (fun t ht hW => ⟨⟨(-1000004 : Int32), σ_2, rfl, hB, cd_hp ht hP⟩, hS.F ht⟩) hS.2.2 dX6_take_44
    · have hB := hB.2 c_4
      refine lv_aload_n hx hb dX6_take_18 rfl (lv_at hl 0 rfl) ?_
      refine cd_get X hP (C := RX6) (T := TX6) (N := 20) (ci := 6) (k := 19) (j := 8) (v := .int (σ_2.1 19 8)) inX6 (by decide) rfl rfl (by decide) wf_X6_36 rfl rfl dX6_take_19 ?_
      refine lv_aload_n hx hb dX6_take_22 rfl (lv_at hl 0 rfl) ?_
      refine cd_get X hP (C := RX6) (T := TX6) (N := 20) (ci := 6) (k := 19) (j := 10) (v := .int (σ_2.1 19 10)) inX6 (by decide) rfl rfl (by decide) wf_X6_33 rfl rfl dX6_take_23 ?_
      refine lv_icmp_ne (tgt := 42) hx hb dX6_take_26 (by decide) (fun c_5 => ?_) (fun c_5 => ?_)
      · have hB := hB.1 c_5
        refine lv_ldc (v := -1000004) hx hb hown (hts _ wc_X6_58) dX6_take_42 ?_
        rw [hQm]
        exact W.iret hx hb hr (fun t ht hW => ⟨⟨(-1000004 : Int32), σ_2, rfl, hB, cd_hp ht hP⟩, hS.F ht⟩) hS.2.2 dX6_take_44
      · have hB := hB.2 c_5
        refine lv_aload_n hx hb dX6_take_29 rfl (lv_at hl 0 rfl) ?_
        refine cd_get X hP (C := RX6) (T := TX6) (N := 20) (ci := 6) (k := 19) (j := 9) (v := .int (σ_2.1 19 9)) inX6 (by decide) rfl rfl (by decide) wf_X6_39 rfl rfl dX6_take_30 ?_
        refine lv_iconst (v := 1) hx hb dX6_take_33 (by decide) ?_
        refine lv_iadd hx hb dX6_take_34 ?_
        refine lv_aload_n hx hb dX6_take_35 rfl (lv_at hl 0 rfl) ?_
        refine cd_get X hP (C := RX6) (T := TX6) (N := 20) (ci := 6) (k := 19) (j := 10) (v := .int (σ_2.1 19 10)) inX6 (by decide) rfl rfl (by decide) wf_X6_33 rfl rfl dX6_take_36 ?_
        refine lv_icmp_eq (tgt := 45) hx hb dX6_take_39 (by decide) (fun c_6 => ?_) (fun c_6 => ?_)
        · have hB := hB.1 c_6
          refine lv_aload_n hx hb dX6_take_45 rfl (lv_at hl 0 rfl) ?_
          refine cd_get X hP (C := RX6) (T := TX6) (N := 20) (ci := 6) (k := 19) (j := 2) (v := .int (σ_2.1 19 2)) inX6 (by decide) rfl rfl (by decide) wf_X6_59 rfl rfl dX6_take_46 ?_
          refine lv_iconst (v := 4) hx hb dX6_take_49 (by decide) ?_
          refine lv_icmp_ne (tgt := 56) hx hb dX6_take_50 (by decide) (fun c_7 => ?_) (fun c_7 => ?_)
          · have hB := hB.1 c_7
            refine lv_iconst (v := 0) hx hb dX6_take_56 (by decide) ?_
            refine lv_istore_n (lv' := [(1, .int (0 : Int32)), (0, .ref (cdA g 19))]) hx hb dX6_take_57 rfl hl (by decide) rfl (fun ls hl => ?_)
            exact hB _ _ _ hP hS (lv_sub hl [1, 0] rfl)
          · have hB := hB.2 c_7
            refine lv_ldc (v := -1000005) hx hb hown (hts _ wc_X6_31) dX6_take_53 ?_
            rw [hQm]
            exact W.iret hx hb hr (fun t ht hW => ⟨⟨(-1000005 : Int32), σ_2, rfl, hB, cd_hp ht hP⟩, hS.F ht⟩) hS.2.2 dX6_take_55
        · have hB := hB.2 c_6
          refine lv_ldc (v := -1000004) hx hb hown (hts _ wc_X6_58) dX6_take_42 ?_
          rw [hQm]
          exact W.iret hx hb hr (fun t ht hW => ⟨⟨(-1000004 : Int32), σ_2, rfl, hB, cd_hp ht hP⟩, hS.F ht⟩) hS.2.2 dX6_take_44
def wp_X6_tileNow (v1 : Int32) (v2 : Int32) (v3 : Int32) (v4 : Int32) (v5 : Int32) (σ : cdS) (Q : Int32 → cdS → Prop) : Prop :=
  
    wp_X6_layLayout v1 v2 v3 v4 σ (fun σ_2 => 
    wp_X6_laidNow v5 σ_2 (fun r_3 => 
    Q r_3 σ_2))
set_option maxHeartbeats 4000000 in
set_option maxRecDepth 100000 in
theorem c_X6_tileNow (l : Launch) (g : cdG) (v1 : Int32) (v2 : Int32) (v3 : Int32) (v4 : Int32) (v5 : Int32) (σ : cdS) (Q : Int32 → cdS → Prop) (hwp : wp_X6_tileNow v1 v2 v3 v4 v5 σ Q) : cdCi l g yX6_tileNow cX6_tileNow 6 (some .int) 6 158 [.ref (cdA g 19), .int v1, .int v2, .int v3, .int v4, .int v5] σ Q := by
  intro sz
  refine Met.ofW (cc := cX6_tileNow) (maxL := 6) (ret := (some .int)) (by decide) rfl ?_
  intro p e s m args below meth c s₁ B hml hv
  obtain ⟨rfl, hsz, hP, hK, hdi, hV⟩ := hv
  subst hsz
  have hx := B.exec
  have hb := B.bytes
  have hr := B.returns
  have hlocks := B.notSynchronized
  have hown : s.vm.findClass RX6 = some m.cls := findClass_of_methodNamed B.named
  have hts : ∀ w ∈ cdL, w.before _ s = true := fun w hw => atoms_spec (ws := cdWs yX6_tileNow cX6_tileNow 6 (some .int)) B.pre w (List.mem_cons_of_mem _ hw)
  have X : cdX p s m _ c cX6_tileNow 6 RX6 g := ⟨hx, hb, hml, hown, hts, hK, hdi, hV⟩
  have hS : va_S (cdZ g s.heap.size) s.heap s.heap [] := va_S.rf
  have hl := lv_entry ([.ref (cdA g 19), .int v1, .int v2, .int v3, .int v4, .int v5]) (n := 6) (Nat.le_of_ble_eq_true rfl)
  rw [lg_entry_eq]
  generalize (lg_sl ([.ref (cdA g 19), .int v1, .int v2, .int v3, .int v4, .int v5]) ++ List.replicate (6 - (lg_sl ([.ref (cdA g 19), .int v1, .int v2, .int v3, .int v4, .int v5])).length) Slot.unset).toArray = ls at hl ⊢
  have hl : lv_has ls 6 [(0, .ref (cdA g 19)), (1, .int v1), (2, .int v2), (3, .int v3), (4, .int v4), (5, .int v5)] := hl
  obtain ⟨Qm, hQm⟩ : ∃ z, z = MQ below (va_Qi Q (fun σ' t => va_P (cdD g) vwCl (cdW g σ') t.heap) (cdZ g s.heap.size)) ([.ref (cdA g 19), .int v1, .int v2, .int v3, .int v4, .int v5] : List Value).toArray s 0 0 (cdZ g s.heap.size) := ⟨_, rfl⟩
  rw [← hQm]
  have hB := hwp
  refine lv_aload_n hx hb dX6_tileNow_0 rfl (lv_at hl 0 rfl) ?_
  refine lv_iload_n hx hb dX6_tileNow_1 rfl (lv_at hl 1 rfl) ?_
  refine lv_iload_n hx hb dX6_tileNow_2 rfl (lv_at hl 2 rfl) ?_
  refine lv_iload_n hx hb dX6_tileNow_3 rfl (lv_at hl 3 rfl) ?_
  refine lv_iload hx hb dX6_tileNow_4 (lv_at hl 4 rfl) ?_
  refine cd_cv (cd_runV (As := [.int v1, .int v2, .int v3, .int v4]) (rest := []) (σ := σ) (k := 19) (ci := 6) X wm_X6_158 (by decide) rfl rfl rfl (c_X6_layLayout l g v1 v2 v3 v4 σ _ hB _) hP hS rfl rfl hl.1 (Nat.le_of_ble_eq_true rfl) ⟨Nat.le_of_ble_eq_true rfl, Nat.le_of_ble_eq_true rfl⟩ ⟨Nat.zero_le _, Nat.zero_le _⟩ dX6_tileNow_6) hS (fun σ_2 H locs hB hP hS => ?_)
  refine lv_aload_n hx hb dX6_tileNow_9 rfl (lv_at hl 0 rfl) ?_
  refine lv_iload hx hb dX6_tileNow_10 (lv_at hl 5 rfl) ?_
  refine cd_ci (cd_runV (As := [.int v5]) (rest := []) (σ := σ_2) (k := 19) (ci := 6) X wm_X6_162 (by decide) rfl rfl rfl (c_X6_laidNow l g v5 σ_2 _ hB _) hP hS rfl rfl hl.1 (Nat.le_of_ble_eq_true rfl) ⟨Nat.le_of_ble_eq_true rfl, Nat.le_of_ble_eq_true rfl⟩ ⟨Nat.zero_le _, Nat.zero_le _⟩ dX6_tileNow_12) hS (fun r_3 σ_4 H locs hB hP hS => ?_)
  obtain ⟨eσ_4, hB⟩ := hB
  rw [eσ_4] at hP
  rw [hQm]
  exact W.iret hx hb hr (fun t ht hW => ⟨⟨r_3, σ_2, rfl, hB, cd_hp ht hP⟩, hS.F ht⟩) hS.2.2 dX6_tileNow_15
def wp_X6_tile (v1 : Int32) (v2 : Int32) (v3 : Int32) (v4 : Int32) (v5 : Int32) (σ : cdS) (Q : Int32 → cdS → Prop) : Prop :=
  
    wp_X6_isHead v1 σ (fun r_1 => 
    ((¬ r_1 = 0 →
    wp_X6_isLaid v2 v3 v4 σ (fun r_4 => 
    ((r_4 = 0 →
    Q (-1000003 : Int32) σ) ∧
    (¬ (r_4 = 0) →
    wp_X6_within v5 (0 : Int32) (7 : Int32) σ (fun r_7 => 
    ((r_7 = 0 →
    Q (-1000003 : Int32) σ) ∧
    (¬ (r_7 = 0) →
    wp_X6_tileNow v1 v2 v3 v4 v5 σ (fun r_10 σ_11 => 
    Q r_10 σ_11)))))))) ∧
    (r_1 = 0 →
    Q (-1000002 : Int32) σ)))
set_option maxHeartbeats 4000000 in
set_option maxRecDepth 100000 in
theorem c_X6_tile (l : Launch) (g : cdG) (v1 : Int32) (v2 : Int32) (v3 : Int32) (v4 : Int32) (v5 : Int32) (σ : cdS) (Q : Int32 → cdS → Prop) (hwp : wp_X6_tile v1 v2 v3 v4 v5 σ Q) : cdCi l g yX6_tile cX6_tile 6 (some .int) 7 183 [.ref (cdA g 19), .int v1, .int v2, .int v3, .int v4, .int v5] σ Q := by
  intro sz
  refine Met.ofW (cc := cX6_tile) (maxL := 6) (ret := (some .int)) (by decide) rfl ?_
  intro p e s m args below meth c s₁ B hml hv
  obtain ⟨rfl, hsz, hP, hK, hdi, hV⟩ := hv
  subst hsz
  have hx := B.exec
  have hb := B.bytes
  have hr := B.returns
  have hlocks := B.notSynchronized
  have hown : s.vm.findClass RX6 = some m.cls := findClass_of_methodNamed B.named
  have hts : ∀ w ∈ cdL, w.before _ s = true := fun w hw => atoms_spec (ws := cdWs yX6_tile cX6_tile 6 (some .int)) B.pre w (List.mem_cons_of_mem _ hw)
  have X : cdX p s m _ c cX6_tile 6 RX6 g := ⟨hx, hb, hml, hown, hts, hK, hdi, hV⟩
  have hS : va_S (cdZ g s.heap.size) s.heap s.heap [] := va_S.rf
  have hl := lv_entry ([.ref (cdA g 19), .int v1, .int v2, .int v3, .int v4, .int v5]) (n := 6) (Nat.le_of_ble_eq_true rfl)
  rw [lg_entry_eq]
  generalize (lg_sl ([.ref (cdA g 19), .int v1, .int v2, .int v3, .int v4, .int v5]) ++ List.replicate (6 - (lg_sl ([.ref (cdA g 19), .int v1, .int v2, .int v3, .int v4, .int v5])).length) Slot.unset).toArray = ls at hl ⊢
  have hl : lv_has ls 6 [(0, .ref (cdA g 19)), (1, .int v1), (2, .int v2), (3, .int v3), (4, .int v4), (5, .int v5)] := hl
  obtain ⟨Qm, hQm⟩ : ∃ z, z = MQ below (va_Qi Q (fun σ' t => va_P (cdD g) vwCl (cdW g σ') t.heap) (cdZ g s.heap.size)) ([.ref (cdA g 19), .int v1, .int v2, .int v3, .int v4, .int v5] : List Value).toArray s 0 0 (cdZ g s.heap.size) := ⟨_, rfl⟩
  rw [← hQm]
  have hB := hwp
  refine lv_aload_n hx hb dX6_tile_0 rfl (lv_at hl 0 rfl) ?_
  refine lv_iload_n hx hb dX6_tile_1 rfl (lv_at hl 1 rfl) ?_
  refine cd_ci (cd_runV (As := [.int v1]) (rest := []) (σ := σ) (k := 19) (ci := 6) X wm_X6_65 (by decide) rfl rfl rfl (c_X6_isHead l g v1 σ _ hB _) hP hS rfl rfl hl.1 (Nat.le_of_ble_eq_true rfl) ⟨Nat.le_of_ble_eq_true rfl, Nat.le_of_ble_eq_true rfl⟩ ⟨Nat.zero_le _, Nat.zero_le _⟩ dX6_tile_2) hS (fun r_1 σ_2 H locs hB hP hS => ?_)
  obtain ⟨eσ_2, hB⟩ := hB
  rw [eσ_2] at hP
  refine lv_if_ne (tgt := 11) hx hb dX6_tile_5 (by decide) (fun c_3 => ?_) (fun c_3 => ?_)
  · have hB := hB.1 c_3
    refine lv_iload_n hx hb dX6_tile_11 rfl (lv_at hl 2 rfl) ?_
    refine lv_iload_n hx hb dX6_tile_12 rfl (lv_at hl 3 rfl) ?_
    refine lv_iload hx hb dX6_tile_13 (lv_at hl 4 rfl) ?_
    refine cd_ci (cd_runS (As := [.int v2, .int v3, .int v4]) (rest := []) (σ := σ) X wm_X6_110 (c_X6_isLaid l g v2 v3 v4 σ _ hB _) hP hS rfl rfl hl.1 (Nat.le_of_ble_eq_true rfl) ⟨Nat.le_of_ble_eq_true rfl, Nat.le_of_ble_eq_true rfl⟩ ⟨Nat.zero_le _, Nat.zero_le _⟩ dX6_tile_15) hS (fun r_4 σ_5 H locs hB hP hS => ?_)
    obtain ⟨eσ_5, hB⟩ := hB
    rw [eσ_5] at hP
    refine lv_if_eq (tgt := 46) hx hb dX6_tile_18 (by decide) (fun c_6 => ?_) (fun c_6 => ?_)
    · have hB := hB.1 c_6
      refine lv_ldc (v := -1000003) hx hb hown (hts _ wc_X6_26) dX6_tile_46 ?_
      rw [hQm]
      exact W.iret hx hb hr (fun t ht hW => ⟨⟨(-1000003 : Int32), σ, rfl, hB, cd_hp ht hP⟩, hS.F ht⟩) hS.2.2 dX6_tile_48
    · have hB := hB.2 c_6
      refine lv_iload hx hb dX6_tile_21 (lv_at hl 5 rfl) ?_
      refine lv_iconst (v := 0) hx hb dX6_tile_23 (by decide) ?_
      refine lv_bipush (v := 7) hx hb dX6_tile_24 (by decide) ?_
      refine cd_ci (cd_runS (As := [.int v5, .int (0 : Int32), .int (7 : Int32)]) (rest := []) (σ := σ) X wm_X6_22 (c_X6_within l g v5 (0 : Int32) (7 : Int32) σ _ hB _) hP hS rfl rfl hl.1 (Nat.le_of_ble_eq_true rfl) ⟨Nat.le_of_ble_eq_true rfl, Nat.le_of_ble_eq_true rfl⟩ ⟨Nat.zero_le _, Nat.zero_le _⟩ dX6_tile_26) hS (fun r_7 σ_8 H locs hB hP hS => ?_)
      obtain ⟨eσ_8, hB⟩ := hB
      rw [eσ_8] at hP
      refine lv_if_eq (tgt := 46) hx hb dX6_tile_29 (by decide) (fun c_9 => ?_) (fun c_9 => ?_)
      · have hB := hB.1 c_9
        refine lv_ldc (v := -1000003) hx hb hown (hts _ wc_X6_26) dX6_tile_46 ?_
        rw [hQm]
        exact W.iret hx hb hr (fun t ht hW => ⟨⟨(-1000003 : Int32), σ, rfl, hB, cd_hp ht hP⟩, hS.F ht⟩) hS.2.2 dX6_tile_48
      · have hB := hB.2 c_9
        refine lv_aload_n hx hb dX6_tile_32 rfl (lv_at hl 0 rfl) ?_
        refine lv_iload_n hx hb dX6_tile_33 rfl (lv_at hl 1 rfl) ?_
        refine lv_iload_n hx hb dX6_tile_34 rfl (lv_at hl 2 rfl) ?_
        refine lv_iload_n hx hb dX6_tile_35 rfl (lv_at hl 3 rfl) ?_
        refine lv_iload hx hb dX6_tile_36 (lv_at hl 4 rfl) ?_
        refine lv_iload hx hb dX6_tile_38 (lv_at hl 5 rfl) ?_
        refine cd_ci (cd_runV (As := [.int v1, .int v2, .int v3, .int v4, .int v5]) (rest := []) (σ := σ) (k := 19) (ci := 6) X wm_X6_165 (by decide) rfl rfl rfl (c_X6_tileNow l g v1 v2 v3 v4 v5 σ _ hB _) hP hS rfl rfl hl.1 (Nat.le_of_ble_eq_true rfl) ⟨Nat.le_of_ble_eq_true rfl, Nat.le_of_ble_eq_true rfl⟩ ⟨Nat.zero_le _, Nat.zero_le _⟩ dX6_tile_40) hS (fun r_10 σ_11 H locs hB hP hS => ?_)
        refine lv_goto (tgt := 48) hx hb dX6_tile_43 (by decide) ?_
        rw [hQm]
        exact W.iret hx hb hr (fun t ht hW => ⟨⟨r_10, σ_11, rfl, hB, cd_hp ht hP⟩, hS.F ht⟩) hS.2.2 dX6_tile_48
  · have hB := hB.2 c_3
    refine lv_ldc (v := -1000002) hx hb hown (hts _ wc_X6_68) dX6_tile_8 ?_
    rw [hQm]
    exact W.iret hx hb hr (fun t ht hW => ⟨⟨(-1000002 : Int32), σ, rfl, hB, cd_hp ht hP⟩, hS.F ht⟩) hS.2.2 dX6_tile_10
def wp_X6_turn (v1 : Int32) (v2 : Int32) (v3 : Int32) (σ : cdS) (Q : Int32 → cdS → Prop) : Prop :=
  ∀ (P37 : Int32 → cdS → Prop) (P91 : Int32 → Int32 → Int32 → Int32 → Int32 → Int32 → cdS → Prop),
    (∀ (x4 : Int32) (σ : cdS), (
    (((49 : Int32) ≤ x4 →
    vp_in v1 5 ∧
    vp_in (σ.1 19 2) 5 ∧ ∀ σ_11 : cdS, σ_11 = cdU σ 21 ((σ.1 19 2)).toNatClampNeg (σ.1 21 (v1).toNatClampNeg) →
    ∀ σ_12 : cdS, σ_12 = cdU σ_11 19 2 ((σ_11.1 19 2) + (1 : Int32)) →
    ∀ σ_13 : cdS, σ_13 = cdU σ_12 19 6 ((σ_12.1 19 6) + (1 : Int32)) →
    Q ((σ_13.1 19 2) - (1 : Int32)) σ_13) ∧
    (¬ ((49 : Int32) ≤ x4) →
    ∀ x5_14 : Int32, x5_14 = ((cdm x4 (7 : Int32)) - (3 : Int32)) →
    ∀ x6_15 : Int32, x6_15 = ((x4 / (7 : Int32)) - (3 : Int32)) →
    ((v3 = 0 →
    P91 x4 x6_15 x5_14 v2 v1 (((49 : Int32) * (σ.1 19 2)) + x4) σ) ∧
    (¬ (v3 = 0) →
    P91 x4 x6_15 (-x5_14) v2 v1 (((49 : Int32) * (σ.1 19 2)) + x4) σ))))) → P37 x4 σ) →
    (∀ (x4 : Int32) (x6 : Int32) (t0 : Int32) (t1 : Int32) (t2 : Int32) (t4 : Int32) (σ : cdS), (
    wp_X6_turnedAt t2 t1 t0 x6 σ (fun r_17 => 
    vp_in t4 245 ∧ ∀ σ_20 : cdS, σ_20 = cdU σ 22 (t4).toNatClampNeg r_17 →
    ∀ x4_21 : Int32, x4_21 = x4 + 1 →
    P37 x4_21 σ_20)) → P91 x4 x6 t0 t1 t2 t4 σ) →
    
    wp_X6_isHead v1 σ (fun r_1 => 
    ((¬ r_1 = 0 →
    wp_X6_within v2 (0 : Int32) (3 : Int32) σ (fun r_4 => 
    ((¬ r_4 = 0 →
    ((¬ (σ.1 19 2) = (4 : Int32) →
    P37 (0 : Int32) σ) ∧
    ((σ.1 19 2) = (4 : Int32) →
    Q (-1000005 : Int32) σ))) ∧
    (r_4 = 0 →
    Q (-1000003 : Int32) σ)))) ∧
    (r_1 = 0 →
    Q (-1000002 : Int32) σ)))
set_option maxHeartbeats 4000000 in
set_option maxRecDepth 100000 in
theorem c_X6_turn (l : Launch) (g : cdG) (v1 : Int32) (v2 : Int32) (v3 : Int32) (σ : cdS) (Q : Int32 → cdS → Prop) (hwp : wp_X6_turn v1 v2 v3 σ Q) : cdCi l g yX6_turn cX6_turn 7 (some .int) 3 69 [.ref (cdA g 19), .int v1, .int v2, .int v3] σ Q := by
  intro sz
  refine Met.ofW (cc := cX6_turn) (maxL := 7) (ret := (some .int)) (by decide) rfl ?_
  intro p e s m args below meth c s₁ B hml hv
  obtain ⟨rfl, hsz, hP, hK, hdi, hV⟩ := hv
  subst hsz
  have hx := B.exec
  have hb := B.bytes
  have hr := B.returns
  have hlocks := B.notSynchronized
  have hown : s.vm.findClass RX6 = some m.cls := findClass_of_methodNamed B.named
  have hts : ∀ w ∈ cdL, w.before _ s = true := fun w hw => atoms_spec (ws := cdWs yX6_turn cX6_turn 7 (some .int)) B.pre w (List.mem_cons_of_mem _ hw)
  have X : cdX p s m _ c cX6_turn 7 RX6 g := ⟨hx, hb, hml, hown, hts, hK, hdi, hV⟩
  have hS : va_S (cdZ g s.heap.size) s.heap s.heap [] := va_S.rf
  have hl := lv_entry ([.ref (cdA g 19), .int v1, .int v2, .int v3]) (n := 7) (Nat.le_of_ble_eq_true rfl)
  rw [lg_entry_eq]
  generalize (lg_sl ([.ref (cdA g 19), .int v1, .int v2, .int v3]) ++ List.replicate (7 - (lg_sl ([.ref (cdA g 19), .int v1, .int v2, .int v3])).length) Slot.unset).toArray = ls at hl ⊢
  have hl : lv_has ls 7 [(0, .ref (cdA g 19)), (1, .int v1), (2, .int v2), (3, .int v3)] := hl
  obtain ⟨Qm, hQm⟩ : ∃ z, z = MQ below (va_Qi Q (fun σ' t => va_P (cdD g) vwCl (cdW g σ') t.heap) (cdZ g s.heap.size)) ([.ref (cdA g 19), .int v1, .int v2, .int v3] : List Value).toArray s 0 0 (cdZ g s.heap.size) := ⟨_, rfl⟩
  rw [← hQm]
  have hB := hwp (fun (x4 : Int32) (σ : cdS) => cdCut p l e (headSpec (cdWs yX6_turn cX6_turn 7 (some .int)) (cdRm 3 69)).room s m ([.ref (cdA g 19), .int v1, .int v2, .int v3] : List Value).toArray below meth c Qm g 7 37 [(0, .ref (cdA g 19)), (1, .int v1), (2, .int v2), (3, .int v3), (4, .int x4)] [] σ)
    (fun (x4 : Int32) (x6 : Int32) (t0 : Int32) (t1 : Int32) (t2 : Int32) (t4 : Int32) (σ : cdS) => cdCut p l e (headSpec (cdWs yX6_turn cX6_turn 7 (some .int)) (cdRm 3 69)).room s m ([.ref (cdA g 19), .int v1, .int v2, .int v3] : List Value).toArray below meth c Qm g 7 91 [(0, .ref (cdA g 19)), (1, .int v1), (2, .int v2), (3, .int v3), (4, .int x4), (6, .int x6)] [.int t0, .int t1, .int t2, .ref (cdA g 19), .int t4, .ref (cdA g 22)] σ)
    (by
    intro x4 σ hB H locs ls hP hS hl
    refine lv_iload hx hb dX6_turn_37 (lv_at hl 4 rfl) ?_
    refine lv_bipush (v := 49) hx hb dX6_turn_39 (by decide) ?_
    refine lv_icmp_ge (tgt := 103) hx hb dX6_turn_41 (by decide) (fun c_8 => ?_) (fun c_8 => ?_)
    · have hB := hB.1 c_8
      refine lv_aload_n hx hb dX6_turn_103 rfl (lv_at hl 0 rfl) ?_
      refine cd_get X hP (C := RX6) (T := TX6) (N := 20) (ci := 6) (k := 19) (j := 3) (v := .ref (cdA g 21)) inX6 (by decide) rfl rfl (by decide) wf_X6_13 rfl rfl dX6_turn_104 ?_
      refine lv_aload_n hx hb dX6_turn_107 rfl (lv_at hl 0 rfl) ?_
      refine cd_get X hP (C := RX6) (T := TX6) (N := 20) (ci := 6) (k := 19) (j := 2) (v := .int (σ.1 19 2)) inX6 (by decide) rfl rfl (by decide) wf_X6_59 rfl rfl dX6_turn_108 ?_
      refine lv_aload_n hx hb dX6_turn_111 rfl (lv_at hl 0 rfl) ?_
      refine cd_get X hP (C := RX6) (T := TX6) (N := 20) (ci := 6) (k := 19) (j := 3) (v := .ref (cdA g 21)) inX6 (by decide) rfl rfl (by decide) wf_X6_13 rfl rfl dX6_turn_112 ?_
      refine lv_iload_n hx hb dX6_turn_115 rfl (lv_at hl 1 rfl) ?_
      obtain ⟨i_9, hB⟩ := hB
      refine cd_ald X hP (k := 21) (N := 5) (by decide) rfl i_9 dX6_turn_116 ?_
      obtain ⟨i_10, hB⟩ := hB
      refine cd_ast X hP hS (k := 21) (N := 5) (by decide) (fun _ => rfl) i_10 dX6_turn_117 (fun H locs hP hS => ?_)
      obtain ⟨σ_11, eσ_11⟩ : ∃ z : cdS, z = cdU σ 21 ((σ.1 19 2)).toNatClampNeg (σ.1 21 (v1).toNatClampNeg) := ⟨_, rfl⟩
      rw [← eσ_11] at hP
      have hB := hB σ_11 eσ_11
      refine lv_aload_n hx hb dX6_turn_118 rfl (lv_at hl 0 rfl) ?_
      refine lv_dup hx hb dX6_turn_119 rfl ?_
      refine cd_get X hP (C := RX6) (T := TX6) (N := 20) (ci := 6) (k := 19) (j := 2) (v := .int (σ_11.1 19 2)) inX6 (by decide) rfl rfl (by decide) wf_X6_59 rfl rfl dX6_turn_120 ?_
      refine lv_iconst (v := 1) hx hb dX6_turn_123 (by decide) ?_
      refine lv_iadd hx hb dX6_turn_124 ?_
      refine cd_put X hP hS (C := RX6) (T := TX6) (N := 20) (ci := 6) (k := 19) (j := 2) (v := .int ((σ_11.1 19 2) + (1 : Int32))) (σ' := cdU σ_11 19 2 ((σ_11.1 19 2) + (1 : Int32))) inX6 tyX6 tyX6_ok nmX6 (by decide) rfl rfl (by decide) wf_X6_59 rfl rfl (tyX6_ok 2 (by decide)) rfl rfl (Nat.le_of_ble_eq_true rfl) (cdW_U (by decide) rfl) dX6_turn_125 (fun H locs hP hS => ?_)
      obtain ⟨σ_12, eσ_12⟩ : ∃ z : cdS, z = cdU σ_11 19 2 ((σ_11.1 19 2) + (1 : Int32)) := ⟨_, rfl⟩
      rw [← eσ_12] at hP
      have hB := hB σ_12 eσ_12
      refine lv_aload_n hx hb dX6_turn_128 rfl (lv_at hl 0 rfl) ?_
      refine lv_dup hx hb dX6_turn_129 rfl ?_
      refine cd_get X hP (C := RX6) (T := TX6) (N := 20) (ci := 6) (k := 19) (j := 6) (v := .int (σ_12.1 19 6)) inX6 (by decide) rfl rfl (by decide) wf_X6_83 rfl rfl dX6_turn_130 ?_
      refine lv_iconst (v := 1) hx hb dX6_turn_133 (by decide) ?_
      refine lv_iadd hx hb dX6_turn_134 ?_
      refine cd_put X hP hS (C := RX6) (T := TX6) (N := 20) (ci := 6) (k := 19) (j := 6) (v := .int ((σ_12.1 19 6) + (1 : Int32))) (σ' := cdU σ_12 19 6 ((σ_12.1 19 6) + (1 : Int32))) inX6 tyX6 tyX6_ok nmX6 (by decide) rfl rfl (by decide) wf_X6_83 rfl rfl (tyX6_ok 6 (by decide)) rfl rfl (Nat.le_of_ble_eq_true rfl) (cdW_U (by decide) rfl) dX6_turn_135 (fun H locs hP hS => ?_)
      obtain ⟨σ_13, eσ_13⟩ : ∃ z : cdS, z = cdU σ_12 19 6 ((σ_12.1 19 6) + (1 : Int32)) := ⟨_, rfl⟩
      rw [← eσ_13] at hP
      have hB := hB σ_13 eσ_13
      refine lv_aload_n hx hb dX6_turn_138 rfl (lv_at hl 0 rfl) ?_
      refine cd_get X hP (C := RX6) (T := TX6) (N := 20) (ci := 6) (k := 19) (j := 2) (v := .int (σ_13.1 19 2)) inX6 (by decide) rfl rfl (by decide) wf_X6_59 rfl rfl dX6_turn_139 ?_
      refine lv_iconst (v := 1) hx hb dX6_turn_142 (by decide) ?_
      refine lv_isub hx hb dX6_turn_143 ?_
      rw [hQm]
      exact W.iret hx hb hr (fun t ht hW => ⟨⟨((σ_13.1 19 2) - (1 : Int32)), σ_13, rfl, hB, cd_hp ht hP⟩, hS.F ht⟩) hS.2.2 dX6_turn_144
    · have hB := hB.2 c_8
      refine lv_iload hx hb dX6_turn_44 (lv_at hl 4 rfl) ?_
      refine lv_bipush (v := 7) hx hb dX6_turn_46 (by decide) ?_
      refine lv_irem hx hb dX6_turn_48 (by decide) ?_
      refine lv_iconst (v := 3) hx hb dX6_turn_49 (by decide) ?_
      refine lv_isub hx hb dX6_turn_50 ?_
      refine lv_topi (fun x5_14 ex5_14 => ?_)
      have hB := hB x5_14 ex5_14
      refine lv_istore (lv' := [(5, .int x5_14), (0, .ref (cdA g 19)), (1, .int v1), (2, .int v2), (3, .int v3), (4, .int x4)]) hx hb dX6_turn_51 hl (by decide) rfl (fun ls hl => ?_)
      refine lv_iload hx hb dX6_turn_53 (lv_at hl 5 rfl) ?_
      refine lv_bipush (v := 7) hx hb dX6_turn_55 (by decide) ?_
      refine lv_idiv hx hb dX6_turn_57 (by decide) ?_
      refine lv_iconst (v := 3) hx hb dX6_turn_58 (by decide) ?_
      refine lv_isub hx hb dX6_turn_59 ?_
      refine lv_topi (fun x6_15 ex6_15 => ?_)
      have hB := hB x6_15 ex6_15
      refine lv_istore (lv' := [(6, .int x6_15), (5, .int x5_14), (0, .ref (cdA g 19)), (1, .int v1), (2, .int v2), (3, .int v3), (4, .int x4)]) hx hb dX6_turn_60 hl (by decide) rfl (fun ls hl => ?_)
      refine lv_aload_n hx hb dX6_turn_62 rfl (lv_at hl 2 rfl) ?_
      refine cd_get X hP (C := RX6) (T := TX6) (N := 20) (ci := 6) (k := 19) (j := 4) (v := .ref (cdA g 22)) inX6 (by decide) rfl rfl (by decide) wf_X6_16 rfl rfl dX6_turn_63 ?_
      refine lv_bipush (v := 49) hx hb dX6_turn_66 (by decide) ?_
      refine lv_aload_n hx hb dX6_turn_68 rfl (lv_at hl 2 rfl) ?_
      refine cd_get X hP (C := RX6) (T := TX6) (N := 20) (ci := 6) (k := 19) (j := 2) (v := .int (σ.1 19 2)) inX6 (by decide) rfl rfl (by decide) wf_X6_59 rfl rfl dX6_turn_69 ?_
      refine lv_imul hx hb dX6_turn_72 ?_
      refine lv_iload hx hb dX6_turn_73 (lv_at hl 6 rfl) ?_
      refine lv_iadd hx hb dX6_turn_75 ?_
      refine lv_aload_n hx hb dX6_turn_76 rfl (lv_at hl 2 rfl) ?_
      refine lv_iload_n hx hb dX6_turn_77 rfl (lv_at hl 3 rfl) ?_
      refine lv_iload_n hx hb dX6_turn_78 rfl (lv_at hl 4 rfl) ?_
      refine lv_iload_n hx hb dX6_turn_79 rfl (lv_at hl 5 rfl) ?_
      refine lv_if_eq (tgt := 89) hx hb dX6_turn_80 (by decide) (fun c_16 => ?_) (fun c_16 => ?_)
      · have hB := hB.1 c_16
        refine lv_iload hx hb dX6_turn_89 (lv_at hl 1 rfl) ?_
        exact hB _ _ _ hP hS (lv_sub hl [2, 3, 4, 5, 6, 0] rfl)
      · have hB := hB.2 c_16
        refine lv_iload hx hb dX6_turn_83 (lv_at hl 1 rfl) ?_
        refine lv_ineg hx hb dX6_turn_85 ?_
        refine lv_goto (tgt := 91) hx hb dX6_turn_86 (by decide) ?_
        exact hB _ _ _ hP hS (lv_sub hl [2, 3, 4, 5, 6, 0] rfl))
    (by
    intro x4 x6 t0 t1 t2 t4 σ hB H locs ls hP hS hl
    refine lv_iload hx hb dX6_turn_91 (lv_at hl 5 rfl) ?_
    refine cd_ci (cd_runV (As := [.int t2, .int t1, .int t0, .int x6]) (rest := [.int t4, .ref (cdA g 22)]) (σ := σ) (k := 19) (ci := 6) X wm_X6_79 (by decide) rfl rfl rfl (c_X6_turnedAt l g t2 t1 t0 x6 σ _ hB _) hP hS rfl rfl hl.1 (Nat.le_of_ble_eq_true rfl) ⟨Nat.le_of_ble_eq_true rfl, Nat.le_of_ble_eq_true rfl⟩ ⟨Nat.zero_le _, Nat.zero_le _⟩ dX6_turn_93) hS (fun r_17 σ_18 H locs hB hP hS => ?_)
    obtain ⟨eσ_18, hB⟩ := hB
    rw [eσ_18] at hP
    obtain ⟨i_19, hB⟩ := hB
    refine cd_ast X hP hS (k := 22) (N := 245) (by decide) (fun _ => rfl) i_19 dX6_turn_96 (fun H locs hP hS => ?_)
    obtain ⟨σ_20, eσ_20⟩ : ∃ z : cdS, z = cdU σ 22 (t4).toNatClampNeg r_17 := ⟨_, rfl⟩
    rw [← eσ_20] at hP
    have hB := hB σ_20 eσ_20
    obtain ⟨x4_21, ex4_21⟩ : ∃ z : Int32, z = x4 + 1 := ⟨_, rfl⟩
    have hB := hB x4_21 ex4_21
    refine lv_iinc (v := x4_21) (lv' := [(4, .int x4_21), (0, .ref (cdA g 19)), (1, .int v1), (2, .int v2), (3, .int v3), (6, .int x6)]) hx hb dX6_turn_97 hl (k := 4) rfl (by rw [ex4_21]; rfl) (by decide) rfl (fun ls hl => ?_)
    refine lv_goto (tgt := 37) hx hb dX6_turn_100 (by decide) ?_
    exact hB _ _ _ hP hS (lv_sub hl [1, 2, 3, 4, 0] rfl))
  refine lv_aload_n hx hb dX6_turn_0 rfl (lv_at hl 0 rfl) ?_
  refine lv_iload_n hx hb dX6_turn_1 rfl (lv_at hl 1 rfl) ?_
  refine cd_ci (cd_runV (As := [.int v1]) (rest := []) (σ := σ) (k := 19) (ci := 6) X wm_X6_65 (by decide) rfl rfl rfl (c_X6_isHead l g v1 σ _ hB _) hP hS rfl rfl hl.1 (Nat.le_of_ble_eq_true rfl) ⟨Nat.le_of_ble_eq_true rfl, Nat.le_of_ble_eq_true rfl⟩ ⟨Nat.zero_le _, Nat.zero_le _⟩ dX6_turn_2) hS (fun r_1 σ_2 H locs hB hP hS => ?_)
  obtain ⟨eσ_2, hB⟩ := hB
  rw [eσ_2] at hP
  refine lv_if_ne (tgt := 11) hx hb dX6_turn_5 (by decide) (fun c_3 => ?_) (fun c_3 => ?_)
  · have hB := hB.1 c_3
    refine lv_iload_n hx hb dX6_turn_11 rfl (lv_at hl 2 rfl) ?_
    refine lv_iconst (v := 0) hx hb dX6_turn_12 (by decide) ?_
    refine lv_iconst (v := 3) hx hb dX6_turn_13 (by decide) ?_
    refine cd_ci (cd_runS (As := [.int v2, .int (0 : Int32), .int (3 : Int32)]) (rest := []) (σ := σ) X wm_X6_22 (c_X6_within l g v2 (0 : Int32) (3 : Int32) σ _ hB _) hP hS rfl rfl hl.1 (Nat.le_of_ble_eq_true rfl) ⟨Nat.le_of_ble_eq_true rfl, Nat.le_of_ble_eq_true rfl⟩ ⟨Nat.zero_le _, Nat.zero_le _⟩ dX6_turn_14) hS (fun r_4 σ_5 H locs hB hP hS => ?_)
    obtain ⟨eσ_5, hB⟩ := hB
    rw [eσ_5] at hP
    refine lv_if_ne (tgt := 23) hx hb dX6_turn_17 (by decide) (fun c_6 => ?_) (fun c_6 => ?_)
    · have hB := hB.1 c_6
      refine lv_aload_n hx hb dX6_turn_23 rfl (lv_at hl 0 rfl) ?_
      refine cd_get X hP (C := RX6) (T := TX6) (N := 20) (ci := 6) (k := 19) (j := 2) (v := .int (σ.1 19 2)) inX6 (by decide) rfl rfl (by decide) wf_X6_59 rfl rfl dX6_turn_24 ?_
      refine lv_iconst (v := 4) hx hb dX6_turn_27 (by decide) ?_
      refine lv_icmp_ne (tgt := 34) hx hb dX6_turn_28 (by decide) (fun c_7 => ?_) (fun c_7 => ?_)
      · have hB := hB.1 c_7
        refine lv_iconst (v := 0) hx hb dX6_turn_34 (by decide) ?_
        refine lv_istore (lv' := [(4, .int (0 : Int32)), (0, .ref (cdA g 19)), (1, .int v1), (2, .int v2), (3, .int v3)]) hx hb dX6_turn_35 hl (by decide) rfl (fun ls hl => ?_)
        exact hB _ _ _ hP hS (lv_sub hl [1, 2, 3, 4, 0] rfl)
      · have hB := hB.2 c_7
        refine lv_ldc (v := -1000005) hx hb hown (hts _ wc_X6_31) dX6_turn_31 ?_
        rw [hQm]
        exact W.iret hx hb hr (fun t ht hW => ⟨⟨(-1000005 : Int32), σ, rfl, hB, cd_hp ht hP⟩, hS.F ht⟩) hS.2.2 dX6_turn_33
    · have hB := hB.2 c_6
      refine lv_ldc (v := -1000003) hx hb hown (hts _ wc_X6_26) dX6_turn_20 ?_
      rw [hQm]
      exact W.iret hx hb hr (fun t ht hW => ⟨⟨(-1000003 : Int32), σ, rfl, hB, cd_hp ht hP⟩, hS.F ht⟩) hS.2.2 dX6_turn_22
  · have hB := hB.2 c_3
    refine lv_ldc (v := -1000002) hx hb hown (hts _ wc_X6_68) dX6_turn_8 ?_
    rw [hQm]
    exact W.iret hx hb hr (fun t ht hW => ⟨⟨(-1000002 : Int32), σ, rfl, hB, cd_hp ht hP⟩, hS.F ht⟩) hS.2.2 dX6_turn_10
