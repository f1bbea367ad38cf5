def wp_X5_isKnown (v1 : Int32) (σ : cdS) (Q : Int32 → Prop) : Prop :=
  
    ((v1 < 0 →
    Q (0 : Int32)) ∧
    (¬ (v1 < 0) →
    (((σ.1 0 5) ≤ v1 →
    Q (0 : Int32)) ∧
    (¬ ((σ.1 0 5) ≤ v1) →
    Q (1 : Int32)))))
set_option maxHeartbeats 4000000 in
set_option maxRecDepth 100000 in
theorem c_X5_isKnown (l : Launch) (g : cdG) (v1 : Int32) (σ : cdS) (Q : Int32 → Prop) (hwp : wp_X5_isKnown v1 σ Q) : cdCi l g yX5_isKnown cX5_isKnown 2 (some .boolean) 0 0 [.ref (cdA g 0), .int v1] σ (fun r σ' => σ' = σ ∧ Q r) := by
  intro sz
  refine Met.ofW (cc := cX5_isKnown) (maxL := 2) (ret := (some .boolean)) (by decide) rfl ?_
  intro p e s m args below meth c s₁ B hml hv
  obtain ⟨rfl, hsz, hP, hK, hdi, hV⟩ := hv
  subst hsz
  have hx := B.exec
  have hb := B.bytes
  have hr := B.returns
  have hlocks := B.notSynchronized
  have hown : s.vm.findClass RX5 = some m.cls := findClass_of_methodNamed B.named
  have hts : ∀ w ∈ cdL, w.before _ s = true := fun w hw => atoms_spec (ws := cdWs yX5_isKnown cX5_isKnown 2 (some .boolean)) B.pre w (List.mem_cons_of_mem _ hw)
  have X : cdX p s m _ c cX5_isKnown 2 RX5 g := ⟨hx, hb, hml, hown, hts, hK, hdi, hV⟩
  have hS : va_S (cdZ g s.heap.size) s.heap s.heap [] := va_S.rf
  have hl := lv_entry ([.ref (cdA g 0), .int v1]) (n := 2) (Nat.le_of_ble_eq_true rfl)
  rw [lg_entry_eq]
  generalize (lg_sl ([.ref (cdA g 0), .int v1]) ++ List.replicate (2 - (lg_sl ([.ref (cdA g 0), .int v1])).length) Slot.unset).toArray = ls at hl ⊢
  have hl : lv_has ls 2 [(0, .ref (cdA g 0)), (1, .int v1)] := hl
  obtain ⟨Qm, hQm⟩ : ∃ z, z = MQ below (va_Qi (fun r σ' => σ' = σ ∧ Q r) (fun σ' t => va_P (cdD g) vwCl (cdW g σ') t.heap) (cdZ g s.heap.size)) ([.ref (cdA g 0), .int v1] : List Value).toArray s 0 0 (cdZ g s.heap.size) := ⟨_, rfl⟩
  rw [← hQm]
  have hB := hwp
  refine lv_iload_n hx hb dX5_isKnown_0 rfl (lv_at hl 1 rfl) ?_
  refine lv_if_lt (tgt := 16) hx hb dX5_isKnown_1 (by decide) (fun c_1 => ?_) (fun c_1 => ?_)
  · have hB := hB.1 c_1
    refine lv_iconst (v := 0) hx hb dX5_isKnown_16 (by decide) ?_
    rw [hQm]
    exact W.zret hx hb hr rfl (fun t ht hW => ⟨⟨(0 : Int32), σ, rfl, ⟨rfl, hB⟩, cd_hp ht hP⟩, hS.F ht⟩) hS.2.2 dX5_isKnown_17
  · have hB := hB.2 c_1
    refine lv_iload_n hx hb dX5_isKnown_4 rfl (lv_at hl 1 rfl) ?_
    refine lv_aload_n hx hb dX5_isKnown_5 rfl (lv_at hl 0 rfl) ?_
    refine cd_get X hP (C := RX5) (T := TX5) (N := 9) (ci := 5) (k := 0) (j := 5) (v := .int (σ.1 0 5)) inX5 (by decide) rfl rfl (by decide) wf_X5_69 rfl rfl dX5_isKnown_6 ?_
    refine lv_icmp_ge (tgt := 16) hx hb dX5_isKnown_9 (by decide) (fun c_2 => ?_) (fun c_2 => ?_)
    · have hB := hB.1 c_2
      refine lv_iconst (v := 0) hx hb dX5_isKnown_16 (by decide) ?_
      rw [hQm]
      exact W.zret hx hb hr rfl (fun t ht hW => ⟨⟨(0 : Int32), σ, rfl, ⟨rfl, hB⟩, cd_hp ht hP⟩, hS.F ht⟩) hS.2.2 dX5_isKnown_17
    · have hB := hB.2 c_2
      refine lv_iconst (v := 1) hx hb dX5_isKnown_12 (by decide) ?_
      refine lv_goto (tgt := 17) hx hb dX5_isKnown_13 (by decide) ?_
      rw [hQm]
      exact W.zret hx hb hr rfl (fun t ht hW => ⟨⟨(1 : Int32), σ, rfl, ⟨rfl, hB⟩, cd_hp ht hP⟩, hS.F ht⟩) hS.2.2 dX5_isKnown_17
def wp_X5_bend (v1 : Int32) (v2 : Int32) (v3 : Int32) (σ : cdS) (Q : Int32 → cdS → Prop) : Prop :=
  
    wp_X5_isKnown v1 σ (fun r_1 => 
    ((¬ r_1 = 0 →
    wp_X5_isWithin v2 (-2 : Int32) (2 : Int32) σ (fun r_4 => 
    ((r_4 = 0 →
    Q (-1000003 : Int32) σ) ∧
    (¬ (r_4 = 0) →
    wp_X5_isWithin v3 (-2 : Int32) (2 : Int32) σ (fun r_7 => 
    ((¬ r_7 = 0 →
    vp_in v1 4 ∧
    (cdh (σ.1 0 4)) < 5 ∧ wp_X2_copyBent (cdh (σ.1 0 4)) (cdh (σ.1 3 (v1).toNatClampNeg)) v2 v3 σ (fun σ_13 => 
    vp_in v1 4 ∧
    (cdh (σ_13.1 3 (v1).toNatClampNeg)) < 5 ∧ ∀ σ_15 : cdS, σ_15 = cdU σ_13 0 4 (nI (cdh (σ_13.1 3 (v1).toNatClampNeg))) →
    vp_in v1 4 ∧ ∀ σ_17 : cdS, σ_17 = cdU σ_15 3 (v1).toNatClampNeg (nI (cdh (σ.1 0 4))) →
    wp_X2_thrown (cdh (σ.1 0 4)) σ_17 (fun r_19 => 
    Q r_19 σ_17))) ∧
    (r_7 = 0 →
    Q (-1000003 : Int32) σ))))))) ∧
    (r_1 = 0 →
    Q (-1000002 : Int32) σ)))
set_option maxHeartbeats 4000000 in
set_option maxRecDepth 100000 in
theorem c_X5_bend (l : Launch) (g : cdG) (v1 : Int32) (v2 : Int32) (v3 : Int32) (σ : cdS) (Q : Int32 → cdS → Prop) (hwp : wp_X5_bend v1 v2 v3 σ Q) : cdCi l g yX5_bend cX5_bend 5 (some .int) 3 72 [.ref (cdA g 0), .int v1, .int v2, .int v3] σ Q := by
  intro sz
  refine Met.ofW (cc := cX5_bend) (maxL := 5) (ret := (some .int)) (by decide) rfl ?_
  intro p e s m args below meth c s₁ B hml hv
  obtain ⟨rfl, hsz, hP, hK, hdi, hV⟩ := hv
  subst hsz
  have hx := B.exec
  have hb := B.bytes
  have hr := B.returns
  have hlocks := B.notSynchronized
  have hown : s.vm.findClass RX5 = some m.cls := findClass_of_methodNamed B.named
  have hts : ∀ w ∈ cdL, w.before _ s = true := fun w hw => atoms_spec (ws := cdWs yX5_bend cX5_bend 5 (some .int)) B.pre w (List.mem_cons_of_mem _ hw)
  have X : cdX p s m _ c cX5_bend 5 RX5 g := ⟨hx, hb, hml, hown, hts, hK, hdi, hV⟩
  have hS : va_S (cdZ g s.heap.size) s.heap s.heap [] := va_S.rf
  have hl := lv_entry ([.ref (cdA g 0), .int v1, .int v2, .int v3]) (n := 5) (Nat.le_of_ble_eq_true rfl)
  rw [lg_entry_eq]
  generalize (lg_sl ([.ref (cdA g 0), .int v1, .int v2, .int v3]) ++ List.replicate (5 - (lg_sl ([.ref (cdA g 0), .int v1, .int v2, .int v3])).length) Slot.unset).toArray = ls at hl ⊢
  have hl : lv_has ls 5 [(0, .ref (cdA g 0)), (1, .int v1), (2, .int v2), (3, .int v3)] := hl
  obtain ⟨Qm, hQm⟩ : ∃ z, z = MQ below (va_Qi Q (fun σ' t => va_P (cdD g) vwCl (cdW g σ') t.heap) (cdZ g s.heap.size)) ([.ref (cdA g 0), .int v1, .int v2, .int v3] : List Value).toArray s 0 0 (cdZ g s.heap.size) := ⟨_, rfl⟩
  rw [← hQm]
  have hB := hwp
  refine lv_aload_n hx hb dX5_bend_0 rfl (lv_at hl 0 rfl) ?_
  refine lv_iload_n hx hb dX5_bend_1 rfl (lv_at hl 1 rfl) ?_
  refine cd_ci (cd_runV (As := [.int v1]) (rest := []) (σ := σ) (k := 0) (ci := 5) X wm_X5_80 (by decide) rfl rfl rfl (c_X5_isKnown l g v1 σ _ hB _) hP hS rfl rfl hl.1 (Nat.le_of_ble_eq_true rfl) ⟨Nat.le_of_ble_eq_true rfl, Nat.le_of_ble_eq_true rfl⟩ ⟨Nat.zero_le _, Nat.zero_le _⟩ dX5_bend_2) hS (fun r_1 σ_2 H locs hB hP hS => ?_)
  obtain ⟨eσ_2, hB⟩ := hB
  rw [eσ_2] at hP
  refine lv_if_ne (tgt := 11) hx hb dX5_bend_5 (by decide) (fun c_3 => ?_) (fun c_3 => ?_)
  · have hB := hB.1 c_3
    refine lv_iload_n hx hb dX5_bend_11 rfl (lv_at hl 2 rfl) ?_
    refine lv_bipush (v := -2) hx hb dX5_bend_12 (by decide) ?_
    refine lv_iconst (v := 2) hx hb dX5_bend_14 (by decide) ?_
    refine cd_ci (cd_runS (As := [.int v2, .int (-2 : Int32), .int (2 : Int32)]) (rest := []) (σ := σ) X wm_X5_41 (c_X5_isWithin l g v2 (-2 : Int32) (2 : Int32) σ _ hB _) hP hS rfl rfl hl.1 (Nat.le_of_ble_eq_true rfl) ⟨Nat.le_of_ble_eq_true rfl, Nat.le_of_ble_eq_true rfl⟩ ⟨Nat.zero_le _, Nat.zero_le _⟩ dX5_bend_15) hS (fun r_4 σ_5 H locs hB hP hS => ?_)
    obtain ⟨eσ_5, hB⟩ := hB
    rw [eσ_5] at hP
    refine lv_if_eq (tgt := 31) hx hb dX5_bend_18 (by decide) (fun c_6 => ?_) (fun c_6 => ?_)
    · have hB := hB.1 c_6
      refine lv_ldc (v := -1000003) hx hb hown (hts _ wc_X5_45) dX5_bend_31 ?_
      rw [hQm]
      exact W.iret hx hb hr (fun t ht hW => ⟨⟨(-1000003 : Int32), σ, rfl, hB, cd_hp ht hP⟩, hS.F ht⟩) hS.2.2 dX5_bend_33
    · have hB := hB.2 c_6
      refine lv_iload_n hx hb dX5_bend_21 rfl (lv_at hl 3 rfl) ?_
      refine lv_bipush (v := -2) hx hb dX5_bend_22 (by decide) ?_
      refine lv_iconst (v := 2) hx hb dX5_bend_24 (by decide) ?_
      refine cd_ci (cd_runS (As := [.int v3, .int (-2 : Int32), .int (2 : Int32)]) (rest := []) (σ := σ) X wm_X5_41 (c_X5_isWithin l g v3 (-2 : Int32) (2 : Int32) σ _ hB _) hP hS rfl rfl hl.1 (Nat.le_of_ble_eq_true rfl) ⟨Nat.le_of_ble_eq_true rfl, Nat.le_of_ble_eq_true rfl⟩ ⟨Nat.zero_le _, Nat.zero_le _⟩ dX5_bend_25) hS (fun r_7 σ_8 H locs hB hP hS => ?_)
      obtain ⟨eσ_8, hB⟩ := hB
      rw [eσ_8] at hP
      refine lv_if_ne (tgt := 34) hx hb dX5_bend_28 (by decide) (fun c_9 => ?_) (fun c_9 => ?_)
      · have hB := hB.1 c_9
        refine lv_aload_n hx hb dX5_bend_34 rfl (lv_at hl 0 rfl) ?_
        refine cd_get X hP (C := RX5) (T := TX5) (N := 9) (ci := 5) (k := 0) (j := 4) (v := .ref (cdA g (9 + (cdh (σ.1 0 4))))) inX5 (by decide) rfl rfl (by decide) wf_X5_33 rfl rfl dX5_bend_35 ?_
        refine lv_astore (lv' := [(4, .ref (cdA g (9 + (cdh (σ.1 0 4))))), (0, .ref (cdA g 0)), (1, .int v1), (2, .int v2), (3, .int v3)]) hx hb dX5_bend_38 hl (by decide) rfl (fun ls hl => ?_)
        refine lv_aload hx hb dX5_bend_40 (lv_at hl 0 rfl) ?_
        refine lv_aload_n hx hb dX5_bend_42 rfl (lv_at hl 1 rfl) ?_
        refine cd_get X hP (C := RX5) (T := TX5) (N := 9) (ci := 5) (k := 0) (j := 1) (v := .ref (cdA g 3)) inX5 (by decide) rfl rfl (by decide) wf_X5_37 rfl rfl dX5_bend_43 ?_
        refine lv_iload_n hx hb dX5_bend_46 rfl (lv_at hl 2 rfl) ?_
        obtain ⟨i_10, hB⟩ := hB
        refine cd_hld X hP i_10 dX5_bend_47 ?_
        refine lv_iload_n hx hb dX5_bend_48 rfl (lv_at hl 3 rfl) ?_
        refine lv_iload_n hx hb dX5_bend_49 rfl (lv_at hl 4 rfl) ?_
        obtain ⟨k_11, hB⟩ := hB
        refine cd_cv (cd_runV (As := [.ref (cdA g (9 + (cdh (σ.1 3 (v1).toNatClampNeg)))), .int v2, .int v3]) (rest := []) (σ := σ) (k := 9 + (cdh (σ.1 0 4))) (ci := 2) X wm_X5_94 (show 9 + (cdh (σ.1 0 4)) < 24 by omega) (cdE_head g σ k_11) rfl rfl (c_X2_copyBent l g (cdh (σ.1 0 4)) (cdh (σ.1 3 (v1).toNatClampNeg)) v2 v3 σ _ hB _) hP hS rfl rfl hl.1 (Nat.le_of_ble_eq_true rfl) ⟨Nat.le_of_ble_eq_true rfl, Nat.le_of_ble_eq_true rfl⟩ ⟨Nat.zero_le _, Nat.zero_le _⟩ dX5_bend_50) hS (fun σ_13 H locs hB hP hS => ?_)
        refine lv_aload_n hx hb dX5_bend_53 rfl (lv_at hl 1 rfl) ?_
        refine lv_aload_n hx hb dX5_bend_54 rfl (lv_at hl 1 rfl) ?_
        refine cd_get X hP (C := RX5) (T := TX5) (N := 9) (ci := 5) (k := 0) (j := 1) (v := .ref (cdA g 3)) inX5 (by decide) rfl rfl (by decide) wf_X5_37 rfl rfl dX5_bend_55 ?_
        refine lv_iload_n hx hb dX5_bend_58 rfl (lv_at hl 2 rfl) ?_
        obtain ⟨i_14, hB⟩ := hB
        refine cd_hld X hP i_14 dX5_bend_59 ?_
        obtain ⟨k_16, hB⟩ := hB
        refine cd_put X hP hS (C := RX5) (T := TX5) (N := 9) (ci := 5) (k := 0) (j := 4) (v := .ref (cdA g (9 + (cdh (σ_13.1 3 (v1).toNatClampNeg))))) (σ' := cdU σ_13 0 4 (nI (cdh (σ_13.1 3 (v1).toNatClampNeg)))) inX5 tyX5 tyX5_ok nmX5 (by decide) rfl rfl (by decide) wf_X5_33 rfl rfl (tyX5_ok 4 (by decide)) rfl rfl (Nat.le_of_ble_eq_true rfl) (cdW_sp k_16) dX5_bend_60 (fun H locs hP hS => ?_)
        obtain ⟨σ_15, eσ_15⟩ : ∃ z : cdS, z = cdU σ_13 0 4 (nI (cdh (σ_13.1 3 (v1).toNatClampNeg))) := ⟨_, rfl⟩
        rw [← eσ_15] at hP
        have hB := hB σ_15 eσ_15
        refine lv_aload_n hx hb dX5_bend_63 rfl (lv_at hl 1 rfl) ?_
        refine cd_get X hP (C := RX5) (T := TX5) (N := 9) (ci := 5) (k := 0) (j := 1) (v := .ref (cdA g 3)) inX5 (by decide) rfl rfl (by decide) wf_X5_37 rfl rfl dX5_bend_64 ?_
        refine lv_iload_n hx hb dX5_bend_67 rfl (lv_at hl 2 rfl) ?_
        refine lv_aload hx hb dX5_bend_68 (lv_at hl 0 rfl) ?_
        obtain ⟨i_18, hB⟩ := hB
        refine cd_hst X hP hS k_11 i_18 dX5_bend_70 (fun H locs hP hS => ?_)
        obtain ⟨σ_17, eσ_17⟩ : ∃ z : cdS, z = cdU σ_15 3 (v1).toNatClampNeg (nI (cdh (σ.1 0 4))) := ⟨_, rfl⟩
        rw [← eσ_17] at hP
        have hB := hB σ_17 eσ_17
        refine lv_aload hx hb dX5_bend_71 (lv_at hl 0 rfl) ?_
        refine cd_ci (cd_runV (As := []) (rest := []) (σ := σ_17) (k := 9 + (cdh (σ.1 0 4))) (ci := 2) X wm_X5_98 (show 9 + (cdh (σ.1 0 4)) < 24 by omega) (cdE_head g σ_17 k_11) rfl rfl (c_X2_thrown l g (cdh (σ.1 0 4)) σ_17 _ hB _) hP hS rfl rfl hl.1 (Nat.le_of_ble_eq_true rfl) ⟨Nat.le_of_ble_eq_true rfl, Nat.le_of_ble_eq_true rfl⟩ ⟨Nat.zero_le _, Nat.zero_le _⟩ dX5_bend_73) hS (fun r_19 σ_20 H locs hB hP hS => ?_)
        obtain ⟨eσ_20, hB⟩ := hB
        rw [eσ_20] at hP
        rw [hQm]
        exact W.iret hx hb hr (fun t ht hW => ⟨⟨r_19, σ_17, rfl, hB, cd_hp ht hP⟩, hS.F ht⟩) hS.2.2 dX5_bend_76
      · have hB := hB.2 c_9
        refine lv_ldc (v := -1000003) hx hb hown (hts _ wc_X5_45) dX5_bend_31 ?_
        rw [hQm]
        exact W.iret hx hb hr (fun t ht hW => ⟨⟨(-1000003 : Int32), σ, rfl, hB, cd_hp ht hP⟩, hS.F ht⟩) hS.2.2 dX5_bend_33
  · have hB := hB.2 c_3
    refine lv_ldc (v := -1000002) hx hb hown (hts _ wc_X5_83) dX5_bend_8 ?_
    rw [hQm]
    exact W.iret hx hb hr (fun t ht hW => ⟨⟨(-1000002 : Int32), σ, rfl, hB, cd_hp ht hP⟩, hS.F ht⟩) hS.2.2 dX5_bend_10
def wp_X5_findBest (n1 : Nat) (v2 : Int32) (σ : cdS) (Q : cdS → Prop) : Prop :=
  ∀ (P20 : Int32 → Int32 → cdS → Prop) (P29 : Int32 → Int32 → Int32 → cdS → Prop) (P39 : Int32 → Int32 → Int32 → Int32 → cdS → Prop) (P91 : Int32 → Int32 → Int32 → Int32 → cdS → Prop),
    (∀ (x3 : Int32) (x4 : Int32) (σ : cdS), (
    (((1 : Int32) < x4 →
    Q σ) ∧
    (¬ ((1 : Int32) < x4) →
    P29 x3 x4 (2 : Int32) σ))) → P20 x3 x4 σ) →
    (∀ (x3 : Int32) (x4 : Int32) (x5 : Int32) (σ : cdS), (
    (((9 : Int32) < x5 →
    ∀ x4_9 : Int32, x4_9 = x4 + 1 →
    P20 x3 x4_9 σ) ∧
    (¬ ((9 : Int32) < x5) →
    P39 x3 x4 x5 (2 : Int32) σ))) → P29 x3 x4 x5 σ) →
    (∀ (x3 : Int32) (x4 : Int32) (x5 : Int32) (x6 : Int32) (σ : cdS), (
    (((9 : Int32) < x6 →
    ∀ x5_11 : Int32, x5_11 = x5 + 1 →
    P29 x3 x4 x5_11 σ) ∧
    (¬ ((9 : Int32) < x6) →
    ((x3 < ((v2 * x5) * x6) →
    P91 x3 x4 x5 x6 σ) ∧
    (¬ (x3 < ((v2 * x5) * x6)) →
    wp_X1_layTile n1 x4 x5 x6 σ (fun σ_14 => 
    wp_X1_even σ_14 (fun σ_16 => 
    wp_X0_weigh x4 x5 x6 σ_16 (fun σ_18 => 
    P91 x3 x4 x5 x6 σ_18)))))))) → P39 x3 x4 x5 x6 σ) →
    (∀ (x3 : Int32) (x4 : Int32) (x5 : Int32) (x6 : Int32) (σ : cdS), (
    ∀ x6_19 : Int32, x6_19 = x6 + 1 →
    P39 x3 x4 x5 x6_19 σ) → P91 x3 x4 x5 x6 σ) →
    
    wp_X0_forget σ (fun σ_2 => 
    n1 < 5 ∧ wp_X2_thrown n1 σ_2 (fun r_4 => 
    ((¬ r_4 = 0 →
    P20 r_4 (0 : Int32) σ_2) ∧
    (r_4 = 0 →
    Q σ_2))))
set_option maxHeartbeats 4000000 in
set_option maxRecDepth 100000 in
theorem c_X5_findBest (l : Launch) (g : cdG) (n1 : Nat) (v2 : Int32) (σ : cdS) (Q : cdS → Prop) (hwp : wp_X5_findBest n1 v2 σ Q) : cdCv l g yX5_findBest cX5_findBest 7 none 4 94 [.ref (cdA g 0), .ref (cdA g (9 + n1)), .int v2] σ Q := by
  intro sz
  refine Met.ofW (cc := cX5_findBest) (maxL := 7) (ret := none) (by decide) rfl ?_
  intro p e s m args below meth c s₁ B hml hv
  obtain ⟨rfl, hsz, hP, hK, hdi, hV⟩ := hv
  subst hsz
  have hx := B.exec
  have hb := B.bytes
  have hr := B.returns
  have hlocks := B.notSynchronized
  have hown : s.vm.findClass RX5 = some m.cls := findClass_of_methodNamed B.named
  have hts : ∀ w ∈ cdL, w.before _ s = true := fun w hw => atoms_spec (ws := cdWs yX5_findBest cX5_findBest 7 none) B.pre w (List.mem_cons_of_mem _ hw)
  have X : cdX p s m _ c cX5_findBest 7 RX5 g := ⟨hx, hb, hml, hown, hts, hK, hdi, hV⟩
  have hS : va_S (cdZ g s.heap.size) s.heap s.heap [] := va_S.rf
  have hl := lv_entry ([.ref (cdA g 0), .ref (cdA g (9 + n1)), .int v2]) (n := 7) (Nat.le_of_ble_eq_true rfl)
  rw [lg_entry_eq]
  generalize (lg_sl ([.ref (cdA g 0), .ref (cdA g (9 + n1)), .int v2]) ++ List.replicate (7 - (lg_sl ([.ref (cdA g 0), .ref (cdA g (9 + n1)), .int v2])).length) Slot.unset).toArray = ls at hl ⊢
  have hl : lv_has ls 7 [(0, .ref (cdA g 0)), (1, .ref (cdA g (9 + n1))), (2, .int v2)] := hl
  obtain ⟨Qm, hQm⟩ : ∃ z, z = MQ below (va_Qv Q (fun σ' t => va_P (cdD g) vwCl (cdW g σ') t.heap) (cdZ g s.heap.size)) ([.ref (cdA g 0), .ref (cdA g (9 + n1)), .int v2] : List Value).toArray s 0 0 (cdZ g s.heap.size) := ⟨_, rfl⟩
  rw [← hQm]
  have hB := hwp (fun (x3 : Int32) (x4 : Int32) (σ : cdS) => cdCut p l e (headSpec (cdWs yX5_findBest cX5_findBest 7 none) (cdRm 4 94)).room s m ([.ref (cdA g 0), .ref (cdA g (9 + n1)), .int v2] : List Value).toArray below meth c Qm g 7 20 [(0, .ref (cdA g 0)), (1, .ref (cdA g (9 + n1))), (2, .int v2), (3, .int x3), (4, .int x4)] [] σ)
    (fun (x3 : Int32) (x4 : Int32) (x5 : Int32) (σ : cdS) => cdCut p l e (headSpec (cdWs yX5_findBest cX5_findBest 7 none) (cdRm 4 94)).room s m ([.ref (cdA g 0), .ref (cdA g (9 + n1)), .int v2] : List Value).toArray below meth c Qm g 7 29 [(0, .ref (cdA g 0)), (1, .ref (cdA g (9 + n1))), (2, .int v2), (3, .int x3), (4, .int x4), (5, .int x5)] [] σ)
    (fun (x3 : Int32) (x4 : Int32) (x5 : Int32) (x6 : Int32) (σ : cdS) => cdCut p l e (headSpec (cdWs yX5_findBest cX5_findBest 7 none) (cdRm 4 94)).room s m ([.ref (cdA g 0), .ref (cdA g (9 + n1)), .int v2] : List Value).toArray below meth c Qm g 7 39 [(0, .ref (cdA g 0)), (1, .ref (cdA g (9 + n1))), (2, .int v2), (3, .int x3), (4, .int x4), (5, .int x5), (6, .int x6)] [] σ)
    (fun (x3 : Int32) (x4 : Int32) (x5 : Int32) (x6 : Int32) (σ : cdS) => cdCut p l e (headSpec (cdWs yX5_findBest cX5_findBest 7 none) (cdRm 4 94)).room s m ([.ref (cdA g 0), .ref (cdA g (9 + n1)), .int v2] : List Value).toArray below meth c Qm g 7 91 [(0, .ref (cdA g 0)), (1, .ref (cdA g (9 + n1))), (2, .int v2), (3, .int x3), (4, .int x4), (5, .int x5), (6, .int x6)] [] σ)
    (by
    intro x3 x4 σ hB H locs ls hP hS hl
    refine lv_iload hx hb dX5_findBest_20 (lv_at hl 4 rfl) ?_
    refine lv_iconst (v := 1) hx hb dX5_findBest_22 (by decide) ?_
    refine lv_icmp_gt (tgt := 109) hx hb dX5_findBest_23 (by decide) (fun c_7 => ?_) (fun c_7 => ?_)
    · have hB := hB.1 c_7
      rw [hQm]
      exact W.vret hx hb hr (fun t ht hW => ⟨⟨σ, rfl, hB, cd_hp ht hP⟩, hS.F ht⟩) hS.2.2 dX5_findBest_109
    · have hB := hB.2 c_7
      refine lv_iconst (v := 2) hx hb dX5_findBest_26 (by decide) ?_
      refine lv_istore (lv' := [(5, .int (2 : Int32)), (0, .ref (cdA g 0)), (1, .ref (cdA g (9 + n1))), (2, .int v2), (3, .int x3), (4, .int x4)]) hx hb dX5_findBest_27 hl (by decide) rfl (fun ls hl => ?_)
      exact hB _ _ _ hP hS (lv_sub hl [1, 2, 3, 4, 5, 0] rfl))
    (by
    intro x3 x4 x5 σ hB H locs ls hP hS hl
    refine lv_iload hx hb dX5_findBest_29 (lv_at hl 5 rfl) ?_
    refine lv_bipush (v := 9) hx hb dX5_findBest_31 (by decide) ?_
    refine lv_icmp_gt (tgt := 103) hx hb dX5_findBest_33 (by decide) (fun c_8 => ?_) (fun c_8 => ?_)
    · have hB := hB.1 c_8
      obtain ⟨x4_9, ex4_9⟩ : ∃ z : Int32, z = x4 + 1 := ⟨_, rfl⟩
      have hB := hB x4_9 ex4_9
      refine lv_iinc (v := x4_9) (lv' := [(4, .int x4_9), (0, .ref (cdA g 0)), (1, .ref (cdA g (9 + n1))), (2, .int v2), (3, .int x3), (5, .int x5)]) hx hb dX5_findBest_103 hl (k := 4) rfl (by rw [ex4_9]; rfl) (by decide) rfl (fun ls hl => ?_)
      refine lv_goto (tgt := 20) hx hb dX5_findBest_106 (by decide) ?_
      exact hB _ _ _ hP hS (lv_sub hl [1, 2, 3, 4, 0] rfl)
    · have hB := hB.2 c_8
      refine lv_iconst (v := 2) hx hb dX5_findBest_36 (by decide) ?_
      refine lv_istore (lv' := [(6, .int (2 : Int32)), (0, .ref (cdA g 0)), (1, .ref (cdA g (9 + n1))), (2, .int v2), (3, .int x3), (4, .int x4), (5, .int x5)]) hx hb dX5_findBest_37 hl (by decide) rfl (fun ls hl => ?_)
      exact hB _ _ _ hP hS (lv_sub hl [1, 2, 3, 4, 5, 6, 0] rfl))
    (by
    intro x3 x4 x5 x6 σ hB H locs ls hP hS hl
    refine lv_iload hx hb dX5_findBest_39 (lv_at hl 6 rfl) ?_
    refine lv_bipush (v := 9) hx hb dX5_findBest_41 (by decide) ?_
    refine lv_icmp_gt (tgt := 97) hx hb dX5_findBest_43 (by decide) (fun c_10 => ?_) (fun c_10 => ?_)
    · have hB := hB.1 c_10
      obtain ⟨x5_11, ex5_11⟩ : ∃ z : Int32, z = x5 + 1 := ⟨_, rfl⟩
      have hB := hB x5_11 ex5_11
      refine lv_iinc (v := x5_11) (lv' := [(5, .int x5_11), (0, .ref (cdA g 0)), (1, .ref (cdA g (9 + n1))), (2, .int v2), (3, .int x3), (4, .int x4), (6, .int x6)]) hx hb dX5_findBest_97 hl (k := 5) rfl (by rw [ex5_11]; rfl) (by decide) rfl (fun ls hl => ?_)
      refine lv_goto (tgt := 29) hx hb dX5_findBest_100 (by decide) ?_
      exact hB _ _ _ hP hS (lv_sub hl [1, 2, 3, 4, 5, 0] rfl)
    · have hB := hB.2 c_10
      refine lv_iload_n hx hb dX5_findBest_46 rfl (lv_at hl 3 rfl) ?_
      refine lv_iload_n hx hb dX5_findBest_47 rfl (lv_at hl 2 rfl) ?_
      refine lv_iload hx hb dX5_findBest_48 (lv_at hl 5 rfl) ?_
      refine lv_imul hx hb dX5_findBest_50 ?_
      refine lv_iload hx hb dX5_findBest_51 (lv_at hl 6 rfl) ?_
      refine lv_imul hx hb dX5_findBest_53 ?_
      refine lv_icmp_lt (tgt := 91) hx hb dX5_findBest_54 (by decide) (fun c_12 => ?_) (fun c_12 => ?_)
      · have hB := hB.1 c_12
        exact hB _ _ _ hP hS (lv_sub hl [0, 1, 2, 3, 4, 5, 6] rfl)
      · have hB := hB.2 c_12
        refine lv_aload_n hx hb dX5_findBest_57 rfl (lv_at hl 0 rfl) ?_
        refine cd_get X hP (C := RX5) (T := TX5) (N := 9) (ci := 5) (k := 0) (j := 2) (v := .ref (cdA g 4)) inX5 (by decide) rfl rfl (by decide) wf_X5_19 rfl rfl dX5_findBest_58 ?_
        refine lv_aload_n hx hb dX5_findBest_61 rfl (lv_at hl 1 rfl) ?_
        refine lv_iload hx hb dX5_findBest_62 (lv_at hl 4 rfl) ?_
        refine lv_iload hx hb dX5_findBest_64 (lv_at hl 5 rfl) ?_
        refine lv_iload hx hb dX5_findBest_66 (lv_at hl 6 rfl) ?_
        refine cd_cv (cd_runV (As := [.ref (cdA g (9 + n1)), .int x4, .int x5, .int x6]) (rest := []) (σ := σ) (k := 4) (ci := 1) X wm_X5_112 (by decide) rfl rfl rfl (c_X1_layTile l g n1 x4 x5 x6 σ _ hB _) hP hS rfl rfl hl.1 (Nat.le_of_ble_eq_true rfl) ⟨Nat.le_of_ble_eq_true rfl, Nat.le_of_ble_eq_true rfl⟩ ⟨Nat.zero_le _, Nat.zero_le _⟩ dX5_findBest_68) hS (fun σ_14 H locs hB hP hS => ?_)
        refine lv_aload_n hx hb dX5_findBest_71 rfl (lv_at hl 0 rfl) ?_
        refine cd_get X hP (C := RX5) (T := TX5) (N := 9) (ci := 5) (k := 0) (j := 3) (v := .ref (cdA g 8)) inX5 (by decide) rfl rfl (by decide) wf_X5_26 rfl rfl dX5_findBest_72 ?_
        refine lv_iload hx hb dX5_findBest_75 (lv_at hl 4 rfl) ?_
        refine lv_iload hx hb dX5_findBest_77 (lv_at hl 5 rfl) ?_
        refine lv_iload hx hb dX5_findBest_79 (lv_at hl 6 rfl) ?_
        refine lv_aload_n hx hb dX5_findBest_81 rfl (lv_at hl 0 rfl) ?_
        refine cd_get X hP (C := RX5) (T := TX5) (N := 9) (ci := 5) (k := 0) (j := 2) (v := .ref (cdA g 4)) inX5 (by decide) rfl rfl (by decide) wf_X5_19 rfl rfl dX5_findBest_82 ?_
        refine cd_cr (cd_runV (As := []) (rest := [.int x6, .int x5, .int x4, .ref (cdA g 8)]) (σ := σ_14) (k := 4) (ci := 1) X wm_X5_183 (by decide) rfl rfl rfl (c_X1_even l g  σ_14 _ hB _) hP hS rfl rfl hl.1 (Nat.le_of_ble_eq_true rfl) ⟨Nat.le_of_ble_eq_true rfl, Nat.le_of_ble_eq_true rfl⟩ ⟨Nat.zero_le _, Nat.zero_le _⟩ dX5_findBest_85) hS (fun σ_16 H locs hB hP hS => ?_)
        refine cd_cv (cd_runV (As := [.int x4, .int x5, .int x6, .ref (cdA g 7)]) (rest := []) (σ := σ_16) (k := 8) (ci := 0) X wm_X5_187 (by decide) rfl rfl rfl (c_X0_weigh l g x4 x5 x6 σ_16 _ hB _) hP hS rfl rfl hl.1 (Nat.le_of_ble_eq_true rfl) ⟨Nat.le_of_ble_eq_true rfl, Nat.le_of_ble_eq_true rfl⟩ ⟨Nat.zero_le _, Nat.zero_le _⟩ dX5_findBest_88) hS (fun σ_18 H locs hB hP hS => ?_)
        exact hB _ _ _ hP hS (lv_sub hl [0, 1, 2, 3, 4, 5, 6] rfl))
    (by
    intro x3 x4 x5 x6 σ hB H locs ls hP hS hl
    obtain ⟨x6_19, ex6_19⟩ : ∃ z : Int32, z = x6 + 1 := ⟨_, rfl⟩
    have hB := hB x6_19 ex6_19
    refine lv_iinc (v := x6_19) (lv' := [(6, .int x6_19), (0, .ref (cdA g 0)), (1, .ref (cdA g (9 + n1))), (2, .int v2), (3, .int x3), (4, .int x4), (5, .int x5)]) hx hb dX5_findBest_91 hl (k := 6) rfl (by rw [ex6_19]; rfl) (by decide) rfl (fun ls hl => ?_)
    refine lv_goto (tgt := 39) hx hb dX5_findBest_94 (by decide) ?_
    exact hB _ _ _ hP hS (lv_sub hl [1, 2, 3, 4, 5, 6, 0] rfl))
  refine lv_aload_n hx hb dX5_findBest_0 rfl (lv_at hl 0 rfl) ?_
  refine cd_get X hP (C := RX5) (T := TX5) (N := 9) (ci := 5) (k := 0) (j := 3) (v := .ref (cdA g 8)) inX5 (by decide) rfl rfl (by decide) wf_X5_26 rfl rfl dX5_findBest_1 ?_
  refine cd_cv (cd_runV (As := []) (rest := []) (σ := σ) (k := 8) (ci := 0) X wm_X5_180 (by decide) rfl rfl rfl (c_X0_forget l g  σ _ hB _) hP hS rfl rfl hl.1 (Nat.le_of_ble_eq_true rfl) ⟨Nat.le_of_ble_eq_true rfl, Nat.le_of_ble_eq_true rfl⟩ ⟨Nat.zero_le _, Nat.zero_le _⟩ dX5_findBest_4) hS (fun σ_2 H locs hB hP hS => ?_)
  refine lv_aload_n hx hb dX5_findBest_7 rfl (lv_at hl 1 rfl) ?_
  obtain ⟨k_3, hB⟩ := hB
  refine cd_ci (cd_runV (As := []) (rest := []) (σ := σ_2) (k := 9 + n1) (ci := 2) X wm_X5_98 (show 9 + n1 < 24 by omega) (cdE_head g σ_2 k_3) rfl rfl (c_X2_thrown l g n1 σ_2 _ hB _) hP hS rfl rfl hl.1 (Nat.le_of_ble_eq_true rfl) ⟨Nat.le_of_ble_eq_true rfl, Nat.le_of_ble_eq_true rfl⟩ ⟨Nat.zero_le _, Nat.zero_le _⟩ dX5_findBest_8) hS (fun r_4 σ_5 H locs hB hP hS => ?_)
  obtain ⟨eσ_5, hB⟩ := hB
  rw [eσ_5] at hP
  refine lv_istore_n (lv' := [(3, .int r_4), (0, .ref (cdA g 0)), (1, .ref (cdA g (9 + n1))), (2, .int v2)]) hx hb dX5_findBest_11 rfl hl (by decide) rfl (fun ls hl => ?_)
  refine lv_iload_n hx hb dX5_findBest_12 rfl (lv_at hl 0 rfl) ?_
  refine lv_if_ne (tgt := 17) hx hb dX5_findBest_13 (by decide) (fun c_6 => ?_) (fun c_6 => ?_)
  · have hB := hB.1 c_6
    refine lv_iconst (v := 0) hx hb dX5_findBest_17 (by decide) ?_
    refine lv_istore (lv' := [(4, .int (0 : Int32)), (3, .int r_4), (0, .ref (cdA g 0)), (1, .ref (cdA g (9 + n1))), (2, .int v2)]) hx hb dX5_findBest_18 hl (by decide) rfl (fun ls hl => ?_)
    exact hB _ _ _ hP hS (lv_sub hl [2, 3, 4, 1, 0] rfl)
  · have hB := hB.2 c_6
    rw [hQm]
    exact W.vret hx hb hr (fun t ht hW => ⟨⟨σ_2, rfl, hB, cd_hp ht hP⟩, hS.F ht⟩) hS.2.2 dX5_findBest_16
def wp_X5_best (v1 : Int32) (v2 : Int32) (v3 : Int32) (σ : cdS) (Q : Int32 → cdS → Prop) : Prop :=
  
    wp_X5_isKnown v1 σ (fun r_1 => 
    ((¬ r_1 = 0 →
    wp_X5_isWithin v2 (0 : Int32) (99 : Int32) σ (fun r_4 => 
    ((r_4 = 0 →
    Q (-1000003 : Int32) σ) ∧
    (¬ (r_4 = 0) →
    wp_X5_isWithin v3 (0 : Int32) (4 : Int32) σ (fun r_7 => 
    ((¬ r_7 = 0 →
    vp_in v1 4 ∧
    wp_X5_findBest (cdh (σ.1 3 (v1).toNatClampNeg)) v2 σ (fun σ_12 => 
    wp_X0_tell v3 σ_12 (fun r_13 => 
    Q r_13 σ_12))) ∧
    (r_7 = 0 →
    Q (-1000003 : Int32) σ))))))) ∧
    (r_1 = 0 →
    Q (-1000002 : Int32) σ)))
set_option maxHeartbeats 4000000 in
set_option maxRecDepth 100000 in
theorem c_X5_best (l : Launch) (g : cdG) (v1 : Int32) (v2 : Int32) (v3 : Int32) (σ : cdS) (Q : Int32 → cdS → Prop) (hwp : wp_X5_best v1 v2 v3 σ Q) : cdCi l g yX5_best cX5_best 4 (some .int) 5 120 [.ref (cdA g 0), .int v1, .int v2, .int v3] σ Q := by
  intro sz
  refine Met.ofW (cc := cX5_best) (maxL := 4) (ret := (some .int)) (by decide) rfl ?_
  intro p e s m args below meth c s₁ B hml hv
  obtain ⟨rfl, hsz, hP, hK, hdi, hV⟩ := hv
  subst hsz
  have hx := B.exec
  have hb := B.bytes
  have hr := B.returns
  have hlocks := B.notSynchronized
  have hown : s.vm.findClass RX5 = some m.cls := findClass_of_methodNamed B.named
  have hts : ∀ w ∈ cdL, w.before _ s = true := fun w hw => atoms_spec (ws := cdWs yX5_best cX5_best 4 (some .int)) B.pre w (List.mem_cons_of_mem _ hw)
  have X : cdX p s m _ c cX5_best 4 RX5 g := ⟨hx, hb, hml, hown, hts, hK, hdi, hV⟩
  have hS : va_S (cdZ g s.heap.size) s.heap s.heap [] := va_S.rf
  have hl := lv_entry ([.ref (cdA g 0), .int v1, .int v2, .int v3]) (n := 4) (Nat.le_of_ble_eq_true rfl)
  rw [lg_entry_eq]
  generalize (lg_sl ([.ref (cdA g 0), .int v1, .int v2, .int v3]) ++ List.replicate (4 - (lg_sl ([.ref (cdA g 0), .int v1, .int v2, .int v3])).length) Slot.unset).toArray = ls at hl ⊢
  have hl : lv_has ls 4 [(0, .ref (cdA g 0)), (1, .int v1), (2, .int v2), (3, .int v3)] := hl
  obtain ⟨Qm, hQm⟩ : ∃ z, z = MQ below (va_Qi Q (fun σ' t => va_P (cdD g) vwCl (cdW g σ') t.heap) (cdZ g s.heap.size)) ([.ref (cdA g 0), .int v1, .int v2, .int v3] : List Value).toArray s 0 0 (cdZ g s.heap.size) := ⟨_, rfl⟩
  rw [← hQm]
  have hB := hwp
  refine lv_aload_n hx hb dX5_best_0 rfl (lv_at hl 0 rfl) ?_
  refine lv_iload_n hx hb dX5_best_1 rfl (lv_at hl 1 rfl) ?_
  refine cd_ci (cd_runV (As := [.int v1]) (rest := []) (σ := σ) (k := 0) (ci := 5) X wm_X5_80 (by decide) rfl rfl rfl (c_X5_isKnown l g v1 σ _ hB _) hP hS rfl rfl hl.1 (Nat.le_of_ble_eq_true rfl) ⟨Nat.le_of_ble_eq_true rfl, Nat.le_of_ble_eq_true rfl⟩ ⟨Nat.zero_le _, Nat.zero_le _⟩ dX5_best_2) hS (fun r_1 σ_2 H locs hB hP hS => ?_)
  obtain ⟨eσ_2, hB⟩ := hB
  rw [eσ_2] at hP
  refine lv_if_ne (tgt := 11) hx hb dX5_best_5 (by decide) (fun c_3 => ?_) (fun c_3 => ?_)
  · have hB := hB.1 c_3
    refine lv_iload_n hx hb dX5_best_11 rfl (lv_at hl 2 rfl) ?_
    refine lv_iconst (v := 0) hx hb dX5_best_12 (by decide) ?_
    refine lv_bipush (v := 99) hx hb dX5_best_13 (by decide) ?_
    refine cd_ci (cd_runS (As := [.int v2, .int (0 : Int32), .int (99 : Int32)]) (rest := []) (σ := σ) X wm_X5_41 (c_X5_isWithin l g v2 (0 : Int32) (99 : Int32) σ _ hB _) hP hS rfl rfl hl.1 (Nat.le_of_ble_eq_true rfl) ⟨Nat.le_of_ble_eq_true rfl, Nat.le_of_ble_eq_true rfl⟩ ⟨Nat.zero_le _, Nat.zero_le _⟩ dX5_best_15) hS (fun r_4 σ_5 H locs hB hP hS => ?_)
    obtain ⟨eσ_5, hB⟩ := hB
    rw [eσ_5] at hP
    refine lv_if_eq (tgt := 30) hx hb dX5_best_18 (by decide) (fun c_6 => ?_) (fun c_6 => ?_)
    · have hB := hB.1 c_6
      refine lv_ldc (v := -1000003) hx hb hown (hts _ wc_X5_45) dX5_best_30 ?_
      rw [hQm]
      exact W.iret hx hb hr (fun t ht hW => ⟨⟨(-1000003 : Int32), σ, rfl, hB, cd_hp ht hP⟩, hS.F ht⟩) hS.2.2 dX5_best_32
    · have hB := hB.2 c_6
      refine lv_iload_n hx hb dX5_best_21 rfl (lv_at hl 3 rfl) ?_
      refine lv_iconst (v := 0) hx hb dX5_best_22 (by decide) ?_
      refine lv_iconst (v := 4) hx hb dX5_best_23 (by decide) ?_
      refine cd_ci (cd_runS (As := [.int v3, .int (0 : Int32), .int (4 : Int32)]) (rest := []) (σ := σ) X wm_X5_41 (c_X5_isWithin l g v3 (0 : Int32) (4 : Int32) σ _ hB _) hP hS rfl rfl hl.1 (Nat.le_of_ble_eq_true rfl) ⟨Nat.le_of_ble_eq_true rfl, Nat.le_of_ble_eq_true rfl⟩ ⟨Nat.zero_le _, Nat.zero_le _⟩ dX5_best_24) hS (fun r_7 σ_8 H locs hB hP hS => ?_)
      obtain ⟨eσ_8, hB⟩ := hB
      rw [eσ_8] at hP
      refine lv_if_ne (tgt := 33) hx hb dX5_best_27 (by decide) (fun c_9 => ?_) (fun c_9 => ?_)
      · have hB := hB.1 c_9
        refine lv_aload_n hx hb dX5_best_33 rfl (lv_at hl 0 rfl) ?_
        refine lv_aload_n hx hb dX5_best_34 rfl (lv_at hl 0 rfl) ?_
        refine cd_get X hP (C := RX5) (T := TX5) (N := 9) (ci := 5) (k := 0) (j := 1) (v := .ref (cdA g 3)) inX5 (by decide) rfl rfl (by decide) wf_X5_37 rfl rfl dX5_best_35 ?_
        refine lv_iload_n hx hb dX5_best_38 rfl (lv_at hl 1 rfl) ?_
        obtain ⟨i_10, hB⟩ := hB
        refine cd_hld X hP i_10 dX5_best_39 ?_
        refine lv_iload_n hx hb dX5_best_40 rfl (lv_at hl 2 rfl) ?_
        refine cd_cv (cd_runV (As := [.ref (cdA g (9 + (cdh (σ.1 3 (v1).toNatClampNeg)))), .int v2]) (rest := []) (σ := σ) (k := 0) (ci := 5) X wm_X5_127 (by decide) rfl rfl rfl (c_X5_findBest l g (cdh (σ.1 3 (v1).toNatClampNeg)) v2 σ _ hB _) hP hS rfl rfl hl.1 (Nat.le_of_ble_eq_true rfl) ⟨Nat.le_of_ble_eq_true rfl, Nat.le_of_ble_eq_true rfl⟩ ⟨Nat.zero_le _, Nat.zero_le _⟩ dX5_best_41) hS (fun σ_12 H locs hB hP hS => ?_)
        refine lv_aload_n hx hb dX5_best_44 rfl (lv_at hl 0 rfl) ?_
        refine cd_get X hP (C := RX5) (T := TX5) (N := 9) (ci := 5) (k := 0) (j := 3) (v := .ref (cdA g 8)) inX5 (by decide) rfl rfl (by decide) wf_X5_26 rfl rfl dX5_best_45 ?_
        refine lv_iload_n hx hb dX5_best_48 rfl (lv_at hl 3 rfl) ?_
        refine cd_ci (cd_runV (As := [.int v3]) (rest := []) (σ := σ_12) (k := 8) (ci := 0) X wm_X5_131 (by decide) rfl rfl rfl (c_X0_tell l g v3 σ_12 _ hB _) hP hS rfl rfl hl.1 (Nat.le_of_ble_eq_true rfl) ⟨Nat.le_of_ble_eq_true rfl, Nat.le_of_ble_eq_true rfl⟩ ⟨Nat.zero_le _, Nat.zero_le _⟩ dX5_best_49) hS (fun r_13 σ_14 H locs hB hP hS => ?_)
        obtain ⟨eσ_14, hB⟩ := hB
        rw [eσ_14] at hP
        rw [hQm]
        exact W.iret hx hb hr (fun t ht hW => ⟨⟨r_13, σ_12, rfl, hB, cd_hp ht hP⟩, hS.F ht⟩) hS.2.2 dX5_best_52
      · have hB := hB.2 c_9
        refine lv_ldc (v := -1000003) hx hb hown (hts _ wc_X5_45) dX5_best_30 ?_
        rw [hQm]
        exact W.iret hx hb hr (fun t ht hW => ⟨⟨(-1000003 : Int32), σ, rfl, hB, cd_hp ht hP⟩, hS.F ht⟩) hS.2.2 dX5_best_32
  · have hB := hB.2 c_3
    refine lv_ldc (v := -1000002) hx hb hown (hts _ wc_X5_83) dX5_best_8 ?_
    rw [hQm]
    exact W.iret hx hb hr (fun t ht hW => ⟨⟨(-1000002 : Int32), σ, rfl, hB, cd_hp ht hP⟩, hS.F ht⟩) hS.2.2 dX5_best_10
def wp_X5_numberInField (v0 : Int32) (v1 : Int32) (σ : cdS) (Q : Int32 → Prop) : Prop :=
  
    Q (v0 + ((3 : Int32) * v1))
set_option maxHeartbeats 4000000 in
set_option maxRecDepth 100000 in
theorem c_X5_numberInField (l : Launch) (g : cdG) (v0 : Int32) (v1 : Int32) (σ : cdS) (Q : Int32 → Prop) (hwp : wp_X5_numberInField v0 v1 σ Q) : cdCi l g yX5_numberInField cX5_numberInField 2 (some .int) 0 0 [.int v0, .int v1] σ (fun r σ' => σ' = σ ∧ Q r) := by
  intro sz
  refine Met.ofW (cc := cX5_numberInField) (maxL := 2) (ret := (some .int)) (by decide) rfl ?_
  intro p e s m args below meth c s₁ B hml hv
  obtain ⟨rfl, hsz, hP, hK, hdi, hV⟩ := hv
  subst hsz
  have hx := B.exec
  have hb := B.bytes
  have hr := B.returns
  have hlocks := B.notSynchronized
  have hown : s.vm.findClass RX5 = some m.cls := findClass_of_methodNamed B.named
  have hts : ∀ w ∈ cdL, w.before _ s = true := fun w hw => atoms_spec (ws := cdWs yX5_numberInField cX5_numberInField 2 (some .int)) B.pre w (List.mem_cons_of_mem _ hw)
  have X : cdX p s m _ c cX5_numberInField 2 RX5 g := ⟨hx, hb, hml, hown, hts, hK, hdi, hV⟩
  have hS : va_S (cdZ g s.heap.size) s.heap s.heap [] := va_S.rf
  have hl := lv_entry ([.int v0, .int v1]) (n := 2) (Nat.le_of_ble_eq_true rfl)
  rw [lg_entry_eq]
  generalize (lg_sl ([.int v0, .int v1]) ++ List.replicate (2 - (lg_sl ([.int v0, .int v1])).length) Slot.unset).toArray = ls at hl ⊢
  have hl : lv_has ls 2 [(0, .int v0), (1, .int v1)] := hl
  obtain ⟨Qm, hQm⟩ : ∃ z, z = MQ below (va_Qi (fun r σ' => σ' = σ ∧ Q r) (fun σ' t => va_P (cdD g) vwCl (cdW g σ') t.heap) (cdZ g s.heap.size)) ([.int v0, .int v1] : List Value).toArray s 0 0 (cdZ g s.heap.size) := ⟨_, rfl⟩
  rw [← hQm]
  have hB := hwp
  refine lv_iload_n hx hb dX5_numberInField_0 rfl (lv_at hl 0 rfl) ?_
  refine lv_iconst (v := 3) hx hb dX5_numberInField_1 (by decide) ?_
  refine lv_iload_n hx hb dX5_numberInField_2 rfl (lv_at hl 1 rfl) ?_
  refine lv_imul hx hb dX5_numberInField_3 ?_
  refine lv_iadd hx hb dX5_numberInField_4 ?_
  rw [hQm]
  exact W.iret hx hb hr (fun t ht hW => ⟨⟨(v0 + ((3 : Int32) * v1)), σ, rfl, ⟨rfl, hB⟩, cd_hp ht hP⟩, hS.F ht⟩) hS.2.2 dX5_numberInField_5
def wp_X5_bitsOfField (v0 : Int32) (v1 : Int32) (σ : cdS) (Q : Int32 → Prop) : Prop :=
  ∀ (P4 : Int32 → Int32 → Prop) (P12 : Int32 → Int32 → Int32 → Prop),
    (∀ (x2 : Int32) (x3 : Int32), (
    ((v1 ≤ x3 →
    Q x2) ∧
    (¬ (v1 ≤ x3) →
    P12 x2 x3 (0 : Int32)))) → P4 x2 x3) →
    (∀ (x2 : Int32) (x3 : Int32) (x4 : Int32), (
    ((v0 ≤ x4 →
    ∀ x3_3 : Int32, x3_3 = x3 + 1 →
    P4 x2 x3_3) ∧
    (¬ (v0 ≤ x4) →
    wp_X5_numberInField x4 x3 σ (fun r_4 => 
    ∀ x2_6 : Int32, x2_6 = (x2 ||| ((1 : Int32) <<< (r_4 &&& 31))) →
    ∀ x4_7 : Int32, x4_7 = x4 + 1 →
    P12 x2_6 x3 x4_7)))) → P12 x2 x3 x4) →
    
    P4 (0 : Int32) (0 : Int32)
set_option maxHeartbeats 4000000 in
set_option maxRecDepth 100000 in
theorem c_X5_bitsOfField (l : Launch) (g : cdG) (v0 : Int32) (v1 : Int32) (σ : cdS) (Q : Int32 → Prop) (hwp : wp_X5_bitsOfField v0 v1 σ Q) : cdCi l g yX5_bitsOfField cX5_bitsOfField 5 (some .int) 1 21 [.int v0, .int v1] σ (fun r σ' => σ' = σ ∧ Q r) := by
  intro sz
  refine Met.ofW (cc := cX5_bitsOfField) (maxL := 5) (ret := (some .int)) (by decide) rfl ?_
  intro p e s m args below meth c s₁ B hml hv
  obtain ⟨rfl, hsz, hP, hK, hdi, hV⟩ := hv
  subst hsz
  have hx := B.exec
  have hb := B.bytes
  have hr := B.returns
  have hlocks := B.notSynchronized
  have hown : s.vm.findClass RX5 = some m.cls := findClass_of_methodNamed B.named
  have hts : ∀ w ∈ cdL, w.before _ s = true := fun w hw => atoms_spec (ws := cdWs yX5_bitsOfField cX5_bitsOfField 5 (some .int)) B.pre w (List.mem_cons_of_mem _ hw)
  have X : cdX p s m _ c cX5_bitsOfField 5 RX5 g := ⟨hx, hb, hml, hown, hts, hK, hdi, hV⟩
  have hS : va_S (cdZ g s.heap.size) s.heap s.heap [] := va_S.rf
  have hl := lv_entry ([.int v0, .int v1]) (n := 5) (Nat.le_of_ble_eq_true rfl)
  rw [lg_entry_eq]
  generalize (lg_sl ([.int v0, .int v1]) ++ List.replicate (5 - (lg_sl ([.int v0, .int v1])).length) Slot.unset).toArray = ls at hl ⊢
  have hl : lv_has ls 5 [(0, .int v0), (1, .int v1)] := hl
  obtain ⟨Qm, hQm⟩ : ∃ z, z = MQ below (va_Qi (fun r σ' => σ' = σ ∧ Q r) (fun σ' t => va_P (cdD g) vwCl (cdW g σ') t.heap) (cdZ g s.heap.size)) ([.int v0, .int v1] : List Value).toArray s 0 0 (cdZ g s.heap.size) := ⟨_, rfl⟩
  rw [← hQm]
  have hB := hwp (fun (x2 : Int32) (x3 : Int32) => cdCut p l e (headSpec (cdWs yX5_bitsOfField cX5_bitsOfField 5 (some .int)) (cdRm 1 21)).room s m ([.int v0, .int v1] : List Value).toArray below meth c Qm g 5 4 [(0, .int v0), (1, .int v1), (2, .int x2), (3, .int x3)] [] σ)
    (fun (x2 : Int32) (x3 : Int32) (x4 : Int32) => cdCut p l e (headSpec (cdWs yX5_bitsOfField cX5_bitsOfField 5 (some .int)) (cdRm 1 21)).room s m ([.int v0, .int v1] : List Value).toArray below meth c Qm g 5 12 [(0, .int v0), (1, .int v1), (2, .int x2), (3, .int x3), (4, .int x4)] [] σ)
    (by
    intro x2 x3 hB H locs ls hP hS hl
    refine lv_iload_n hx hb dX5_bitsOfField_4 rfl (lv_at hl 3 rfl) ?_
    refine lv_iload_n hx hb dX5_bitsOfField_5 rfl (lv_at hl 1 rfl) ?_
    refine lv_icmp_ge (tgt := 41) hx hb dX5_bitsOfField_6 (by decide) (fun c_1 => ?_) (fun c_1 => ?_)
    · have hB := hB.1 c_1
      refine lv_iload_n hx hb dX5_bitsOfField_41 rfl (lv_at hl 2 rfl) ?_
      rw [hQm]
      exact W.iret hx hb hr (fun t ht hW => ⟨⟨x2, σ, rfl, ⟨rfl, hB⟩, cd_hp ht hP⟩, hS.F ht⟩) hS.2.2 dX5_bitsOfField_42
    · have hB := hB.2 c_1
      refine lv_iconst (v := 0) hx hb dX5_bitsOfField_9 (by decide) ?_
      refine lv_istore (lv' := [(4, .int (0 : Int32)), (0, .int v0), (1, .int v1), (2, .int x2), (3, .int x3)]) hx hb dX5_bitsOfField_10 hl (by decide) rfl (fun ls hl => ?_)
      exact hB _ _ _ hP hS (lv_sub hl [1, 2, 3, 4, 0] rfl))
    (by
    intro x2 x3 x4 hB H locs ls hP hS hl
    refine lv_iload hx hb dX5_bitsOfField_12 (lv_at hl 4 rfl) ?_
    refine lv_iload_n hx hb dX5_bitsOfField_14 rfl (lv_at hl 0 rfl) ?_
    refine lv_icmp_ge (tgt := 35) hx hb dX5_bitsOfField_15 (by decide) (fun c_2 => ?_) (fun c_2 => ?_)
    · have hB := hB.1 c_2
      obtain ⟨x3_3, ex3_3⟩ : ∃ z : Int32, z = x3 + 1 := ⟨_, rfl⟩
      have hB := hB x3_3 ex3_3
      refine lv_iinc (v := x3_3) (lv' := [(3, .int x3_3), (0, .int v0), (1, .int v1), (2, .int x2), (4, .int x4)]) hx hb dX5_bitsOfField_35 hl (k := 3) rfl (by rw [ex3_3]; rfl) (by decide) rfl (fun ls hl => ?_)
      refine lv_goto (tgt := 4) hx hb dX5_bitsOfField_38 (by decide) ?_
      exact hB _ _ _ hP hS (lv_sub hl [1, 2, 3, 0] rfl)
    · have hB := hB.2 c_2
      refine lv_iload_n hx hb dX5_bitsOfField_18 rfl (lv_at hl 2 rfl) ?_
      refine lv_iconst (v := 1) hx hb dX5_bitsOfField_19 (by decide) ?_
      refine lv_iload hx hb dX5_bitsOfField_20 (lv_at hl 4 rfl) ?_
      refine lv_iload_n hx hb dX5_bitsOfField_22 rfl (lv_at hl 3 rfl) ?_
      refine cd_ci (cd_runS (As := [.int x4, .int x3]) (rest := [.int (1 : Int32), .int x2]) (σ := σ) X wm_X5_191 (c_X5_numberInField l g x4 x3 σ _ hB _) hP hS rfl rfl hl.1 (Nat.le_of_ble_eq_true rfl) ⟨Nat.le_of_ble_eq_true rfl, Nat.le_of_ble_eq_true rfl⟩ ⟨Nat.zero_le _, Nat.zero_le _⟩ dX5_bitsOfField_23) hS (fun r_4 σ_5 H locs hB hP hS => ?_)
      obtain ⟨eσ_5, hB⟩ := hB
      rw [eσ_5] at hP
      refine lv_ishl hx hb dX5_bitsOfField_26 ?_
      refine lv_ior hx hb dX5_bitsOfField_27 ?_
      refine lv_topi (fun x2_6 ex2_6 => ?_)
      have hB := hB x2_6 ex2_6
      refine lv_istore_n (lv' := [(2, .int x2_6), (0, .int v0), (1, .int v1), (3, .int x3), (4, .int x4)]) hx hb dX5_bitsOfField_28 rfl hl (by decide) rfl (fun ls hl => ?_)
      obtain ⟨x4_7, ex4_7⟩ : ∃ z : Int32, z = x4 + 1 := ⟨_, rfl⟩
      have hB := hB x4_7 ex4_7
      refine lv_iinc (v := x4_7) (lv' := [(4, .int x4_7), (2, .int x2_6), (0, .int v0), (1, .int v1), (3, .int x3)]) hx hb dX5_bitsOfField_29 hl (k := 4) rfl (by rw [ex4_7]; rfl) (by decide) rfl (fun ls hl => ?_)
      refine lv_goto (tgt := 12) hx hb dX5_bitsOfField_32 (by decide) ?_
      exact hB _ _ _ hP hS (lv_sub hl [2, 3, 1, 4, 0] rfl))
  refine lv_iconst (v := 0) hx hb dX5_bitsOfField_0 (by decide) ?_
  refine lv_istore_n (lv' := [(2, .int (0 : Int32)), (0, .int v0), (1, .int v1)]) hx hb dX5_bitsOfField_1 rfl hl (by decide) rfl (fun ls hl => ?_)
  refine lv_iconst (v := 0) hx hb dX5_bitsOfField_2 (by decide) ?_
  refine lv_istore_n (lv' := [(3, .int (0 : Int32)), (2, .int (0 : Int32)), (0, .int v0), (1, .int v1)]) hx hb dX5_bitsOfField_3 rfl hl (by decide) rfl (fun ls hl => ?_)
  exact hB _ _ _ hP hS (lv_sub hl [2, 3, 1, 0] rfl)
def wp_X5_blank  (σ : cdS) (Q : Int32 → cdS → Prop) : Prop :=
  
    wp_X3_length σ (fun r_1 => 
    wp_X3_clear σ (fun σ_4 => 
    Q r_1 σ_4))
set_option maxHeartbeats 4000000 in
set_option maxRecDepth 100000 in
theorem c_X5_blank (l : Launch) (g : cdG)  (σ : cdS) (Q : Int32 → cdS → Prop) (hwp : wp_X5_blank  σ Q) : cdCi l g yX5_blank cX5_blank 2 (some .int) 1 20 [.ref (cdA g 0)] σ Q := by
  intro sz
  refine Met.ofW (cc := cX5_blank) (maxL := 2) (ret := (some .int)) (by decide) rfl ?_
  intro p e s m args below meth c s₁ B hml hv
  obtain ⟨rfl, hsz, hP, hK, hdi, hV⟩ := hv
  subst hsz
  have hx := B.exec
  have hb := B.bytes
  have hr := B.returns
  have hlocks := B.notSynchronized
  have hown : s.vm.findClass RX5 = some m.cls := findClass_of_methodNamed B.named
  have hts : ∀ w ∈ cdL, w.before _ s = true := fun w hw => atoms_spec (ws := cdWs yX5_blank cX5_blank 2 (some .int)) B.pre w (List.mem_cons_of_mem _ hw)
  have X : cdX p s m _ c cX5_blank 2 RX5 g := ⟨hx, hb, hml, hown, hts, hK, hdi, hV⟩
  have hS : va_S (cdZ g s.heap.size) s.heap s.heap [] := va_S.rf
  have hl := lv_entry ([.ref (cdA g 0)]) (n := 2) (Nat.le_of_ble_eq_true rfl)
  rw [lg_entry_eq]
  generalize (lg_sl ([.ref (cdA g 0)]) ++ List.replicate (2 - (lg_sl ([.ref (cdA g 0)])).length) Slot.unset).toArray = ls at hl ⊢
  have hl : lv_has ls 2 [(0, .ref (cdA g 0))] := hl
  obtain ⟨Qm, hQm⟩ : ∃ z, z = MQ below (va_Qi Q (fun σ' t => va_P (cdD g) vwCl (cdW g σ') t.heap) (cdZ g s.heap.size)) ([.ref (cdA g 0)] : List Value).toArray s 0 0 (cdZ g s.heap.size) := ⟨_, rfl⟩
  rw [← hQm]
  have hB := hwp
  refine lv_aload_n hx hb dX5_blank_0 rfl (lv_at hl 0 rfl) ?_
  refine cd_get X hP (C := RX5) (T := TX5) (N := 9) (ci := 5) (k := 0) (j := 0) (v := .ref (cdA g 1)) inX5 (by decide) rfl rfl (by decide) wf_X5_10 rfl rfl dX5_blank_1 ?_
  refine cd_ci (cd_runV (As := []) (rest := []) (σ := σ) (k := 1) (ci := 3) X wm_X5_50 (by decide) rfl rfl rfl (c_X3_length l g  σ _ hB _) hP hS rfl rfl hl.1 (Nat.le_of_ble_eq_true rfl) ⟨Nat.le_of_ble_eq_true rfl, Nat.le_of_ble_eq_true rfl⟩ ⟨Nat.zero_le _, Nat.zero_le _⟩ dX5_blank_4) hS (fun r_1 σ_2 H locs hB hP hS => ?_)
  obtain ⟨eσ_2, hB⟩ := hB
  rw [eσ_2] at hP
  refine lv_istore_n (lv' := [(1, .int r_1), (0, .ref (cdA g 0))]) hx hb dX5_blank_7 rfl hl (by decide) rfl (fun ls hl => ?_)
  refine lv_aload_n hx hb dX5_blank_8 rfl (lv_at hl 1 rfl) ?_
  refine cd_get X hP (C := RX5) (T := TX5) (N := 9) (ci := 5) (k := 0) (j := 0) (v := .ref (cdA g 1)) inX5 (by decide) rfl rfl (by decide) wf_X5_10 rfl rfl dX5_blank_9 ?_
  refine cd_cv (cd_runV (As := []) (rest := []) (σ := σ) (k := 1) (ci := 3) X wm_X5_55 (by decide) rfl rfl rfl (c_X3_clear l g  σ _ hB _) hP hS rfl rfl hl.1 (Nat.le_of_ble_eq_true rfl) ⟨Nat.le_of_ble_eq_true rfl, Nat.le_of_ble_eq_true rfl⟩ ⟨Nat.zero_le _, Nat.zero_le _⟩ dX5_blank_12) hS (fun σ_4 H locs hB hP hS => ?_)
  refine lv_iload_n hx hb dX5_blank_15 rfl (lv_at hl 0 rfl) ?_
  rw [hQm]
  exact W.iret hx hb hr (fun t ht hW => ⟨⟨r_1, σ_4, rfl, hB, cd_hp ht hP⟩, hS.F ht⟩) hS.2.2 dX5_blank_16
def wp_X5_isSpacing (v0 : Int32) (σ : cdS) (Q : Int32 → Prop) : Prop :=
  
    wp_X5_isWithin v0 (2 : Int32) (9 : Int32) σ (fun r_1 => 
    cdb r_1 ∧ Q r_1)
set_option maxHeartbeats 4000000 in
set_option maxRecDepth 100000 in
theorem c_X5_isSpacing (l : Launch) (g : cdG) (v0 : Int32) (σ : cdS) (Q : Int32 → Prop) (hwp : wp_X5_isSpacing v0 σ Q) : cdCi l g yX5_isSpacing cX5_isSpacing 1 (some .boolean) 1 22 [.int v0] σ (fun r σ' => σ' = σ ∧ Q r) := by
  intro sz
  refine Met.ofW (cc := cX5_isSpacing) (maxL := 1) (ret := (some .boolean)) (by decide) rfl ?_
  intro p e s m args below meth c s₁ B hml hv
  obtain ⟨rfl, hsz, hP, hK, hdi, hV⟩ := hv
  subst hsz
  have hx := B.exec
  have hb := B.bytes
  have hr := B.returns
  have hlocks := B.notSynchronized
  have hown : s.vm.findClass RX5 = some m.cls := findClass_of_methodNamed B.named
  have hts : ∀ w ∈ cdL, w.before _ s = true := fun w hw => atoms_spec (ws := cdWs yX5_isSpacing cX5_isSpacing 1 (some .boolean)) B.pre w (List.mem_cons_of_mem _ hw)
  have X : cdX p s m _ c cX5_isSpacing 1 RX5 g := ⟨hx, hb, hml, hown, hts, hK, hdi, hV⟩
  have hS : va_S (cdZ g s.heap.size) s.heap s.heap [] := va_S.rf
  have hl := lv_entry ([.int v0]) (n := 1) (Nat.le_of_ble_eq_true rfl)
  rw [lg_entry_eq]
  generalize (lg_sl ([.int v0]) ++ List.replicate (1 - (lg_sl ([.int v0])).length) Slot.unset).toArray = ls at hl ⊢
  have hl : lv_has ls 1 [(0, .int v0)] := hl
  obtain ⟨Qm, hQm⟩ : ∃ z, z = MQ below (va_Qi (fun r σ' => σ' = σ ∧ Q r) (fun σ' t => va_P (cdD g) vwCl (cdW g σ') t.heap) (cdZ g s.heap.size)) ([.int v0] : List Value).toArray s 0 0 (cdZ g s.heap.size) := ⟨_, rfl⟩
  rw [← hQm]
  have hB := hwp
  refine lv_iload_n hx hb dX5_isSpacing_0 rfl (lv_at hl 0 rfl) ?_
  refine lv_iconst (v := 2) hx hb dX5_isSpacing_1 (by decide) ?_
  refine lv_bipush (v := 9) hx hb dX5_isSpacing_2 (by decide) ?_
  refine cd_ci (cd_runS (As := [.int v0, .int (2 : Int32), .int (9 : Int32)]) (rest := []) (σ := σ) X wm_X5_41 (c_X5_isWithin l g v0 (2 : Int32) (9 : Int32) σ _ hB _) hP hS rfl rfl hl.1 (Nat.le_of_ble_eq_true rfl) ⟨Nat.le_of_ble_eq_true rfl, Nat.le_of_ble_eq_true rfl⟩ ⟨Nat.zero_le _, Nat.zero_le _⟩ dX5_isSpacing_4) hS (fun r_1 σ_2 H locs hB hP hS => ?_)
  obtain ⟨eσ_2, hB⟩ := hB
  rw [eσ_2] at hP
  obtain ⟨z_3, hB⟩ := hB
  rw [hQm]
  exact W.zret hx hb hr (cdb_n z_3) (fun t ht hW => ⟨⟨r_1, σ, rfl, ⟨rfl, hB⟩, cd_hp ht hP⟩, hS.F ht⟩) hS.2.2 dX5_isSpacing_7
def wp_X5_byTurns (v1 : Int32) (v2 : Int32) (v3 : Int32) (v4 : Int32) (v5 : Int32) (σ : cdS) (Q : Int32 → cdS → Prop) : Prop :=
  
    wp_X5_isKnown v1 σ (fun r_1 => 
    ((r_1 = 0 →
    Q (-1000002 : Int32) σ) ∧
    (¬ (r_1 = 0) →
    wp_X5_isKnown v2 σ (fun r_4 => 
    ((¬ r_4 = 0 →
    wp_X5_isSpacing v3 σ (fun r_7 => 
    ((r_7 = 0 →
    Q (-1000003 : Int32) σ) ∧
    (¬ (r_7 = 0) →
    wp_X5_isSpacing v4 σ (fun r_10 => 
    ((r_10 = 0 →
    Q (-1000003 : Int32) σ) ∧
    (¬ (r_10 = 0) →
    wp_X5_isWithin v5 (0 : Int32) (7 : Int32) σ (fun r_13 => 
    ((¬ r_13 = 0 →
    vp_in v1 4 ∧
    vp_in v2 4 ∧
    wp_X1_layInTurns (cdh (σ.1 3 (v1).toNatClampNeg)) (cdh (σ.1 3 (v2).toNatClampNeg)) v3 v4 σ (fun σ_19 => 
    wp_X1_tell v5 σ_19 (fun r_20 σ_21 => 
    Q r_20 σ_21))) ∧
    (r_13 = 0 →
    Q (-1000003 : Int32) σ)))))))))) ∧
    (r_4 = 0 →
    Q (-1000002 : Int32) σ))))))
set_option maxHeartbeats 4000000 in
set_option maxRecDepth 100000 in
theorem c_X5_byTurns (l : Launch) (g : cdG) (v1 : Int32) (v2 : Int32) (v3 : Int32) (v4 : Int32) (v5 : Int32) (σ : cdS) (Q : Int32 → cdS → Prop) (hwp : wp_X5_byTurns v1 v2 v3 v4 v5 σ Q) : cdCi l g yX5_byTurns cX5_byTurns 6 (some .int) 5 111 [.ref (cdA g 0), .int v1, .int v2, .int v3, .int v4, .int v5] σ Q := by
  intro sz
  refine Met.ofW (cc := cX5_byTurns) (maxL := 6) (ret := (some .int)) (by decide) rfl ?_
  intro p e s m args below meth c s₁ B hml hv
  obtain ⟨rfl, hsz, hP, hK, hdi, hV⟩ := hv
  subst hsz
  have hx := B.exec
  have hb := B.bytes
  have hr := B.returns
  have hlocks := B.notSynchronized
  have hown : s.vm.findClass RX5 = some m.cls := findClass_of_methodNamed B.named
  have hts : ∀ w ∈ cdL, w.before _ s = true := fun w hw => atoms_spec (ws := cdWs yX5_byTurns cX5_byTurns 6 (some .int)) B.pre w (List.mem_cons_of_mem _ hw)
  have X : cdX p s m _ c cX5_byTurns 6 RX5 g := ⟨hx, hb, hml, hown, hts, hK, hdi, hV⟩
  have hS : va_S (cdZ g s.heap.size) s.heap s.heap [] := va_S.rf
  have hl := lv_entry ([.ref (cdA g 0), .int v1, .int v2, .int v3, .int v4, .int v5]) (n := 6) (Nat.le_of_ble_eq_true rfl)
  rw [lg_entry_eq]
  generalize (lg_sl ([.ref (cdA g 0), .int v1, .int v2, .int v3, .int v4, .int v5]) ++ List.replicate (6 - (lg_sl ([.ref (cdA g 0), .int v1, .int v2, .int v3, .int v4, .int v5])).length) Slot.unset).toArray = ls at hl ⊢
  have hl : lv_has ls 6 [(0, .ref (cdA g 0)), (1, .int v1), (2, .int v2), (3, .int v3), (4, .int v4), (5, .int v5)] := hl
  obtain ⟨Qm, hQm⟩ : ∃ z, z = MQ below (va_Qi Q (fun σ' t => va_P (cdD g) vwCl (cdW g σ') t.heap) (cdZ g s.heap.size)) ([.ref (cdA g 0), .int v1, .int v2, .int v3, .int v4, .int v5] : List Value).toArray s 0 0 (cdZ g s.heap.size) := ⟨_, rfl⟩
  rw [← hQm]
  have hB := hwp
  refine lv_aload_n hx hb dX5_byTurns_0 rfl (lv_at hl 0 rfl) ?_
  refine lv_iload_n hx hb dX5_byTurns_1 rfl (lv_at hl 1 rfl) ?_
  refine cd_ci (cd_runV (As := [.int v1]) (rest := []) (σ := σ) (k := 0) (ci := 5) X wm_X5_80 (by decide) rfl rfl rfl (c_X5_isKnown l g v1 σ _ hB _) hP hS rfl rfl hl.1 (Nat.le_of_ble_eq_true rfl) ⟨Nat.le_of_ble_eq_true rfl, Nat.le_of_ble_eq_true rfl⟩ ⟨Nat.zero_le _, Nat.zero_le _⟩ dX5_byTurns_2) hS (fun r_1 σ_2 H locs hB hP hS => ?_)
  obtain ⟨eσ_2, hB⟩ := hB
  rw [eσ_2] at hP
  refine lv_if_eq (tgt := 16) hx hb dX5_byTurns_5 (by decide) (fun c_3 => ?_) (fun c_3 => ?_)
  · have hB := hB.1 c_3
    refine lv_ldc (v := -1000002) hx hb hown (hts _ wc_X5_83) dX5_byTurns_16 ?_
    rw [hQm]
    exact W.iret hx hb hr (fun t ht hW => ⟨⟨(-1000002 : Int32), σ, rfl, hB, cd_hp ht hP⟩, hS.F ht⟩) hS.2.2 dX5_byTurns_18
  · have hB := hB.2 c_3
    refine lv_aload_n hx hb dX5_byTurns_8 rfl (lv_at hl 0 rfl) ?_
    refine lv_iload_n hx hb dX5_byTurns_9 rfl (lv_at hl 2 rfl) ?_
    refine cd_ci (cd_runV (As := [.int v2]) (rest := []) (σ := σ) (k := 0) (ci := 5) X wm_X5_80 (by decide) rfl rfl rfl (c_X5_isKnown l g v2 σ _ hB _) hP hS rfl rfl hl.1 (Nat.le_of_ble_eq_true rfl) ⟨Nat.le_of_ble_eq_true rfl, Nat.le_of_ble_eq_true rfl⟩ ⟨Nat.zero_le _, Nat.zero_le _⟩ dX5_byTurns_10) hS (fun r_4 σ_5 H locs hB hP hS => ?_)
    obtain ⟨eσ_5, hB⟩ := hB
    rw [eσ_5] at hP
    refine lv_if_ne (tgt := 19) hx hb dX5_byTurns_13 (by decide) (fun c_6 => ?_) (fun c_6 => ?_)
    · have hB := hB.1 c_6
      refine lv_iload_n hx hb dX5_byTurns_19 rfl (lv_at hl 3 rfl) ?_
      refine cd_ci (cd_runS (As := [.int v3]) (rest := []) (σ := σ) X wm_X5_120 (c_X5_isSpacing l g v3 σ _ hB _) hP hS rfl rfl hl.1 (Nat.le_of_ble_eq_true rfl) ⟨Nat.le_of_ble_eq_true rfl, Nat.le_of_ble_eq_true rfl⟩ ⟨Nat.zero_le _, Nat.zero_le _⟩ dX5_byTurns_20) hS (fun r_7 σ_8 H locs hB hP hS => ?_)
      obtain ⟨eσ_8, hB⟩ := hB
      rw [eσ_8] at hP
      refine lv_if_eq (tgt := 45) hx hb dX5_byTurns_23 (by decide) (fun c_9 => ?_) (fun c_9 => ?_)
      · have hB := hB.1 c_9
        refine lv_ldc (v := -1000003) hx hb hown (hts _ wc_X5_45) dX5_byTurns_45 ?_
        rw [hQm]
        exact W.iret hx hb hr (fun t ht hW => ⟨⟨(-1000003 : Int32), σ, rfl, hB, cd_hp ht hP⟩, hS.F ht⟩) hS.2.2 dX5_byTurns_47
      · have hB := hB.2 c_9
        refine lv_iload hx hb dX5_byTurns_26 (lv_at hl 4 rfl) ?_
        refine cd_ci (cd_runS (As := [.int v4]) (rest := []) (σ := σ) X wm_X5_120 (c_X5_isSpacing l g v4 σ _ hB _) hP hS rfl rfl hl.1 (Nat.le_of_ble_eq_true rfl) ⟨Nat.le_of_ble_eq_true rfl, Nat.le_of_ble_eq_true rfl⟩ ⟨Nat.zero_le _, Nat.zero_le _⟩ dX5_byTurns_28) hS (fun r_10 σ_11 H locs hB hP hS => ?_)
        obtain ⟨eσ_11, hB⟩ := hB
        rw [eσ_11] at hP
        refine lv_if_eq (tgt := 45) hx hb dX5_byTurns_31 (by decide) (fun c_12 => ?_) (fun c_12 => ?_)
        · have hB := hB.1 c_12
          refine lv_ldc (v := -1000003) hx hb hown (hts _ wc_X5_45) dX5_byTurns_45 ?_
          rw [hQm]
          exact W.iret hx hb hr (fun t ht hW => ⟨⟨(-1000003 : Int32), σ, rfl, hB, cd_hp ht hP⟩, hS.F ht⟩) hS.2.2 dX5_byTurns_47
        · have hB := hB.2 c_12
          refine lv_iload hx hb dX5_byTurns_34 (lv_at hl 5 rfl) ?_
          refine lv_iconst (v := 0) hx hb dX5_byTurns_36 (by decide) ?_
          refine lv_bipush (v := 7) hx hb dX5_byTurns_37 (by decide) ?_
          refine cd_ci (cd_runS (As := [.int v5, .int (0 : Int32), .int (7 : Int32)]) (rest := []) (σ := σ) X wm_X5_41 (c_X5_isWithin l g v5 (0 : Int32) (7 : Int32) σ _ hB _) hP hS rfl rfl hl.1 (Nat.le_of_ble_eq_true rfl) ⟨Nat.le_of_ble_eq_true rfl, Nat.le_of_ble_eq_true rfl⟩ ⟨Nat.zero_le _, Nat.zero_le _⟩ dX5_byTurns_39) hS (fun r_13 σ_14 H locs hB hP hS => ?_)
          obtain ⟨eσ_14, hB⟩ := hB
          rw [eσ_14] at hP
          refine lv_if_ne (tgt := 48) hx hb dX5_byTurns_42 (by decide) (fun c_15 => ?_) (fun c_15 => ?_)
          · have hB := hB.1 c_15
            refine lv_aload_n hx hb dX5_byTurns_48 rfl (lv_at hl 0 rfl) ?_
            refine cd_get X hP (C := RX5) (T := TX5) (N := 9) (ci := 5) (k := 0) (j := 2) (v := .ref (cdA g 4)) inX5 (by decide) rfl rfl (by decide) wf_X5_19 rfl rfl dX5_byTurns_49 ?_
            refine lv_aload_n hx hb dX5_byTurns_52 rfl (lv_at hl 0 rfl) ?_
            refine cd_get X hP (C := RX5) (T := TX5) (N := 9) (ci := 5) (k := 0) (j := 1) (v := .ref (cdA g 3)) inX5 (by decide) rfl rfl (by decide) wf_X5_37 rfl rfl dX5_byTurns_53 ?_
            refine lv_iload_n hx hb dX5_byTurns_56 rfl (lv_at hl 1 rfl) ?_
            obtain ⟨i_16, hB⟩ := hB
            refine cd_hld X hP i_16 dX5_byTurns_57 ?_
            refine lv_aload_n hx hb dX5_byTurns_58 rfl (lv_at hl 0 rfl) ?_
            refine cd_get X hP (C := RX5) (T := TX5) (N := 9) (ci := 5) (k := 0) (j := 1) (v := .ref (cdA g 3)) inX5 (by decide) rfl rfl (by decide) wf_X5_37 rfl rfl dX5_byTurns_59 ?_
            refine lv_iload_n hx hb dX5_byTurns_62 rfl (lv_at hl 2 rfl) ?_
            obtain ⟨i_17, hB⟩ := hB
            refine cd_hld X hP i_17 dX5_byTurns_63 ?_
            refine lv_iload_n hx hb dX5_byTurns_64 rfl (lv_at hl 3 rfl) ?_
            refine lv_iload hx hb dX5_byTurns_65 (lv_at hl 4 rfl) ?_
            refine cd_cv (cd_runV (As := [.ref (cdA g (9 + (cdh (σ.1 3 (v1).toNatClampNeg)))), .ref (cdA g (9 + (cdh (σ.1 3 (v2).toNatClampNeg)))), .int v3, .int v4]) (rest := []) (σ := σ) (k := 4) (ci := 1) X wm_X5_123 (by decide) rfl rfl rfl (c_X1_layInTurns l g (cdh (σ.1 3 (v1).toNatClampNeg)) (cdh (σ.1 3 (v2).toNatClampNeg)) v3 v4 σ _ hB _) hP hS rfl rfl hl.1 (Nat.le_of_ble_eq_true rfl) ⟨Nat.le_of_ble_eq_true rfl, Nat.le_of_ble_eq_true rfl⟩ ⟨Nat.zero_le _, Nat.zero_le _⟩ dX5_byTurns_67) hS (fun σ_19 H locs hB hP hS => ?_)
            refine lv_aload_n hx hb dX5_byTurns_70 rfl (lv_at hl 0 rfl) ?_
            refine cd_get X hP (C := RX5) (T := TX5) (N := 9) (ci := 5) (k := 0) (j := 2) (v := .ref (cdA g 4)) inX5 (by decide) rfl rfl (by decide) wf_X5_19 rfl rfl dX5_byTurns_71 ?_
            refine lv_iload hx hb dX5_byTurns_74 (lv_at hl 5 rfl) ?_
            refine cd_ci (cd_runV (As := [.int v5]) (rest := []) (σ := σ_19) (k := 4) (ci := 1) X wm_X5_119 (by decide) rfl rfl rfl (c_X1_tell l g v5 σ_19 _ hB _) hP hS rfl rfl hl.1 (Nat.le_of_ble_eq_true rfl) ⟨Nat.le_of_ble_eq_true rfl, Nat.le_of_ble_eq_true rfl⟩ ⟨Nat.zero_le _, Nat.zero_le _⟩ dX5_byTurns_76) hS (fun r_20 σ_21 H locs hB hP hS => ?_)
            rw [hQm]
            exact W.iret hx hb hr (fun t ht hW => ⟨⟨r_20, σ_21, rfl, hB, cd_hp ht hP⟩, hS.F ht⟩) hS.2.2 dX5_byTurns_79
          · have hB := hB.2 c_15
            refine lv_ldc (v := -1000003) hx hb hown (hts _ wc_X5_45) dX5_byTurns_45 ?_
            rw [hQm]
            exact W.iret hx hb hr (fun t ht hW => ⟨⟨(-1000003 : Int32), σ, rfl, hB, cd_hp ht hP⟩, hS.F ht⟩) hS.2.2 dX5_byTurns_47
    · have hB := hB.2 c_6
      refine lv_ldc (v := -1000002) hx hb hown (hts _ wc_X5_83) dX5_byTurns_16 ?_
      rw [hQm]
      exact W.iret hx hb hr (fun t ht hW => ⟨⟨(-1000002 : Int32), σ, rfl, hB, cd_hp ht hP⟩, hS.F ht⟩) hS.2.2 dX5_byTurns_18
def wp_X5_thrownOfAll  (σ : cdS) (Q : Int32 → Prop) : Prop :=
  ∀ (P4 : Int32 → Int32 → Prop),
    (∀ (x1 : Int32) (x2 : Int32), (
    (((σ.1 0 5) ≤ x2 →
    Q x1) ∧
    (¬ ((σ.1 0 5) ≤ x2) →
    vp_in x2 4 ∧
    (cdh (σ.1 3 (x2).toNatClampNeg)) < 5 ∧ wp_X2_thrown (cdh (σ.1 3 (x2).toNatClampNeg)) σ (fun r_4 => 
    ∀ x1_6 : Int32, x1_6 = (x1 + r_4) →
    ∀ x2_7 : Int32, x2_7 = x2 + 1 →
    P4 x1_6 x2_7)))) → P4 x1 x2) →
    
    P4 (0 : Int32) (0 : Int32)
set_option maxHeartbeats 4000000 in
set_option maxRecDepth 100000 in
theorem c_X5_thrownOfAll (l : Launch) (g : cdG)  (σ : cdS) (Q : Int32 → Prop) (hwp : wp_X5_thrownOfAll  σ Q) : cdCi l g yX5_thrownOfAll cX5_thrownOfAll 3 (some .int) 1 22 [.ref (cdA g 0)] σ (fun r σ' => σ' = σ ∧ Q r) := by
  intro sz
  refine Met.ofW (cc := cX5_thrownOfAll) (maxL := 3) (ret := (some .int)) (by decide) rfl ?_
  intro p e s m args below meth c s₁ B hml hv
  obtain ⟨rfl, hsz, hP, hK, hdi, hV⟩ := hv
  subst hsz
  have hx := B.exec
  have hb := B.bytes
  have hr := B.returns
  have hlocks := B.notSynchronized
  have hown : s.vm.findClass RX5 = some m.cls := findClass_of_methodNamed B.named
  have hts : ∀ w ∈ cdL, w.before _ s = true := fun w hw => atoms_spec (ws := cdWs yX5_thrownOfAll cX5_thrownOfAll 3 (some .int)) B.pre w (List.mem_cons_of_mem _ hw)
  have X : cdX p s m _ c cX5_thrownOfAll 3 RX5 g := ⟨hx, hb, hml, hown, hts, hK, hdi, hV⟩
  have hS : va_S (cdZ g s.heap.size) s.heap s.heap [] := va_S.rf
  have hl := lv_entry ([.ref (cdA g 0)]) (n := 3) (Nat.le_of_ble_eq_true rfl)
  rw [lg_entry_eq]
  generalize (lg_sl ([.ref (cdA g 0)]) ++ List.replicate (3 - (lg_sl ([.ref (cdA g 0)])).length) Slot.unset).toArray = ls at hl ⊢
  have hl : lv_has ls 3 [(0, .ref (cdA g 0))] := hl
  obtain ⟨Qm, hQm⟩ : ∃ z, z = MQ below (va_Qi (fun r σ' => σ' = σ ∧ Q r) (fun σ' t => va_P (cdD g) vwCl (cdW g σ') t.heap) (cdZ g s.heap.size)) ([.ref (cdA g 0)] : List Value).toArray s 0 0 (cdZ g s.heap.size) := ⟨_, rfl⟩
  rw [← hQm]
  have hB := hwp (fun (x1 : Int32) (x2 : Int32) => cdCut p l e (headSpec (cdWs yX5_thrownOfAll cX5_thrownOfAll 3 (some .int)) (cdRm 1 22)).room s m ([.ref (cdA g 0)] : List Value).toArray below meth c Qm g 3 4 [(0, .ref (cdA g 0)), (1, .int x1), (2, .int x2)] [] σ)
    (by
    intro x1 x2 hB H locs ls hP hS hl
    refine lv_iload_n hx hb dX5_thrownOfAll_4 rfl (lv_at hl 2 rfl) ?_
    refine lv_aload_n hx hb dX5_thrownOfAll_5 rfl (lv_at hl 0 rfl) ?_
    refine cd_get X hP (C := RX5) (T := TX5) (N := 9) (ci := 5) (k := 0) (j := 5) (v := .int (σ.1 0 5)) inX5 (by decide) rfl rfl (by decide) wf_X5_69 rfl rfl dX5_thrownOfAll_6 ?_
    refine lv_icmp_ge (tgt := 30) hx hb dX5_thrownOfAll_9 (by decide) (fun c_1 => ?_) (fun c_1 => ?_)
    · have hB := hB.1 c_1
      refine lv_iload_n hx hb dX5_thrownOfAll_30 rfl (lv_at hl 1 rfl) ?_
      rw [hQm]
      exact W.iret hx hb hr (fun t ht hW => ⟨⟨x1, σ, rfl, ⟨rfl, hB⟩, cd_hp ht hP⟩, hS.F ht⟩) hS.2.2 dX5_thrownOfAll_31
    · have hB := hB.2 c_1
      refine lv_iload_n hx hb dX5_thrownOfAll_12 rfl (lv_at hl 1 rfl) ?_
      refine lv_aload_n hx hb dX5_thrownOfAll_13 rfl (lv_at hl 0 rfl) ?_
      refine cd_get X hP (C := RX5) (T := TX5) (N := 9) (ci := 5) (k := 0) (j := 1) (v := .ref (cdA g 3)) inX5 (by decide) rfl rfl (by decide) wf_X5_37 rfl rfl dX5_thrownOfAll_14 ?_
      refine lv_iload_n hx hb dX5_thrownOfAll_17 rfl (lv_at hl 2 rfl) ?_
      obtain ⟨i_2, hB⟩ := hB
      refine cd_hld X hP i_2 dX5_thrownOfAll_18 ?_
      obtain ⟨k_3, hB⟩ := hB
      refine cd_ci (cd_runV (As := []) (rest := [.int x1]) (σ := σ) (k := 9 + (cdh (σ.1 3 (x2).toNatClampNeg))) (ci := 2) X wm_X5_98 (show 9 + (cdh (σ.1 3 (x2).toNatClampNeg)) < 24 by omega) (cdE_head g σ k_3) rfl rfl (c_X2_thrown l g (cdh (σ.1 3 (x2).toNatClampNeg)) σ _ hB _) hP hS rfl rfl hl.1 (Nat.le_of_ble_eq_true rfl) ⟨Nat.le_of_ble_eq_true rfl, Nat.le_of_ble_eq_true rfl⟩ ⟨Nat.zero_le _, Nat.zero_le _⟩ dX5_thrownOfAll_19) hS (fun r_4 σ_5 H locs hB hP hS => ?_)
      obtain ⟨eσ_5, hB⟩ := hB
      rw [eσ_5] at hP
      refine lv_iadd hx hb dX5_thrownOfAll_22 ?_
      refine lv_topi (fun x1_6 ex1_6 => ?_)
      have hB := hB x1_6 ex1_6
      refine lv_istore_n (lv' := [(1, .int x1_6), (0, .ref (cdA g 0)), (2, .int x2)]) hx hb dX5_thrownOfAll_23 rfl hl (by decide) rfl (fun ls hl => ?_)
      obtain ⟨x2_7, ex2_7⟩ : ∃ z : Int32, z = x2 + 1 := ⟨_, rfl⟩
      have hB := hB x2_7 ex2_7
      refine lv_iinc (v := x2_7) (lv' := [(2, .int x2_7), (1, .int x1_6), (0, .ref (cdA g 0))]) hx hb dX5_thrownOfAll_24 hl (k := 2) rfl (by rw [ex2_7]; rfl) (by decide) rfl (fun ls hl => ?_)
      refine lv_goto (tgt := 4) hx hb dX5_thrownOfAll_27 (by decide) ?_
      exact hB _ _ _ hP hS (lv_sub hl [2, 1, 0] rfl))
  refine lv_iconst (v := 0) hx hb dX5_thrownOfAll_0 (by decide) ?_
  refine lv_istore_n (lv' := [(1, .int (0 : Int32)), (0, .ref (cdA g 0))]) hx hb dX5_thrownOfAll_1 rfl hl (by decide) rfl (fun ls hl => ?_)
  refine lv_iconst (v := 0) hx hb dX5_thrownOfAll_2 (by decide) ?_
  refine lv_istore_n (lv' := [(2, .int (0 : Int32)), (1, .int (0 : Int32)), (0, .ref (cdA g 0))]) hx hb dX5_thrownOfAll_3 rfl hl (by decide) rfl (fun ls hl => ?_)
  exact hB _ _ _ hP hS (lv_sub hl [2, 1, 0] rfl)
def wp_X5_count (v1 : Int32) (σ : cdS) (Q : Int32 → Prop) : Prop :=
  
    ((v1 = (0 : Int32) →
    Q (σ.1 0 5)) ∧
    (¬ (v1 = (0 : Int32)) →
    ((v1 = (1 : Int32) →
    wp_X3_length σ (fun r_3 => 
    Q r_3)) ∧
    (¬ (v1 = (1 : Int32)) →
    ((v1 = (2 : Int32) →
    Q (σ.1 0 6)) ∧
    (¬ (v1 = (2 : Int32)) →
    ((v1 = (3 : Int32) →
    Q (σ.1 0 7)) ∧
    (¬ (v1 = (3 : Int32)) →
    ((v1 = (4 : Int32) →
    Q (σ.1 0 8)) ∧
    (¬ (v1 = (4 : Int32)) →
    ((v1 = (5 : Int32) →
    wp_X5_thrownOfAll σ (fun r_9 => 
    Q r_9)) ∧
    (¬ (v1 = (5 : Int32)) →
    Q (-1000003 : Int32)))))))))))))
set_option maxHeartbeats 4000000 in
set_option maxRecDepth 100000 in
theorem c_X5_count (l : Launch) (g : cdG) (v1 : Int32) (σ : cdS) (Q : Int32 → Prop) (hwp : wp_X5_count v1 σ Q) : cdCi l g yX5_count cX5_count 2 (some .int) 2 44 [.ref (cdA g 0), .int v1] σ (fun r σ' => σ' = σ ∧ Q r) := by
  intro sz
  refine Met.ofW (cc := cX5_count) (maxL := 2) (ret := (some .int)) (by decide) rfl ?_
  intro p e s m args below meth c s₁ B hml hv
  obtain ⟨rfl, hsz, hP, hK, hdi, hV⟩ := hv
  subst hsz
  have hx := B.exec
  have hb := B.bytes
  have hr := B.returns
  have hlocks := B.notSynchronized
  have hown : s.vm.findClass RX5 = some m.cls := findClass_of_methodNamed B.named
  have hts : ∀ w ∈ cdL, w.before _ s = true := fun w hw => atoms_spec (ws := cdWs yX5_count cX5_count 2 (some .int)) B.pre w (List.mem_cons_of_mem _ hw)
  have X : cdX p s m _ c cX5_count 2 RX5 g := ⟨hx, hb, hml, hown, hts, hK, hdi, hV⟩
  have hS : va_S (cdZ g s.heap.size) s.heap s.heap [] := va_S.rf
  have hl := lv_entry ([.ref (cdA g 0), .int v1]) (n := 2) (Nat.le_of_ble_eq_true rfl)
  rw [lg_entry_eq]
  generalize (lg_sl ([.ref (cdA g 0), .int v1]) ++ List.replicate (2 - (lg_sl ([.ref (cdA g 0), .int v1])).length) Slot.unset).toArray = ls at hl ⊢
  have hl : lv_has ls 2 [(0, .ref (cdA g 0)), (1, .int v1)] := hl
  obtain ⟨Qm, hQm⟩ : ∃ z, z = MQ below (va_Qi (fun r σ' => σ' = σ ∧ Q r) (fun σ' t => va_P (cdD g) vwCl (cdW g σ') t.heap) (cdZ g s.heap.size)) ([.ref (cdA g 0), .int v1] : List Value).toArray s 0 0 (cdZ g s.heap.size) := ⟨_, rfl⟩
  rw [← hQm]
  have hB := hwp
  refine lv_iload_n hx hb dX5_count_0 rfl (lv_at hl 1 rfl) ?_
  by_cases c_1 : v1 = (0 : Int32)
  · have hB := hB.1 c_1
    refine lv_tableIn (tgt := 40) hx hb dX5_count_1 (by rw [c_1]; decide) (by rw [c_1]; decide) (by rw [c_1]; rfl) (by decide) ?_
    refine lv_aload_n hx hb dX5_count_40 rfl (lv_at hl 0 rfl) ?_
    refine cd_get X hP (C := RX5) (T := TX5) (N := 9) (ci := 5) (k := 0) (j := 5) (v := .int (σ.1 0 5)) inX5 (by decide) rfl rfl (by decide) wf_X5_69 rfl rfl dX5_count_41 ?_
    rw [hQm]
    exact W.iret hx hb hr (fun t ht hW => ⟨⟨(σ.1 0 5), σ, rfl, ⟨rfl, hB⟩, cd_hp ht hP⟩, hS.F ht⟩) hS.2.2 dX5_count_44
  · have hB := hB.2 c_1
    by_cases c_2 : v1 = (1 : Int32)
    · have hB := hB.1 c_2
      refine lv_tableIn (tgt := 45) hx hb dX5_count_1 (by rw [c_2]; decide) (by rw [c_2]; decide) (by rw [c_2]; rfl) (by decide) ?_
      refine lv_aload_n hx hb dX5_count_45 rfl (lv_at hl 0 rfl) ?_
      refine cd_get X hP (C := RX5) (T := TX5) (N := 9) (ci := 5) (k := 0) (j := 0) (v := .ref (cdA g 1)) inX5 (by decide) rfl rfl (by decide) wf_X5_10 rfl rfl dX5_count_46 ?_
      refine cd_ci (cd_runV (As := []) (rest := []) (σ := σ) (k := 1) (ci := 3) X wm_X5_50 (by decide) rfl rfl rfl (c_X3_length l g  σ _ hB _) hP hS rfl rfl hl.1 (Nat.le_of_ble_eq_true rfl) ⟨Nat.le_of_ble_eq_true rfl, Nat.le_of_ble_eq_true rfl⟩ ⟨Nat.zero_le _, Nat.zero_le _⟩ dX5_count_49) hS (fun r_3 σ_4 H locs hB hP hS => ?_)
      obtain ⟨eσ_4, hB⟩ := hB
      rw [eσ_4] at hP
      rw [hQm]
      exact W.iret hx hb hr (fun t ht hW => ⟨⟨r_3, σ, rfl, ⟨rfl, hB⟩, cd_hp ht hP⟩, hS.F ht⟩) hS.2.2 dX5_count_52
    · have hB := hB.2 c_2
      by_cases c_5 : v1 = (2 : Int32)
      · have hB := hB.1 c_5
        refine lv_tableIn (tgt := 53) hx hb dX5_count_1 (by rw [c_5]; decide) (by rw [c_5]; decide) (by rw [c_5]; rfl) (by decide) ?_
        refine lv_aload_n hx hb dX5_count_53 rfl (lv_at hl 0 rfl) ?_
        refine cd_get X hP (C := RX5) (T := TX5) (N := 9) (ci := 5) (k := 0) (j := 6) (v := .int (σ.1 0 6)) inX5 (by decide) rfl rfl (by decide) wf_X5_77 rfl rfl dX5_count_54 ?_
        rw [hQm]
        exact W.iret hx hb hr (fun t ht hW => ⟨⟨(σ.1 0 6), σ, rfl, ⟨rfl, hB⟩, cd_hp ht hP⟩, hS.F ht⟩) hS.2.2 dX5_count_57
      · have hB := hB.2 c_5
        by_cases c_6 : v1 = (3 : Int32)
        · have hB := hB.1 c_6
          refine lv_tableIn (tgt := 58) hx hb dX5_count_1 (by rw [c_6]; decide) (by rw [c_6]; decide) (by rw [c_6]; rfl) (by decide) ?_
          refine lv_aload_n hx hb dX5_count_58 rfl (lv_at hl 0 rfl) ?_
          refine cd_get X hP (C := RX5) (T := TX5) (N := 9) (ci := 5) (k := 0) (j := 7) (v := .int (σ.1 0 7)) inX5 (by decide) rfl rfl (by decide) wf_X5_91 rfl rfl dX5_count_59 ?_
          rw [hQm]
          exact W.iret hx hb hr (fun t ht hW => ⟨⟨(σ.1 0 7), σ, rfl, ⟨rfl, hB⟩, cd_hp ht hP⟩, hS.F ht⟩) hS.2.2 dX5_count_62
        · have hB := hB.2 c_6
          by_cases c_7 : v1 = (4 : Int32)
          · have hB := hB.1 c_7
            refine lv_tableIn (tgt := 63) hx hb dX5_count_1 (by rw [c_7]; decide) (by rw [c_7]; decide) (by rw [c_7]; rfl) (by decide) ?_
            refine lv_aload_n hx hb dX5_count_63 rfl (lv_at hl 0 rfl) ?_
            refine cd_get X hP (C := RX5) (T := TX5) (N := 9) (ci := 5) (k := 0) (j := 8) (v := .int (σ.1 0 8)) inX5 (by decide) rfl rfl (by decide) wf_X5_84 rfl rfl dX5_count_64 ?_
            rw [hQm]
            exact W.iret hx hb hr (fun t ht hW => ⟨⟨(σ.1 0 8), σ, rfl, ⟨rfl, hB⟩, cd_hp ht hP⟩, hS.F ht⟩) hS.2.2 dX5_count_67
          · have hB := hB.2 c_7
            by_cases c_8 : v1 = (5 : Int32)
            · have hB := hB.1 c_8
              refine lv_tableIn (tgt := 68) hx hb dX5_count_1 (by rw [c_8]; decide) (by rw [c_8]; decide) (by rw [c_8]; rfl) (by decide) ?_
              refine lv_aload_n hx hb dX5_count_68 rfl (lv_at hl 0 rfl) ?_
              refine cd_ci (cd_runV (As := []) (rest := []) (σ := σ) (k := 0) (ci := 5) X wm_X5_149 (by decide) rfl rfl rfl (c_X5_thrownOfAll l g  σ _ hB _) hP hS rfl rfl hl.1 (Nat.le_of_ble_eq_true rfl) ⟨Nat.le_of_ble_eq_true rfl, Nat.le_of_ble_eq_true rfl⟩ ⟨Nat.zero_le _, Nat.zero_le _⟩ dX5_count_69) hS (fun r_9 σ_10 H locs hB hP hS => ?_)
              obtain ⟨eσ_10, hB⟩ := hB
              rw [eσ_10] at hP
              rw [hQm]
              exact W.iret hx hb hr (fun t ht hW => ⟨⟨r_9, σ, rfl, ⟨rfl, hB⟩, cd_hp ht hP⟩, hS.F ht⟩) hS.2.2 dX5_count_72
            · have hB := hB.2 c_8
              have qc_1 := cd_ni (z := 0) (by decide) c_1
              have qc_2 := cd_ni (z := 1) (by decide) c_2
              have qc_5 := cd_ni (z := 2) (by decide) c_5
              have qc_6 := cd_ni (z := 3) (by decide) c_6
              have qc_7 := cd_ni (z := 4) (by decide) c_7
              have qc_8 := cd_ni (z := 5) (by decide) c_8
              refine lv_tableOut (tgt := 73) hx hb dX5_count_1 (by omega) (by decide) ?_
              refine lv_ldc (v := -1000003) hx hb hown (hts _ wc_X5_45) dX5_count_73 ?_
              rw [hQm]
              exact W.iret hx hb hr (fun t ht hW => ⟨⟨(-1000003 : Int32), σ, rfl, ⟨rfl, hB⟩, cd_hp ht hP⟩, hS.F ht⟩) hS.2.2 dX5_count_75
def wp_X5_depth (v1 : Int32) (v2 : Int32) (v3 : Int32) (σ : cdS) (Q : Int32 → Prop) : Prop :=
  
    wp_X5_isKnown v1 σ (fun r_1 => 
    ((¬ r_1 = 0 →
    wp_X5_isWithin v2 (-3 : Int32) (3 : Int32) σ (fun r_4 => 
    ((r_4 = 0 →
    Q (-1000003 : Int32)) ∧
    (¬ (r_4 = 0) →
    wp_X5_isWithin v3 (-3 : Int32) (3 : Int32) σ (fun r_7 => 
    ((¬ r_7 = 0 →
    vp_in v1 4 ∧
    (cdh (σ.1 3 (v1).toNatClampNeg)) < 5 ∧ wp_X2_depthAt (cdh (σ.1 3 (v1).toNatClampNeg)) v2 v3 σ (fun r_12 => 
    Q r_12)) ∧
    (r_7 = 0 →
    Q (-1000003 : Int32)))))))) ∧
    (r_1 = 0 →
    Q (-1000002 : Int32))))
set_option maxHeartbeats 4000000 in
set_option maxRecDepth 100000 in
theorem c_X5_depth (l : Launch) (g : cdG) (v1 : Int32) (v2 : Int32) (v3 : Int32) (σ : cdS) (Q : Int32 → Prop) (hwp : wp_X5_depth v1 v2 v3 σ Q) : cdCi l g yX5_depth cX5_depth 4 (some .int) 1 23 [.ref (cdA g 0), .int v1, .int v2, .int v3] σ (fun r σ' => σ' = σ ∧ Q r) := by
  intro sz
  refine Met.ofW (cc := cX5_depth) (maxL := 4) (ret := (some .int)) (by decide) rfl ?_
  intro p e s m args below meth c s₁ B hml hv
  obtain ⟨rfl, hsz, hP, hK, hdi, hV⟩ := hv
  subst hsz
  have hx := B.exec
  have hb := B.bytes
  have hr := B.returns
  have hlocks := B.notSynchronized
  have hown : s.vm.findClass RX5 = some m.cls := findClass_of_methodNamed B.named
  have hts : ∀ w ∈ cdL, w.before _ s = true := fun w hw => atoms_spec (ws := cdWs yX5_depth cX5_depth 4 (some .int)) B.pre w (List.mem_cons_of_mem _ hw)
  have X : cdX p s m _ c cX5_depth 4 RX5 g := ⟨hx, hb, hml, hown, hts, hK, hdi, hV⟩
  have hS : va_S (cdZ g s.heap.size) s.heap s.heap [] := va_S.rf
  have hl := lv_entry ([.ref (cdA g 0), .int v1, .int v2, .int v3]) (n := 4) (Nat.le_of_ble_eq_true rfl)
  rw [lg_entry_eq]
  generalize (lg_sl ([.ref (cdA g 0), .int v1, .int v2, .int v3]) ++ List.replicate (4 - (lg_sl ([.ref (cdA g 0), .int v1, .int v2, .int v3])).length) Slot.unset).toArray = ls at hl ⊢
  have hl : lv_has ls 4 [(0, .ref (cdA g 0)), (1, .int v1), (2, .int v2), (3, .int v3)] := hl
  obtain ⟨Qm, hQm⟩ : ∃ z, z = MQ below (va_Qi (fun r σ' => σ' = σ ∧ Q r) (fun σ' t => va_P (cdD g) vwCl (cdW g σ') t.heap) (cdZ g s.heap.size)) ([.ref (cdA g 0), .int v1, .int v2, .int v3] : List Value).toArray s 0 0 (cdZ g s.heap.size) := ⟨_, rfl⟩
  rw [← hQm]
  have hB := hwp
  refine lv_aload_n hx hb dX5_depth_0 rfl (lv_at hl 0 rfl) ?_
  refine lv_iload_n hx hb dX5_depth_1 rfl (lv_at hl 1 rfl) ?_
  refine cd_ci (cd_runV (As := [.int v1]) (rest := []) (σ := σ) (k := 0) (ci := 5) X wm_X5_80 (by decide) rfl rfl rfl (c_X5_isKnown l g v1 σ _ hB _) hP hS rfl rfl hl.1 (Nat.le_of_ble_eq_true rfl) ⟨Nat.le_of_ble_eq_true rfl, Nat.le_of_ble_eq_true rfl⟩ ⟨Nat.zero_le _, Nat.zero_le _⟩ dX5_depth_2) hS (fun r_1 σ_2 H locs hB hP hS => ?_)
  obtain ⟨eσ_2, hB⟩ := hB
  rw [eσ_2] at hP
  refine lv_if_ne (tgt := 11) hx hb dX5_depth_5 (by decide) (fun c_3 => ?_) (fun c_3 => ?_)
  · have hB := hB.1 c_3
    refine lv_iload_n hx hb dX5_depth_11 rfl (lv_at hl 2 rfl) ?_
    refine lv_bipush (v := -3) hx hb dX5_depth_12 (by decide) ?_
    refine lv_iconst (v := 3) hx hb dX5_depth_14 (by decide) ?_
    refine cd_ci (cd_runS (As := [.int v2, .int (-3 : Int32), .int (3 : Int32)]) (rest := []) (σ := σ) X wm_X5_41 (c_X5_isWithin l g v2 (-3 : Int32) (3 : Int32) σ _ hB _) hP hS rfl rfl hl.1 (Nat.le_of_ble_eq_true rfl) ⟨Nat.le_of_ble_eq_true rfl, Nat.le_of_ble_eq_true rfl⟩ ⟨Nat.zero_le _, Nat.zero_le _⟩ dX5_depth_15) hS (fun r_4 σ_5 H locs hB hP hS => ?_)
    obtain ⟨eσ_5, hB⟩ := hB
    rw [eσ_5] at hP
    refine lv_if_eq (tgt := 31) hx hb dX5_depth_18 (by decide) (fun c_6 => ?_) (fun c_6 => ?_)
    · have hB := hB.1 c_6
      refine lv_ldc (v := -1000003) hx hb hown (hts _ wc_X5_45) dX5_depth_31 ?_
      rw [hQm]
      exact W.iret hx hb hr (fun t ht hW => ⟨⟨(-1000003 : Int32), σ, rfl, ⟨rfl, hB⟩, cd_hp ht hP⟩, hS.F ht⟩) hS.2.2 dX5_depth_33
    · have hB := hB.2 c_6
      refine lv_iload_n hx hb dX5_depth_21 rfl (lv_at hl 3 rfl) ?_
      refine lv_bipush (v := -3) hx hb dX5_depth_22 (by decide) ?_
      refine lv_iconst (v := 3) hx hb dX5_depth_24 (by decide) ?_
      refine cd_ci (cd_runS (As := [.int v3, .int (-3 : Int32), .int (3 : Int32)]) (rest := []) (σ := σ) X wm_X5_41 (c_X5_isWithin l g v3 (-3 : Int32) (3 : Int32) σ _ hB _) hP hS rfl rfl hl.1 (Nat.le_of_ble_eq_true rfl) ⟨Nat.le_of_ble_eq_true rfl, Nat.le_of_ble_eq_true rfl⟩ ⟨Nat.zero_le _, Nat.zero_le _⟩ dX5_depth_25) hS (fun r_7 σ_8 H locs hB hP hS => ?_)
      obtain ⟨eσ_8, hB⟩ := hB
      rw [eσ_8] at hP
      refine lv_if_ne (tgt := 34) hx hb dX5_depth_28 (by decide) (fun c_9 => ?_) (fun c_9 => ?_)
      · have hB := hB.1 c_9
        refine lv_aload_n hx hb dX5_depth_34 rfl (lv_at hl 0 rfl) ?_
        refine cd_get X hP (C := RX5) (T := TX5) (N := 9) (ci := 5) (k := 0) (j := 1) (v := .ref (cdA g 3)) inX5 (by decide) rfl rfl (by decide) wf_X5_37 rfl rfl dX5_depth_35 ?_
        refine lv_iload_n hx hb dX5_depth_38 rfl (lv_at hl 1 rfl) ?_
        obtain ⟨i_10, hB⟩ := hB
        refine cd_hld X hP i_10 dX5_depth_39 ?_
        refine lv_iload_n hx hb dX5_depth_40 rfl (lv_at hl 2 rfl) ?_
        refine lv_iload_n hx hb dX5_depth_41 rfl (lv_at hl 3 rfl) ?_
        obtain ⟨k_11, hB⟩ := hB
        refine cd_ci (cd_runV (As := [.int v2, .int v3]) (rest := []) (σ := σ) (k := 9 + (cdh (σ.1 3 (v1).toNatClampNeg))) (ci := 2) X wm_X5_105 (show 9 + (cdh (σ.1 3 (v1).toNatClampNeg)) < 24 by omega) (cdE_head g σ k_11) rfl rfl (c_X2_depthAt l g (cdh (σ.1 3 (v1).toNatClampNeg)) v2 v3 σ _ hB _) hP hS rfl rfl hl.1 (Nat.le_of_ble_eq_true rfl) ⟨Nat.le_of_ble_eq_true rfl, Nat.le_of_ble_eq_true rfl⟩ ⟨Nat.zero_le _, Nat.zero_le _⟩ dX5_depth_42) hS (fun r_12 σ_13 H locs hB hP hS => ?_)
        obtain ⟨eσ_13, hB⟩ := hB
        rw [eσ_13] at hP
        rw [hQm]
        exact W.iret hx hb hr (fun t ht hW => ⟨⟨r_12, σ, rfl, ⟨rfl, hB⟩, cd_hp ht hP⟩, hS.F ht⟩) hS.2.2 dX5_depth_45
      · have hB := hB.2 c_9
        refine lv_ldc (v := -1000003) hx hb hown (hts _ wc_X5_45) dX5_depth_31 ?_
        rw [hQm]
        exact W.iret hx hb hr (fun t ht hW => ⟨⟨(-1000003 : Int32), σ, rfl, ⟨rfl, hB⟩, cd_hp ht hP⟩, hS.F ht⟩) hS.2.2 dX5_depth_33
  · have hB := hB.2 c_3
    refine lv_ldc (v := -1000002) hx hb hown (hts _ wc_X5_83) dX5_depth_8 ?_
    rw [hQm]
    exact W.iret hx hb hr (fun t ht hW => ⟨⟨(-1000002 : Int32), σ, rfl, ⟨rfl, hB⟩, cd_hp ht hP⟩, hS.F ht⟩) hS.2.2 dX5_depth_10
def wp_X5_mix (v0 : Int64) (v2 : Int32) (σ : cdS) (Q : Int64 → Prop) : Prop :=
  
    Q (((31 : Int64) * v0) + ((v2).toInt64))
set_option maxHeartbeats 4000000 in
set_option maxRecDepth 100000 in
theorem c_X5_mix (l : Launch) (g : cdG) (v0 : Int64) (v2 : Int32) (σ : cdS) (Q : Int64 → Prop) (hwp : wp_X5_mix v0 v2 σ Q) : cdCl l g yX5_mix cX5_mix 3 (some .long) 0 0 [.long v0, .int v2] σ (fun r σ' => σ' = σ ∧ Q r) := by
  intro sz
  refine Met.ofW (cc := cX5_mix) (maxL := 3) (ret := (some .long)) (by decide) rfl ?_
  intro p e s m args below meth c s₁ B hml hv
  obtain ⟨rfl, hsz, hP, hK, hdi, hV⟩ := hv
  subst hsz
  have hx := B.exec
  have hb := B.bytes
  have hr := B.returns
  have hlocks := B.notSynchronized
  have hown : s.vm.findClass RX5 = some m.cls := findClass_of_methodNamed B.named
  have hts : ∀ w ∈ cdL, w.before _ s = true := fun w hw => atoms_spec (ws := cdWs yX5_mix cX5_mix 3 (some .long)) B.pre w (List.mem_cons_of_mem _ hw)
  have X : cdX p s m _ c cX5_mix 3 RX5 g := ⟨hx, hb, hml, hown, hts, hK, hdi, hV⟩
  have hS : va_S (cdZ g s.heap.size) s.heap s.heap [] := va_S.rf
  have hl := lv_entry ([.long v0, .int v2]) (n := 3) (Nat.le_of_ble_eq_true rfl)
  rw [lg_entry_eq]
  generalize (lg_sl ([.long v0, .int v2]) ++ List.replicate (3 - (lg_sl ([.long v0, .int v2])).length) Slot.unset).toArray = ls at hl ⊢
  have hl : lv_has ls 3 [(0, .long v0), (2, .int v2)] := hl
  obtain ⟨Qm, hQm⟩ : ∃ z, z = MQ below (va_Ql (fun r σ' => σ' = σ ∧ Q r) (fun σ' t => va_P (cdD g) vwCl (cdW g σ') t.heap) (cdZ g s.heap.size)) ([.long v0, .int v2] : List Value).toArray s 0 0 (cdZ g s.heap.size) := ⟨_, rfl⟩
  rw [← hQm]
  have hB := hwp
  refine lv_ldc2 (v := 31) hx hb hown (hts _ wc_X5_175) dX5_mix_0 ?_
  refine lv_lload_n hx hb dX5_mix_3 rfl (lv_at hl 0 rfl) ?_
  refine lv_lmul hx hb dX5_mix_4 ?_
  refine lv_iload_n hx hb dX5_mix_5 rfl (lv_at hl 1 rfl) ?_
  refine lv_i2l hx hb dX5_mix_6 rfl ?_
  refine lv_ladd hx hb dX5_mix_7 ?_
  rw [hQm]
  exact W.lret hx hb hr (fun t ht hW => ⟨⟨(((31 : Int64) * v0) + ((v2).toInt64)), σ, rfl, ⟨rfl, hB⟩, cd_hp ht hP⟩, hS.F ht⟩) hS.2.2 dX5_mix_8
def wp_X5_mixHead (v0 : Int64) (n2 : Nat) (σ : cdS) (Q : Int64 → Prop) : Prop :=
  ∀ (P2 : Int64 → Int32 → Prop) (P31 : Int64 → Int32 → Int32 → Prop) (P42 : Int64 → Int32 → Int32 → Int32 → Prop),
    (∀ (x0 : Int64) (x3 : Int32), (
    (((4 : Int32) < x3 →
    n2 < 5 ∧ wp_X2_reach n2 σ (fun r_3 => 
    P31 x0 r_3 r_3)) ∧
    (¬ ((4 : Int32) < x3) →
    n2 < 5 ∧ wp_X2_tell n2 x3 σ (fun r_6 => 
    wp_X5_mix x0 r_6 σ (fun r_8 => 
    ∀ x3_10 : Int32, x3_10 = x3 + 1 →
    P2 r_8 x3_10))))) → P2 x0 x3) →
    (∀ (x0 : Int64) (x3 : Int32) (x4 : Int32), (
    ((x4 < (-x3) →
    Q x0) ∧
    (¬ (x4 < (-x3)) →
    ∀ x5_12 : Int32, x5_12 = (-x3) →
    P42 x0 x3 x4 x5_12))) → P31 x0 x3 x4) →
    (∀ (x0 : Int64) (x3 : Int32) (x4 : Int32) (x5 : Int32), (
    ((x3 < x5 →
    ∀ x4_14 : Int32, x4_14 = x4 + (-1) →
    P31 x0 x3 x4_14) ∧
    (¬ (x3 < x5) →
    n2 < 5 ∧ wp_X2_depthAt n2 x5 x4 σ (fun r_16 => 
    wp_X5_mix x0 r_16 σ (fun r_18 => 
    ∀ x5_20 : Int32, x5_20 = x5 + 1 →
    P42 r_18 x3 x4 x5_20))))) → P42 x0 x3 x4 x5) →
    
    P2 v0 (0 : Int32)
set_option maxHeartbeats 4000000 in
set_option maxRecDepth 100000 in
theorem c_X5_mixHead (l : Launch) (g : cdG) (v0 : Int64) (n2 : Nat) (σ : cdS) (Q : Int64 → Prop) (hwp : wp_X5_mixHead v0 n2 σ Q) : cdCl l g yX5_mixHead cX5_mixHead 6 (some .long) 5 113 [.long v0, .ref (cdA g (9 + n2))] σ (fun r σ' => σ' = σ ∧ Q r) := by
  intro sz
  refine Met.ofW (cc := cX5_mixHead) (maxL := 6) (ret := (some .long)) (by decide) rfl ?_
  intro p e s m args below meth c s₁ B hml hv
  obtain ⟨rfl, hsz, hP, hK, hdi, hV⟩ := hv
  subst hsz
  have hx := B.exec
  have hb := B.bytes
  have hr := B.returns
  have hlocks := B.notSynchronized
  have hown : s.vm.findClass RX5 = some m.cls := findClass_of_methodNamed B.named
  have hts : ∀ w ∈ cdL, w.before _ s = true := fun w hw => atoms_spec (ws := cdWs yX5_mixHead cX5_mixHead 6 (some .long)) B.pre w (List.mem_cons_of_mem _ hw)
  have X : cdX p s m _ c cX5_mixHead 6 RX5 g := ⟨hx, hb, hml, hown, hts, hK, hdi, hV⟩
  have hS : va_S (cdZ g s.heap.size) s.heap s.heap [] := va_S.rf
  have hl := lv_entry ([.long v0, .ref (cdA g (9 + n2))]) (n := 6) (Nat.le_of_ble_eq_true rfl)
  rw [lg_entry_eq]
  generalize (lg_sl ([.long v0, .ref (cdA g (9 + n2))]) ++ List.replicate (6 - (lg_sl ([.long v0, .ref (cdA g (9 + n2))])).length) Slot.unset).toArray = ls at hl ⊢
  have hl : lv_has ls 6 [(0, .long v0), (2, .ref (cdA g (9 + n2)))] := hl
  obtain ⟨Qm, hQm⟩ : ∃ z, z = MQ below (va_Ql (fun r σ' => σ' = σ ∧ Q r) (fun σ' t => va_P (cdD g) vwCl (cdW g σ') t.heap) (cdZ g s.heap.size)) ([.long v0, .ref (cdA g (9 + n2))] : List Value).toArray s 0 0 (cdZ g s.heap.size) := ⟨_, rfl⟩
  rw [← hQm]
  have hB := hwp (fun (x0 : Int64) (x3 : Int32) => cdCut p l e (headSpec (cdWs yX5_mixHead cX5_mixHead 6 (some .long)) (cdRm 5 113)).room s m ([.long v0, .ref (cdA g (9 + n2))] : List Value).toArray below meth c Qm g 6 2 [(0, .long x0), (2, .ref (cdA g (9 + n2))), (3, .int x3)] [] σ)
    (fun (x0 : Int64) (x3 : Int32) (x4 : Int32) => cdCut p l e (headSpec (cdWs yX5_mixHead cX5_mixHead 6 (some .long)) (cdRm 5 113)).room s m ([.long v0, .ref (cdA g (9 + n2))] : List Value).toArray below meth c Qm g 6 31 [(0, .long x0), (2, .ref (cdA g (9 + n2))), (3, .int x3), (4, .int x4)] [] σ)
    (fun (x0 : Int64) (x3 : Int32) (x4 : Int32) (x5 : Int32) => cdCut p l e (headSpec (cdWs yX5_mixHead cX5_mixHead 6 (some .long)) (cdRm 5 113)).room s m ([.long v0, .ref (cdA g (9 + n2))] : List Value).toArray below meth c Qm g 6 42 [(0, .long x0), (2, .ref (cdA g (9 + n2))), (3, .int x3), (4, .int x4), (5, .int x5)] [] σ)
    (by
    intro x0 x3 hB H locs ls hP hS hl
    refine lv_iload_n hx hb dX5_mixHead_2 rfl (lv_at hl 2 rfl) ?_
    refine lv_iconst (v := 4) hx hb dX5_mixHead_3 (by decide) ?_
    refine lv_icmp_gt (tgt := 23) hx hb dX5_mixHead_4 (by decide) (fun c_1 => ?_) (fun c_1 => ?_)
    · have hB := hB.1 c_1
      refine lv_aload_n hx hb dX5_mixHead_23 rfl (lv_at hl 1 rfl) ?_
      obtain ⟨k_2, hB⟩ := hB
      refine cd_ci (cd_runV (As := []) (rest := []) (σ := σ) (k := 9 + n2) (ci := 2) X wm_X5_177 (show 9 + n2 < 24 by omega) (cdE_head g σ k_2) rfl rfl (c_X2_reach l g n2 σ _ hB _) hP hS rfl rfl hl.1 (Nat.le_of_ble_eq_true rfl) ⟨Nat.le_of_ble_eq_true rfl, Nat.le_of_ble_eq_true rfl⟩ ⟨Nat.zero_le _, Nat.zero_le _⟩ dX5_mixHead_24) hS (fun r_3 σ_4 H locs hB hP hS => ?_)
      obtain ⟨eσ_4, hB⟩ := hB
      rw [eσ_4] at hP
      refine lv_istore_n (lv' := [(3, .int r_3), (0, .long x0), (2, .ref (cdA g (9 + n2)))]) hx hb dX5_mixHead_27 rfl hl (by decide) rfl (fun ls hl => ?_)
      refine lv_iload_n hx hb dX5_mixHead_28 rfl (lv_at hl 0 rfl) ?_
      refine lv_istore (lv' := [(4, .int r_3), (3, .int r_3), (0, .long x0), (2, .ref (cdA g (9 + n2)))]) hx hb dX5_mixHead_29 hl (by decide) rfl (fun ls hl => ?_)
      exact hB _ _ _ hP hS (lv_sub hl [2, 3, 1, 0] rfl)
    · have hB := hB.2 c_1
      refine lv_lload_n hx hb dX5_mixHead_7 rfl (lv_at hl 0 rfl) ?_
      refine lv_aload_n hx hb dX5_mixHead_8 rfl (lv_at hl 1 rfl) ?_
      refine lv_iload_n hx hb dX5_mixHead_9 rfl (lv_at hl 2 rfl) ?_
      obtain ⟨k_5, hB⟩ := hB
      refine cd_ci (cd_runV (As := [.int x3]) (rest := [.long x0]) (σ := σ) (k := 9 + n2) (ci := 2) X wm_X5_101 (show 9 + n2 < 24 by omega) (cdE_head g σ k_5) rfl rfl (c_X2_tell l g n2 x3 σ _ hB _) hP hS rfl rfl hl.1 (Nat.le_of_ble_eq_true rfl) ⟨Nat.le_of_ble_eq_true rfl, Nat.le_of_ble_eq_true rfl⟩ ⟨Nat.zero_le _, Nat.zero_le _⟩ dX5_mixHead_10) hS (fun r_6 σ_7 H locs hB hP hS => ?_)
      obtain ⟨eσ_7, hB⟩ := hB
      rw [eσ_7] at hP
      refine cd_cl (cd_runS (As := [.long x0, .int r_6]) (rest := []) (σ := σ) X wm_X5_168 (c_X5_mix l g x0 r_6 σ _ hB _) hP hS rfl rfl hl.1 (Nat.le_of_ble_eq_true rfl) ⟨Nat.le_of_ble_eq_true rfl, Nat.le_of_ble_eq_true rfl⟩ ⟨Nat.zero_le _, Nat.zero_le _⟩ dX5_mixHead_13) hS (fun r_8 σ_9 H locs hB hP hS => ?_)
      obtain ⟨eσ_9, hB⟩ := hB
      rw [eσ_9] at hP
      refine lv_lstore_n (lv' := [(0, .long r_8), (2, .ref (cdA g (9 + n2))), (3, .int x3)]) hx hb dX5_mixHead_16 rfl hl (by decide) rfl (fun ls hl => ?_)
      obtain ⟨x3_10, ex3_10⟩ : ∃ z : Int32, z = x3 + 1 := ⟨_, rfl⟩
      have hB := hB x3_10 ex3_10
      refine lv_iinc (v := x3_10) (lv' := [(3, .int x3_10), (0, .long r_8), (2, .ref (cdA g (9 + n2)))]) hx hb dX5_mixHead_17 hl (k := 2) rfl (by rw [ex3_10]; rfl) (by decide) rfl (fun ls hl => ?_)
      refine lv_goto (tgt := 2) hx hb dX5_mixHead_20 (by decide) ?_
      exact hB _ _ _ hP hS (lv_sub hl [1, 2, 0] rfl))
    (by
    intro x0 x3 x4 hB H locs ls hP hS hl
    refine lv_iload hx hb dX5_mixHead_31 (lv_at hl 3 rfl) ?_
    refine lv_iload_n hx hb dX5_mixHead_33 rfl (lv_at hl 2 rfl) ?_
    refine lv_ineg hx hb dX5_mixHead_34 ?_
    refine lv_icmp_lt (tgt := 73) hx hb dX5_mixHead_35 (by decide) (fun c_11 => ?_) (fun c_11 => ?_)
    · have hB := hB.1 c_11
      refine lv_lload_n hx hb dX5_mixHead_73 rfl (lv_at hl 0 rfl) ?_
      rw [hQm]
      exact W.lret hx hb hr (fun t ht hW => ⟨⟨x0, σ, rfl, ⟨rfl, hB⟩, cd_hp ht hP⟩, hS.F ht⟩) hS.2.2 dX5_mixHead_74
    · have hB := hB.2 c_11
      refine lv_iload_n hx hb dX5_mixHead_38 rfl (lv_at hl 2 rfl) ?_
      refine lv_ineg hx hb dX5_mixHead_39 ?_
      refine lv_topi (fun x5_12 ex5_12 => ?_)
      have hB := hB x5_12 ex5_12
      refine lv_istore (lv' := [(5, .int x5_12), (0, .long x0), (2, .ref (cdA g (9 + n2))), (3, .int x3), (4, .int x4)]) hx hb dX5_mixHead_40 hl (by decide) rfl (fun ls hl => ?_)
      exact hB _ _ _ hP hS (lv_sub hl [1, 2, 3, 4, 0] rfl))
    (by
    intro x0 x3 x4 x5 hB H locs ls hP hS hl
    refine lv_iload hx hb dX5_mixHead_42 (lv_at hl 4 rfl) ?_
    refine lv_iload_n hx hb dX5_mixHead_44 rfl (lv_at hl 2 rfl) ?_
    refine lv_icmp_gt (tgt := 67) hx hb dX5_mixHead_45 (by decide) (fun c_13 => ?_) (fun c_13 => ?_)
    · have hB := hB.1 c_13
      obtain ⟨x4_14, ex4_14⟩ : ∃ z : Int32, z = x4 + (-1) := ⟨_, rfl⟩
      have hB := hB x4_14 ex4_14
      refine lv_iinc (v := x4_14) (lv' := [(4, .int x4_14), (0, .long x0), (2, .ref (cdA g (9 + n2))), (3, .int x3), (5, .int x5)]) hx hb dX5_mixHead_67 hl (k := 3) rfl (by rw [ex4_14]; rfl) (by decide) rfl (fun ls hl => ?_)
      refine lv_goto (tgt := 31) hx hb dX5_mixHead_70 (by decide) ?_
      exact hB _ _ _ hP hS (lv_sub hl [1, 2, 3, 0] rfl)
    · have hB := hB.2 c_13
      refine lv_lload_n hx hb dX5_mixHead_48 rfl (lv_at hl 0 rfl) ?_
      refine lv_aload_n hx hb dX5_mixHead_49 rfl (lv_at hl 1 rfl) ?_
      refine lv_iload hx hb dX5_mixHead_50 (lv_at hl 4 rfl) ?_
      refine lv_iload hx hb dX5_mixHead_52 (lv_at hl 3 rfl) ?_
      obtain ⟨k_15, hB⟩ := hB
      refine cd_ci (cd_runV (As := [.int x5, .int x4]) (rest := [.long x0]) (σ := σ) (k := 9 + n2) (ci := 2) X wm_X5_105 (show 9 + n2 < 24 by omega) (cdE_head g σ k_15) rfl rfl (c_X2_depthAt l g n2 x5 x4 σ _ hB _) hP hS rfl rfl hl.1 (Nat.le_of_ble_eq_true rfl) ⟨Nat.le_of_ble_eq_true rfl, Nat.le_of_ble_eq_true rfl⟩ ⟨Nat.zero_le _, Nat.zero_le _⟩ dX5_mixHead_54) hS (fun r_16 σ_17 H locs hB hP hS => ?_)
      obtain ⟨eσ_17, hB⟩ := hB
      rw [eσ_17] at hP
      refine cd_cl (cd_runS (As := [.long x0, .int r_16]) (rest := []) (σ := σ) X wm_X5_168 (c_X5_mix l g x0 r_16 σ _ hB _) hP hS rfl rfl hl.1 (Nat.le_of_ble_eq_true rfl) ⟨Nat.le_of_ble_eq_true rfl, Nat.le_of_ble_eq_true rfl⟩ ⟨Nat.zero_le _, Nat.zero_le _⟩ dX5_mixHead_57) hS (fun r_18 σ_19 H locs hB hP hS => ?_)
      obtain ⟨eσ_19, hB⟩ := hB
      rw [eσ_19] at hP
      refine lv_lstore_n (lv' := [(0, .long r_18), (2, .ref (cdA g (9 + n2))), (3, .int x3), (4, .int x4), (5, .int x5)]) hx hb dX5_mixHead_60 rfl hl (by decide) rfl (fun ls hl => ?_)
      obtain ⟨x5_20, ex5_20⟩ : ∃ z : Int32, z = x5 + 1 := ⟨_, rfl⟩
      have hB := hB x5_20 ex5_20
      refine lv_iinc (v := x5_20) (lv' := [(5, .int x5_20), (0, .long r_18), (2, .ref (cdA g (9 + n2))), (3, .int x3), (4, .int x4)]) hx hb dX5_mixHead_61 hl (k := 4) rfl (by rw [ex5_20]; rfl) (by decide) rfl (fun ls hl => ?_)
      refine lv_goto (tgt := 42) hx hb dX5_mixHead_64 (by decide) ?_
      exact hB _ _ _ hP hS (lv_sub hl [1, 2, 3, 4, 0] rfl))
  refine lv_iconst (v := 0) hx hb dX5_mixHead_0 (by decide) ?_
  refine lv_istore_n (lv' := [(3, .int (0 : Int32)), (0, .long v0), (2, .ref (cdA g (9 + n2)))]) hx hb dX5_mixHead_1 rfl hl (by decide) rfl (fun ls hl => ?_)
  exact hB _ _ _ hP hS (lv_sub hl [1, 2, 0] rfl)
def wp_X5_mixTile (v1 : Int64) (n3 : Nat) (v4 : Int32) (σ : cdS) (Q : Int64 → cdS → Prop) : Prop :=
  ∀ (P15 : Int64 → Int32 → cdS → Prop),
    (∀ (x1 : Int64) (x5 : Int32) (σ : cdS), (
    (((7 : Int32) < x5 →
    Q x1 σ) ∧
    (¬ ((7 : Int32) < x5) →
    wp_X1_tell x5 σ (fun r_4 σ_5 => 
    wp_X5_mix x1 r_4 σ_5 (fun r_6 => 
    ∀ x5_8 : Int32, x5_8 = x5 + 1 →
    P15 r_6 x5_8 σ_5))))) → P15 x1 x5 σ) →
    
    wp_X1_layTile n3 v4 (4 : Int32) (3 : Int32) σ (fun σ_2 => 
    P15 v1 (0 : Int32) σ_2)
set_option maxHeartbeats 4000000 in
set_option maxRecDepth 100000 in
theorem c_X5_mixTile (l : Launch) (g : cdG) (v1 : Int64) (n3 : Nat) (v4 : Int32) (σ : cdS) (Q : Int64 → cdS → Prop) (hwp : wp_X5_mixTile v1 n3 v4 σ Q) : cdCl l g yX5_mixTile cX5_mixTile 6 (some .long) 5 111 [.ref (cdA g 0), .long v1, .ref (cdA g (9 + n3)), .int v4] σ Q := by
  intro sz
  refine Met.ofW (cc := cX5_mixTile) (maxL := 6) (ret := (some .long)) (by decide) rfl ?_
  intro p e s m args below meth c s₁ B hml hv
  obtain ⟨rfl, hsz, hP, hK, hdi, hV⟩ := hv
  subst hsz
  have hx := B.exec
  have hb := B.bytes
  have hr := B.returns
  have hlocks := B.notSynchronized
  have hown : s.vm.findClass RX5 = some m.cls := findClass_of_methodNamed B.named
  have hts : ∀ w ∈ cdL, w.before _ s = true := fun w hw => atoms_spec (ws := cdWs yX5_mixTile cX5_mixTile 6 (some .long)) B.pre w (List.mem_cons_of_mem _ hw)
  have X : cdX p s m _ c cX5_mixTile 6 RX5 g := ⟨hx, hb, hml, hown, hts, hK, hdi, hV⟩
  have hS : va_S (cdZ g s.heap.size) s.heap s.heap [] := va_S.rf
  have hl := lv_entry ([.ref (cdA g 0), .long v1, .ref (cdA g (9 + n3)), .int v4]) (n := 6) (Nat.le_of_ble_eq_true rfl)
  rw [lg_entry_eq]
  generalize (lg_sl ([.ref (cdA g 0), .long v1, .ref (cdA g (9 + n3)), .int v4]) ++ List.replicate (6 - (lg_sl ([.ref (cdA g 0), .long v1, .ref (cdA g (9 + n3)), .int v4])).length) Slot.unset).toArray = ls at hl ⊢
  have hl : lv_has ls 6 [(0, .ref (cdA g 0)), (1, .long v1), (3, .ref (cdA g (9 + n3))), (4, .int v4)] := hl
  obtain ⟨Qm, hQm⟩ : ∃ z, z = MQ below (va_Ql Q (fun σ' t => va_P (cdD g) vwCl (cdW g σ') t.heap) (cdZ g s.heap.size)) ([.ref (cdA g 0), .long v1, .ref (cdA g (9 + n3)), .int v4] : List Value).toArray s 0 0 (cdZ g s.heap.size) := ⟨_, rfl⟩
  rw [← hQm]
  have hB := hwp (fun (x1 : Int64) (x5 : Int32) (σ : cdS) => cdCut p l e (headSpec (cdWs yX5_mixTile cX5_mixTile 6 (some .long)) (cdRm 5 111)).room s m ([.ref (cdA g 0), .long v1, .ref (cdA g (9 + n3)), .int v4] : List Value).toArray below meth c Qm g 6 15 [(0, .ref (cdA g 0)), (1, .long x1), (5, .int x5)] [] σ)
    (by
    intro x1 x5 σ hB H locs ls hP hS hl
    refine lv_iload hx hb dX5_mixTile_15 (lv_at hl 2 rfl) ?_
    refine lv_bipush (v := 7) hx hb dX5_mixTile_17 (by decide) ?_
    refine lv_icmp_gt (tgt := 42) hx hb dX5_mixTile_19 (by decide) (fun c_3 => ?_) (fun c_3 => ?_)
    · have hB := hB.1 c_3
      refine lv_lload_n hx hb dX5_mixTile_42 rfl (lv_at hl 1 rfl) ?_
      rw [hQm]
      exact W.lret hx hb hr (fun t ht hW => ⟨⟨x1, σ, rfl, hB, cd_hp ht hP⟩, hS.F ht⟩) hS.2.2 dX5_mixTile_43
    · have hB := hB.2 c_3
      refine lv_lload_n hx hb dX5_mixTile_22 rfl (lv_at hl 1 rfl) ?_
      refine lv_aload_n hx hb dX5_mixTile_23 rfl (lv_at hl 0 rfl) ?_
      refine cd_get X hP (C := RX5) (T := TX5) (N := 9) (ci := 5) (k := 0) (j := 2) (v := .ref (cdA g 4)) inX5 (by decide) rfl rfl (by decide) wf_X5_19 rfl rfl dX5_mixTile_24 ?_
      refine lv_iload hx hb dX5_mixTile_27 (lv_at hl 2 rfl) ?_
      refine cd_ci (cd_runV (As := [.int x5]) (rest := [.long x1]) (σ := σ) (k := 4) (ci := 1) X wm_X5_119 (by decide) rfl rfl rfl (c_X1_tell l g x5 σ _ hB _) hP hS rfl rfl hl.1 (Nat.le_of_ble_eq_true rfl) ⟨Nat.le_of_ble_eq_true rfl, Nat.le_of_ble_eq_true rfl⟩ ⟨Nat.zero_le _, Nat.zero_le _⟩ dX5_mixTile_29) hS (fun r_4 σ_5 H locs hB hP hS => ?_)
      refine cd_cl (cd_runS (As := [.long x1, .int r_4]) (rest := []) (σ := σ_5) X wm_X5_168 (c_X5_mix l g x1 r_4 σ_5 _ hB _) hP hS rfl rfl hl.1 (Nat.le_of_ble_eq_true rfl) ⟨Nat.le_of_ble_eq_true rfl, Nat.le_of_ble_eq_true rfl⟩ ⟨Nat.zero_le _, Nat.zero_le _⟩ dX5_mixTile_32) hS (fun r_6 σ_7 H locs hB hP hS => ?_)
      obtain ⟨eσ_7, hB⟩ := hB
      rw [eσ_7] at hP
      refine lv_lstore_n (lv' := [(1, .long r_6), (0, .ref (cdA g 0)), (5, .int x5)]) hx hb dX5_mixTile_35 rfl hl (by decide) rfl (fun ls hl => ?_)
      obtain ⟨x5_8, ex5_8⟩ : ∃ z : Int32, z = x5 + 1 := ⟨_, rfl⟩
      have hB := hB x5_8 ex5_8
      refine lv_iinc (v := x5_8) (lv' := [(5, .int x5_8), (1, .long r_6), (0, .ref (cdA g 0))]) hx hb dX5_mixTile_36 hl (k := 2) rfl (by rw [ex5_8]; rfl) (by decide) rfl (fun ls hl => ?_)
      refine lv_goto (tgt := 15) hx hb dX5_mixTile_39 (by decide) ?_
      exact hB _ _ _ hP hS (lv_sub hl [2, 1, 0] rfl))
  refine lv_aload_n hx hb dX5_mixTile_0 rfl (lv_at hl 0 rfl) ?_
  refine cd_get X hP (C := RX5) (T := TX5) (N := 9) (ci := 5) (k := 0) (j := 2) (v := .ref (cdA g 4)) inX5 (by decide) rfl rfl (by decide) wf_X5_19 rfl rfl dX5_mixTile_1 ?_
  refine lv_aload_n hx hb dX5_mixTile_4 rfl (lv_at hl 2 rfl) ?_
  refine lv_iload hx hb dX5_mixTile_5 (lv_at hl 3 rfl) ?_
  refine lv_iconst (v := 4) hx hb dX5_mixTile_7 (by decide) ?_
  refine lv_iconst (v := 3) hx hb dX5_mixTile_8 (by decide) ?_
  refine cd_cv (cd_runV (As := [.ref (cdA g (9 + n3)), .int v4, .int (4 : Int32), .int (3 : Int32)]) (rest := []) (σ := σ) (k := 4) (ci := 1) X wm_X5_112 (by decide) rfl rfl rfl (c_X1_layTile l g n3 v4 (4 : Int32) (3 : Int32) σ _ hB _) hP hS rfl rfl hl.1 (Nat.le_of_ble_eq_true rfl) ⟨Nat.le_of_ble_eq_true rfl, Nat.le_of_ble_eq_true rfl⟩ ⟨Nat.zero_le _, Nat.zero_le _⟩ dX5_mixTile_9) hS (fun σ_2 H locs hB hP hS => ?_)
  refine lv_iconst (v := 0) hx hb dX5_mixTile_12 (by decide) ?_
  refine lv_istore (lv' := [(5, .int (0 : Int32)), (0, .ref (cdA g 0)), (1, .long v1), (3, .ref (cdA g (9 + n3))), (4, .int v4)]) hx hb dX5_mixTile_13 hl (by decide) rfl (fun ls hl => ?_)
  exact hB _ _ _ hP hS (lv_sub hl [1, 2, 0] rfl)
def wp_X5_mixBest (v1 : Int64) (n3 : Nat) (σ : cdS) (Q : Int64 → cdS → Prop) : Prop :=
  ∀ (P9 : Int64 → Int32 → cdS → Prop),
    (∀ (x1 : Int64) (x4 : Int32) (σ : cdS), (
    (((4 : Int32) < x4 →
    Q x1 σ) ∧
    (¬ ((4 : Int32) < x4) →
    wp_X0_tell x4 σ (fun r_4 => 
    wp_X5_mix x1 r_4 σ (fun r_6 => 
    ∀ x4_8 : Int32, x4_8 = x4 + 1 →
    P9 r_6 x4_8 σ))))) → P9 x1 x4 σ) →
    
    wp_X5_findBest n3 (1 : Int32) σ (fun σ_2 => 
    P9 v1 (0 : Int32) σ_2)
set_option maxHeartbeats 4000000 in
set_option maxRecDepth 100000 in
theorem c_X5_mixBest (l : Launch) (g : cdG) (v1 : Int64) (n3 : Nat) (σ : cdS) (Q : Int64 → cdS → Prop) (hwp : wp_X5_mixBest v1 n3 σ Q) : cdCl l g yX5_mixBest cX5_mixBest 5 (some .long) 5 120 [.ref (cdA g 0), .long v1, .ref (cdA g (9 + n3))] σ Q := by
  intro sz
  refine Met.ofW (cc := cX5_mixBest) (maxL := 5) (ret := (some .long)) (by decide) rfl ?_
  intro p e s m args below meth c s₁ B hml hv
  obtain ⟨rfl, hsz, hP, hK, hdi, hV⟩ := hv
  subst hsz
  have hx := B.exec
  have hb := B.bytes
  have hr := B.returns
  have hlocks := B.notSynchronized
  have hown : s.vm.findClass RX5 = some m.cls := findClass_of_methodNamed B.named
  have hts : ∀ w ∈ cdL, w.before _ s = true := fun w hw => atoms_spec (ws := cdWs yX5_mixBest cX5_mixBest 5 (some .long)) B.pre w (List.mem_cons_of_mem _ hw)
  have X : cdX p s m _ c cX5_mixBest 5 RX5 g := ⟨hx, hb, hml, hown, hts, hK, hdi, hV⟩
  have hS : va_S (cdZ g s.heap.size) s.heap s.heap [] := va_S.rf
  have hl := lv_entry ([.ref (cdA g 0), .long v1, .ref (cdA g (9 + n3))]) (n := 5) (Nat.le_of_ble_eq_true rfl)
  rw [lg_entry_eq]
  generalize (lg_sl ([.ref (cdA g 0), .long v1, .ref (cdA g (9 + n3))]) ++ List.replicate (5 - (lg_sl ([.ref (cdA g 0), .long v1, .ref (cdA g (9 + n3))])).length) Slot.unset).toArray = ls at hl ⊢
  have hl : lv_has ls 5 [(0, .ref (cdA g 0)), (1, .long v1), (3, .ref (cdA g (9 + n3)))] := hl
  obtain ⟨Qm, hQm⟩ : ∃ z, z = MQ below (va_Ql Q (fun σ' t => va_P (cdD g) vwCl (cdW g σ') t.heap) (cdZ g s.heap.size)) ([.ref (cdA g 0), .long v1, .ref (cdA g (9 + n3))] : List Value).toArray s 0 0 (cdZ g s.heap.size) := ⟨_, rfl⟩
  rw [← hQm]
  have hB := hwp (fun (x1 : Int64) (x4 : Int32) (σ : cdS) => cdCut p l e (headSpec (cdWs yX5_mixBest cX5_mixBest 5 (some .long)) (cdRm 5 120)).room s m ([.ref (cdA g 0), .long v1, .ref (cdA g (9 + n3))] : List Value).toArray below meth c Qm g 5 9 [(0, .ref (cdA g 0)), (1, .long x1), (4, .int x4)] [] σ)
    (by
    intro x1 x4 σ hB H locs ls hP hS hl
    refine lv_iload hx hb dX5_mixBest_9 (lv_at hl 2 rfl) ?_
    refine lv_iconst (v := 4) hx hb dX5_mixBest_11 (by decide) ?_
    refine lv_icmp_gt (tgt := 35) hx hb dX5_mixBest_12 (by decide) (fun c_3 => ?_) (fun c_3 => ?_)
    · have hB := hB.1 c_3
      refine lv_lload_n hx hb dX5_mixBest_35 rfl (lv_at hl 1 rfl) ?_
      rw [hQm]
      exact W.lret hx hb hr (fun t ht hW => ⟨⟨x1, σ, rfl, hB, cd_hp ht hP⟩, hS.F ht⟩) hS.2.2 dX5_mixBest_36
    · have hB := hB.2 c_3
      refine lv_lload_n hx hb dX5_mixBest_15 rfl (lv_at hl 1 rfl) ?_
      refine lv_aload_n hx hb dX5_mixBest_16 rfl (lv_at hl 0 rfl) ?_
      refine cd_get X hP (C := RX5) (T := TX5) (N := 9) (ci := 5) (k := 0) (j := 3) (v := .ref (cdA g 8)) inX5 (by decide) rfl rfl (by decide) wf_X5_26 rfl rfl dX5_mixBest_17 ?_
      refine lv_iload hx hb dX5_mixBest_20 (lv_at hl 2 rfl) ?_
      refine cd_ci (cd_runV (As := [.int x4]) (rest := [.long x1]) (σ := σ) (k := 8) (ci := 0) X wm_X5_131 (by decide) rfl rfl rfl (c_X0_tell l g x4 σ _ hB _) hP hS rfl rfl hl.1 (Nat.le_of_ble_eq_true rfl) ⟨Nat.le_of_ble_eq_true rfl, Nat.le_of_ble_eq_true rfl⟩ ⟨Nat.zero_le _, Nat.zero_le _⟩ dX5_mixBest_22) hS (fun r_4 σ_5 H locs hB hP hS => ?_)
      obtain ⟨eσ_5, hB⟩ := hB
      rw [eσ_5] at hP
      refine cd_cl (cd_runS (As := [.long x1, .int r_4]) (rest := []) (σ := σ) X wm_X5_168 (c_X5_mix l g x1 r_4 σ _ hB _) hP hS rfl rfl hl.1 (Nat.le_of_ble_eq_true rfl) ⟨Nat.le_of_ble_eq_true rfl, Nat.le_of_ble_eq_true rfl⟩ ⟨Nat.zero_le _, Nat.zero_le _⟩ dX5_mixBest_25) hS (fun r_6 σ_7 H locs hB hP hS => ?_)
      obtain ⟨eσ_7, hB⟩ := hB
      rw [eσ_7] at hP
      refine lv_lstore_n (lv' := [(1, .long r_6), (0, .ref (cdA g 0)), (4, .int x4)]) hx hb dX5_mixBest_28 rfl hl (by decide) rfl (fun ls hl => ?_)
      obtain ⟨x4_8, ex4_8⟩ : ∃ z : Int32, z = x4 + 1 := ⟨_, rfl⟩
      have hB := hB x4_8 ex4_8
      refine lv_iinc (v := x4_8) (lv' := [(4, .int x4_8), (1, .long r_6), (0, .ref (cdA g 0))]) hx hb dX5_mixBest_29 hl (k := 2) rfl (by rw [ex4_8]; rfl) (by decide) rfl (fun ls hl => ?_)
      refine lv_goto (tgt := 9) hx hb dX5_mixBest_32 (by decide) ?_
      exact hB _ _ _ hP hS (lv_sub hl [2, 1, 0] rfl))
  refine lv_aload_n hx hb dX5_mixBest_0 rfl (lv_at hl 0 rfl) ?_
  refine lv_aload_n hx hb dX5_mixBest_1 rfl (lv_at hl 2 rfl) ?_
  refine lv_iconst (v := 1) hx hb dX5_mixBest_2 (by decide) ?_
  refine cd_cv (cd_runV (As := [.ref (cdA g (9 + n3)), .int (1 : Int32)]) (rest := []) (σ := σ) (k := 0) (ci := 5) X wm_X5_127 (by decide) rfl rfl rfl (c_X5_findBest l g n3 (1 : Int32) σ _ hB _) hP hS rfl rfl hl.1 (Nat.le_of_ble_eq_true rfl) ⟨Nat.le_of_ble_eq_true rfl, Nat.le_of_ble_eq_true rfl⟩ ⟨Nat.zero_le _, Nat.zero_le _⟩ dX5_mixBest_3) hS (fun σ_2 H locs hB hP hS => ?_)
  refine lv_iconst (v := 0) hx hb dX5_mixBest_6 (by decide) ?_
  refine lv_istore (lv' := [(4, .int (0 : Int32)), (0, .ref (cdA g 0)), (1, .long v1), (3, .ref (cdA g (9 + n3)))]) hx hb dX5_mixBest_7 hl (by decide) rfl (fun ls hl => ?_)
  exact hB _ _ _ hP hS (lv_sub hl [1, 2, 0] rfl)
def wp_X5_digest  (σ : cdS) (Q : Int64 → cdS → Prop) : Prop :=
  ∀ (P6 : Int64 → Int32 → cdS → Prop) (P71 : Int64 → Int32 → cdS → Prop) (P103 : Int64 → Int32 → cdS → Prop),
    (∀ (x1 : Int64) (x3 : Int32) (σ : cdS), (
    (((σ.1 0 5) ≤ x3 →
    P71 x1 (0 : Int32) σ) ∧
    (¬ ((σ.1 0 5) ≤ x3) →
    vp_in x3 4 ∧
    wp_X5_mixHead x1 (cdh (σ.1 3 (x3).toNatClampNeg)) σ (fun r_3 => 
    vp_in x3 4 ∧
    wp_X5_mixTile r_3 (cdh (σ.1 3 (x3).toNatClampNeg)) (0 : Int32) σ (fun r_6 σ_7 => 
    vp_in x3 4 ∧
    wp_X5_mixTile r_6 (cdh (σ_7.1 3 (x3).toNatClampNeg)) (1 : Int32) σ_7 (fun r_9 σ_10 => 
    vp_in x3 4 ∧
    wp_X5_mixBest r_9 (cdh (σ_10.1 3 (x3).toNatClampNeg)) σ_10 (fun r_12 σ_13 => 
    ∀ x3_14 : Int32, x3_14 = x3 + 1 →
    P6 r_12 x3_14 σ_13))))))) → P6 x1 x3 σ) →
    (∀ (x1 : Int64) (x3 : Int32) (σ : cdS), (
    wp_X3_length σ (fun r_15 => 
    ((r_15 ≤ x3 →
    P103 x1 (0 : Int32) σ) ∧
    (¬ (r_15 ≤ x3) →
    wp_X3_codeAt x3 σ (fun r_18 => 
    wp_X5_mix x1 r_18 σ (fun r_20 => 
    ∀ x3_22 : Int32, x3_22 = x3 + 1 →
    P71 r_20 x3_22 σ)))))) → P71 x1 x3 σ) →
    (∀ (x1 : Int64) (x3 : Int32) (σ : cdS), (
    (((5 : Int32) < x3 →
    Q x1 σ) ∧
    (¬ ((5 : Int32) < x3) →
    wp_X5_count x3 σ (fun r_24 => 
    wp_X5_mix x1 r_24 σ (fun r_26 => 
    ∀ x3_28 : Int32, x3_28 = x3 + 1 →
    P103 r_26 x3_28 σ))))) → P103 x1 x3 σ) →
    
    P6 (1621 : Int64) (0 : Int32) σ
set_option maxHeartbeats 4000000 in
set_option maxRecDepth 100000 in
theorem c_X5_digest (l : Launch) (g : cdG)  (σ : cdS) (Q : Int64 → cdS → Prop) (hwp : wp_X5_digest  σ Q) : cdCl l g yX5_digest cX5_digest 4 (some .long) 6 144 [.ref (cdA g 0)] σ Q := by
  intro sz
  refine Met.ofW (cc := cX5_digest) (maxL := 4) (ret := (some .long)) (by decide) rfl ?_
  intro p e s m args below meth c s₁ B hml hv
  obtain ⟨rfl, hsz, hP, hK, hdi, hV⟩ := hv
  subst hsz
  have hx := B.exec
  have hb := B.bytes
  have hr := B.returns
  have hlocks := B.notSynchronized
  have hown : s.vm.findClass RX5 = some m.cls := findClass_of_methodNamed B.named
  have hts : ∀ w ∈ cdL, w.before _ s = true := fun w hw => atoms_spec (ws := cdWs yX5_digest cX5_digest 4 (some .long)) B.pre w (List.mem_cons_of_mem _ hw)
  have X : cdX p s m _ c cX5_digest 4 RX5 g := ⟨hx, hb, hml, hown, hts, hK, hdi, hV⟩
  have hS : va_S (cdZ g s.heap.size) s.heap s.heap [] := va_S.rf
  have hl := lv_entry ([.ref (cdA g 0)]) (n := 4) (Nat.le_of_ble_eq_true rfl)
  rw [lg_entry_eq]
  generalize (lg_sl ([.ref (cdA g 0)]) ++ List.replicate (4 - (lg_sl ([.ref (cdA g 0)])).length) Slot.unset).toArray = ls at hl ⊢
  have hl : lv_has ls 4 [(0, .ref (cdA g 0))] := hl
  obtain ⟨Qm, hQm⟩ : ∃ z, z = MQ below (va_Ql Q (fun σ' t => va_P (cdD g) vwCl (cdW g σ') t.heap) (cdZ g s.heap.size)) ([.ref (cdA g 0)] : List Value).toArray s 0 0 (cdZ g s.heap.size) := ⟨_, rfl⟩
  rw [← hQm]
  have hB := hwp (fun (x1 : Int64) (x3 : Int32) (σ : cdS) => cdCut p l e (headSpec (cdWs yX5_digest cX5_digest 4 (some .long)) (cdRm 6 144)).room s m ([.ref (cdA g 0)] : List Value).toArray below meth c Qm g 4 6 [(0, .ref (cdA g 0)), (1, .long x1), (3, .int x3)] [] σ)
    (fun (x1 : Int64) (x3 : Int32) (σ : cdS) => cdCut p l e (headSpec (cdWs yX5_digest cX5_digest 4 (some .long)) (cdRm 6 144)).room s m ([.ref (cdA g 0)] : List Value).toArray below meth c Qm g 4 71 [(0, .ref (cdA g 0)), (1, .long x1), (3, .int x3)] [] σ)
    (fun (x1 : Int64) (x3 : Int32) (σ : cdS) => cdCut p l e (headSpec (cdWs yX5_digest cX5_digest 4 (some .long)) (cdRm 6 144)).room s m ([.ref (cdA g 0)] : List Value).toArray below meth c Qm g 4 103 [(0, .ref (cdA g 0)), (1, .long x1), (3, .int x3)] [] σ)
    (by
    intro x1 x3 σ hB H locs ls hP hS hl
    refine lv_iload_n hx hb dX5_digest_6 rfl (lv_at hl 2 rfl) ?_
    refine lv_aload_n hx hb dX5_digest_7 rfl (lv_at hl 0 rfl) ?_
    refine cd_get X hP (C := RX5) (T := TX5) (N := 9) (ci := 5) (k := 0) (j := 5) (v := .int (σ.1 0 5)) inX5 (by decide) rfl rfl (by decide) wf_X5_69 rfl rfl dX5_digest_8 ?_
    refine lv_icmp_ge (tgt := 69) hx hb dX5_digest_11 (by decide) (fun c_1 => ?_) (fun c_1 => ?_)
    · have hB := hB.1 c_1
      refine lv_iconst (v := 0) hx hb dX5_digest_69 (by decide) ?_
      refine lv_istore_n (lv' := [(3, .int (0 : Int32)), (0, .ref (cdA g 0)), (1, .long x1)]) hx hb dX5_digest_70 rfl hl (by decide) rfl (fun ls hl => ?_)
      exact hB _ _ _ hP hS (lv_sub hl [1, 2, 0] rfl)
    · have hB := hB.2 c_1
      refine lv_lload_n hx hb dX5_digest_14 rfl (lv_at hl 1 rfl) ?_
      refine lv_aload_n hx hb dX5_digest_15 rfl (lv_at hl 0 rfl) ?_
      refine cd_get X hP (C := RX5) (T := TX5) (N := 9) (ci := 5) (k := 0) (j := 1) (v := .ref (cdA g 3)) inX5 (by decide) rfl rfl (by decide) wf_X5_37 rfl rfl dX5_digest_16 ?_
      refine lv_iload_n hx hb dX5_digest_19 rfl (lv_at hl 2 rfl) ?_
      obtain ⟨i_2, hB⟩ := hB
      refine cd_hld X hP i_2 dX5_digest_20 ?_
      refine cd_cl (cd_runS (As := [.long x1, .ref (cdA g (9 + (cdh (σ.1 3 (x3).toNatClampNeg))))]) (rest := []) (σ := σ) X wm_X5_154 (c_X5_mixHead l g x1 (cdh (σ.1 3 (x3).toNatClampNeg)) σ _ hB _) hP hS rfl rfl hl.1 (Nat.le_of_ble_eq_true rfl) ⟨Nat.le_of_ble_eq_true rfl, Nat.le_of_ble_eq_true rfl⟩ ⟨Nat.zero_le _, Nat.zero_le _⟩ dX5_digest_21) hS (fun r_3 σ_4 H locs hB hP hS => ?_)
      obtain ⟨eσ_4, hB⟩ := hB
      rw [eσ_4] at hP
      refine lv_lstore_n (lv' := [(1, .long r_3), (0, .ref (cdA g 0)), (3, .int x3)]) hx hb dX5_digest_24 rfl hl (by decide) rfl (fun ls hl => ?_)
      refine lv_aload_n hx hb dX5_digest_25 rfl (lv_at hl 1 rfl) ?_
      refine lv_lload_n hx hb dX5_digest_26 rfl (lv_at hl 0 rfl) ?_
      refine lv_aload_n hx hb dX5_digest_27 rfl (lv_at hl 1 rfl) ?_
      refine cd_get X hP (C := RX5) (T := TX5) (N := 9) (ci := 5) (k := 0) (j := 1) (v := .ref (cdA g 3)) inX5 (by decide) rfl rfl (by decide) wf_X5_37 rfl rfl dX5_digest_28 ?_
      refine lv_iload_n hx hb dX5_digest_31 rfl (lv_at hl 2 rfl) ?_
      obtain ⟨i_5, hB⟩ := hB
      refine cd_hld X hP i_5 dX5_digest_32 ?_
      refine lv_iconst (v := 0) hx hb dX5_digest_33 (by decide) ?_
      refine cd_cl (cd_runV (As := [.long r_3, .ref (cdA g (9 + (cdh (σ.1 3 (x3).toNatClampNeg)))), .int (0 : Int32)]) (rest := []) (σ := σ) (k := 0) (ci := 5) X wm_X5_158 (by decide) rfl rfl rfl (c_X5_mixTile l g r_3 (cdh (σ.1 3 (x3).toNatClampNeg)) (0 : Int32) σ _ hB _) hP hS rfl rfl hl.1 (Nat.le_of_ble_eq_true rfl) ⟨Nat.le_of_ble_eq_true rfl, Nat.le_of_ble_eq_true rfl⟩ ⟨Nat.zero_le _, Nat.zero_le _⟩ dX5_digest_34) hS (fun r_6 σ_7 H locs hB hP hS => ?_)
      refine lv_lstore_n (lv' := [(1, .long r_6), (0, .ref (cdA g 0)), (3, .int x3)]) hx hb dX5_digest_37 rfl hl (by decide) rfl (fun ls hl => ?_)
      refine lv_aload_n hx hb dX5_digest_38 rfl (lv_at hl 1 rfl) ?_
      refine lv_lload_n hx hb dX5_digest_39 rfl (lv_at hl 0 rfl) ?_
      refine lv_aload_n hx hb dX5_digest_40 rfl (lv_at hl 1 rfl) ?_
      refine cd_get X hP (C := RX5) (T := TX5) (N := 9) (ci := 5) (k := 0) (j := 1) (v := .ref (cdA g 3)) inX5 (by decide) rfl rfl (by decide) wf_X5_37 rfl rfl dX5_digest_41 ?_
      refine lv_iload_n hx hb dX5_digest_44 rfl (lv_at hl 2 rfl) ?_
      obtain ⟨i_8, hB⟩ := hB
      refine cd_hld X hP i_8 dX5_digest_45 ?_
      refine lv_iconst (v := 1) hx hb dX5_digest_46 (by decide) ?_
      refine cd_cl (cd_runV (As := [.long r_6, .ref (cdA g (9 + (cdh (σ_7.1 3 (x3).toNatClampNeg)))), .int (1 : Int32)]) (rest := []) (σ := σ_7) (k := 0) (ci := 5) X wm_X5_158 (by decide) rfl rfl rfl (c_X5_mixTile l g r_6 (cdh (σ_7.1 3 (x3).toNatClampNeg)) (1 : Int32) σ_7 _ hB _) hP hS rfl rfl hl.1 (Nat.le_of_ble_eq_true rfl) ⟨Nat.le_of_ble_eq_true rfl, Nat.le_of_ble_eq_true rfl⟩ ⟨Nat.zero_le _, Nat.zero_le _⟩ dX5_digest_47) hS (fun r_9 σ_10 H locs hB hP hS => ?_)
      refine lv_lstore_n (lv' := [(1, .long r_9), (0, .ref (cdA g 0)), (3, .int x3)]) hx hb dX5_digest_50 rfl hl (by decide) rfl (fun ls hl => ?_)
      refine lv_aload_n hx hb dX5_digest_51 rfl (lv_at hl 1 rfl) ?_
      refine lv_lload_n hx hb dX5_digest_52 rfl (lv_at hl 0 rfl) ?_
      refine lv_aload_n hx hb dX5_digest_53 rfl (lv_at hl 1 rfl) ?_
      refine cd_get X hP (C := RX5) (T := TX5) (N := 9) (ci := 5) (k := 0) (j := 1) (v := .ref (cdA g 3)) inX5 (by decide) rfl rfl (by decide) wf_X5_37 rfl rfl dX5_digest_54 ?_
      refine lv_iload_n hx hb dX5_digest_57 rfl (lv_at hl 2 rfl) ?_
      obtain ⟨i_11, hB⟩ := hB
      refine cd_hld X hP i_11 dX5_digest_58 ?_
      refine cd_cl (cd_runV (As := [.long r_9, .ref (cdA g (9 + (cdh (σ_10.1 3 (x3).toNatClampNeg))))]) (rest := []) (σ := σ_10) (k := 0) (ci := 5) X wm_X5_162 (by decide) rfl rfl rfl (c_X5_mixBest l g r_9 (cdh (σ_10.1 3 (x3).toNatClampNeg)) σ_10 _ hB _) hP hS rfl rfl hl.1 (Nat.le_of_ble_eq_true rfl) ⟨Nat.le_of_ble_eq_true rfl, Nat.le_of_ble_eq_true rfl⟩ ⟨Nat.zero_le _, Nat.zero_le _⟩ dX5_digest_59) hS (fun r_12 σ_13 H locs hB hP hS => ?_)
      refine lv_lstore_n (lv' := [(1, .long r_12), (0, .ref (cdA g 0)), (3, .int x3)]) hx hb dX5_digest_62 rfl hl (by decide) rfl (fun ls hl => ?_)
      obtain ⟨x3_14, ex3_14⟩ : ∃ z : Int32, z = x3 + 1 := ⟨_, rfl⟩
      have hB := hB x3_14 ex3_14
      refine lv_iinc (v := x3_14) (lv' := [(3, .int x3_14), (1, .long r_12), (0, .ref (cdA g 0))]) hx hb dX5_digest_63 hl (k := 2) rfl (by rw [ex3_14]; rfl) (by decide) rfl (fun ls hl => ?_)
      refine lv_goto (tgt := 6) hx hb dX5_digest_66 (by decide) ?_
      exact hB _ _ _ hP hS (lv_sub hl [2, 1, 0] rfl))
    (by
    intro x1 x3 σ hB H locs ls hP hS hl
    refine lv_iload_n hx hb dX5_digest_71 rfl (lv_at hl 2 rfl) ?_
    refine lv_aload_n hx hb dX5_digest_72 rfl (lv_at hl 0 rfl) ?_
    refine cd_get X hP (C := RX5) (T := TX5) (N := 9) (ci := 5) (k := 0) (j := 0) (v := .ref (cdA g 1)) inX5 (by decide) rfl rfl (by decide) wf_X5_10 rfl rfl dX5_digest_73 ?_
    refine cd_ci (cd_runV (As := []) (rest := [.int x3]) (σ := σ) (k := 1) (ci := 3) X wm_X5_50 (by decide) rfl rfl rfl (c_X3_length l g  σ _ hB _) hP hS rfl rfl hl.1 (Nat.le_of_ble_eq_true rfl) ⟨Nat.le_of_ble_eq_true rfl, Nat.le_of_ble_eq_true rfl⟩ ⟨Nat.zero_le _, Nat.zero_le _⟩ dX5_digest_76) hS (fun r_15 σ_16 H locs hB hP hS => ?_)
    obtain ⟨eσ_16, hB⟩ := hB
    rw [eσ_16] at hP
    refine lv_icmp_ge (tgt := 101) hx hb dX5_digest_79 (by decide) (fun c_17 => ?_) (fun c_17 => ?_)
    · have hB := hB.1 c_17
      refine lv_iconst (v := 0) hx hb dX5_digest_101 (by decide) ?_
      refine lv_istore_n (lv' := [(3, .int (0 : Int32)), (0, .ref (cdA g 0)), (1, .long x1)]) hx hb dX5_digest_102 rfl hl (by decide) rfl (fun ls hl => ?_)
      exact hB _ _ _ hP hS (lv_sub hl [1, 2, 0] rfl)
    · have hB := hB.2 c_17
      refine lv_lload_n hx hb dX5_digest_82 rfl (lv_at hl 1 rfl) ?_
      refine lv_aload_n hx hb dX5_digest_83 rfl (lv_at hl 0 rfl) ?_
      refine cd_get X hP (C := RX5) (T := TX5) (N := 9) (ci := 5) (k := 0) (j := 0) (v := .ref (cdA g 1)) inX5 (by decide) rfl rfl (by decide) wf_X5_10 rfl rfl dX5_digest_84 ?_
      refine lv_iload_n hx hb dX5_digest_87 rfl (lv_at hl 2 rfl) ?_
      refine cd_ci (cd_runV (As := [.int x3]) (rest := [.long x1]) (σ := σ) (k := 1) (ci := 3) X wm_X5_165 (by decide) rfl rfl rfl (c_X3_codeAt l g x3 σ _ hB _) hP hS rfl rfl hl.1 (Nat.le_of_ble_eq_true rfl) ⟨Nat.le_of_ble_eq_true rfl, Nat.le_of_ble_eq_true rfl⟩ ⟨Nat.zero_le _, Nat.zero_le _⟩ dX5_digest_88) hS (fun r_18 σ_19 H locs hB hP hS => ?_)
      obtain ⟨eσ_19, hB⟩ := hB
      rw [eσ_19] at hP
      refine cd_cl (cd_runS (As := [.long x1, .int r_18]) (rest := []) (σ := σ) X wm_X5_168 (c_X5_mix l g x1 r_18 σ _ hB _) hP hS rfl rfl hl.1 (Nat.le_of_ble_eq_true rfl) ⟨Nat.le_of_ble_eq_true rfl, Nat.le_of_ble_eq_true rfl⟩ ⟨Nat.zero_le _, Nat.zero_le _⟩ dX5_digest_91) hS (fun r_20 σ_21 H locs hB hP hS => ?_)
      obtain ⟨eσ_21, hB⟩ := hB
      rw [eσ_21] at hP
      refine lv_lstore_n (lv' := [(1, .long r_20), (0, .ref (cdA g 0)), (3, .int x3)]) hx hb dX5_digest_94 rfl hl (by decide) rfl (fun ls hl => ?_)
      obtain ⟨x3_22, ex3_22⟩ : ∃ z : Int32, z = x3 + 1 := ⟨_, rfl⟩
      have hB := hB x3_22 ex3_22
      refine lv_iinc (v := x3_22) (lv' := [(3, .int x3_22), (1, .long r_20), (0, .ref (cdA g 0))]) hx hb dX5_digest_95 hl (k := 2) rfl (by rw [ex3_22]; rfl) (by decide) rfl (fun ls hl => ?_)
      refine lv_goto (tgt := 71) hx hb dX5_digest_98 (by decide) ?_
      exact hB _ _ _ hP hS (lv_sub hl [2, 1, 0] rfl))
    (by
    intro x1 x3 σ hB H locs ls hP hS hl
    refine lv_iload_n hx hb dX5_digest_103 rfl (lv_at hl 2 rfl) ?_
    refine lv_iconst (v := 5) hx hb dX5_digest_104 (by decide) ?_
    refine lv_icmp_gt (tgt := 124) hx hb dX5_digest_105 (by decide) (fun c_23 => ?_) (fun c_23 => ?_)
    · have hB := hB.1 c_23
      refine lv_lload_n hx hb dX5_digest_124 rfl (lv_at hl 1 rfl) ?_
      rw [hQm]
      exact W.lret hx hb hr (fun t ht hW => ⟨⟨x1, σ, rfl, hB, cd_hp ht hP⟩, hS.F ht⟩) hS.2.2 dX5_digest_125
    · have hB := hB.2 c_23
      refine lv_lload_n hx hb dX5_digest_108 rfl (lv_at hl 1 rfl) ?_
      refine lv_aload_n hx hb dX5_digest_109 rfl (lv_at hl 0 rfl) ?_
      refine lv_iload_n hx hb dX5_digest_110 rfl (lv_at hl 2 rfl) ?_
      refine cd_ci (cd_runV (As := [.int x3]) (rest := [.long x1]) (σ := σ) (k := 0) (ci := 5) X wm_X5_172 (by decide) rfl rfl rfl (c_X5_count l g x3 σ _ hB _) hP hS rfl rfl hl.1 (Nat.le_of_ble_eq_true rfl) ⟨Nat.le_of_ble_eq_true rfl, Nat.le_of_ble_eq_true rfl⟩ ⟨Nat.zero_le _, Nat.zero_le _⟩ dX5_digest_111) hS (fun r_24 σ_25 H locs hB hP hS => ?_)
      obtain ⟨eσ_25, hB⟩ := hB
      rw [eσ_25] at hP
      refine cd_cl (cd_runS (As := [.long x1, .int r_24]) (rest := []) (σ := σ) X wm_X5_168 (c_X5_mix l g x1 r_24 σ _ hB _) hP hS rfl rfl hl.1 (Nat.le_of_ble_eq_true rfl) ⟨Nat.le_of_ble_eq_true rfl, Nat.le_of_ble_eq_true rfl⟩ ⟨Nat.zero_le _, Nat.zero_le _⟩ dX5_digest_114) hS (fun r_26 σ_27 H locs hB hP hS => ?_)
      obtain ⟨eσ_27, hB⟩ := hB
      rw [eσ_27] at hP
      refine lv_lstore_n (lv' := [(1, .long r_26), (0, .ref (cdA g 0)), (3, .int x3)]) hx hb dX5_digest_117 rfl hl (by decide) rfl (fun ls hl => ?_)
      obtain ⟨x3_28, ex3_28⟩ : ∃ z : Int32, z = x3 + 1 := ⟨_, rfl⟩
      have hB := hB x3_28 ex3_28
      refine lv_iinc (v := x3_28) (lv' := [(3, .int x3_28), (1, .long r_26), (0, .ref (cdA g 0))]) hx hb dX5_digest_118 hl (k := 2) rfl (by rw [ex3_28]; rfl) (by decide) rfl (fun ls hl => ?_)
      refine lv_goto (tgt := 103) hx hb dX5_digest_121 (by decide) ?_
      exact hB _ _ _ hP hS (lv_sub hl [2, 1, 0] rfl))
  refine lv_ldc2 (v := 1621) hx hb hown (hts _ wc_X5_152) dX5_digest_0 ?_
  refine lv_lstore_n (lv' := [(1, .long (1621 : Int64)), (0, .ref (cdA g 0))]) hx hb dX5_digest_3 rfl hl (by decide) rfl (fun ls hl => ?_)
  refine lv_iconst (v := 0) hx hb dX5_digest_4 (by decide) ?_
  refine lv_istore_n (lv' := [(3, .int (0 : Int32)), (1, .long (1621 : Int64)), (0, .ref (cdA g 0))]) hx hb dX5_digest_5 rfl hl (by decide) rfl (fun ls hl => ?_)
  exact hB _ _ _ hP hS (lv_sub hl [2, 1, 0] rfl)
def wp_X5_drop (v1 : Int32) (σ : cdS) (Q : Int32 → cdS → Prop) : Prop :=
  ∀ (P22 : Nat → Int32 → cdS → Prop),
    (∀ (m2 : Nat) (x3 : Int32) (σ : cdS), (
    (((σ.1 0 5) ≤ x3 →
    ∀ σ_7 : cdS, σ_7 = cdU σ 0 5 ((σ.1 0 5) - (1 : Int32)) →
    m2 < 5 ∧ vp_in (σ_7.1 0 5) 4 ∧ ∀ σ_8 : cdS, σ_8 = cdU σ_7 3 ((σ_7.1 0 5)).toNatClampNeg (nI m2) →
    ∀ σ_11 : cdS, σ_11 = cdU σ_8 0 8 ((σ_8.1 0 8) + (1 : Int32)) →
    Q (σ_11.1 0 5) σ_11) ∧
    (¬ ((σ.1 0 5) ≤ x3) →
    vp_in x3 4 ∧
    (cdh (σ.1 3 (x3).toNatClampNeg)) < 5 ∧ vp_in (x3 - (1 : Int32)) 4 ∧ ∀ σ_13 : cdS, σ_13 = cdU σ 3 ((x3 - (1 : Int32))).toNatClampNeg (nI (cdh (σ.1 3 (x3).toNatClampNeg))) →
    ∀ x3_16 : Int32, x3_16 = x3 + 1 →
    P22 m2 x3_16 σ_13))) → P22 m2 x3 σ) →
    
    wp_X5_isKnown v1 σ (fun r_1 => 
    ((¬ r_1 = 0 →
    vp_in v1 4 ∧
    ∀ x3_5 : Int32, x3_5 = (v1 + (1 : Int32)) →
    P22 (cdh (σ.1 3 (v1).toNatClampNeg)) x3_5 σ) ∧
    (r_1 = 0 →
    Q (-1000002 : Int32) σ)))
set_option maxHeartbeats 4000000 in
set_option maxRecDepth 100000 in
theorem c_X5_drop (l : Launch) (g : cdG) (v1 : Int32) (σ : cdS) (Q : Int32 → cdS → Prop) (hwp : wp_X5_drop v1 σ Q) : cdCi l g yX5_drop cX5_drop 4 (some .int) 1 21 [.ref (cdA g 0), .int v1] σ Q := by
  intro sz
  refine Met.ofW (cc := cX5_drop) (maxL := 4) (ret := (some .int)) (by decide) rfl ?_
  intro p e s m args below meth c s₁ B hml hv
  obtain ⟨rfl, hsz, hP, hK, hdi, hV⟩ := hv
  subst hsz
  have hx := B.exec
  have hb := B.bytes
  have hr := B.returns
  have hlocks := B.notSynchronized
  have hown : s.vm.findClass RX5 = some m.cls := findClass_of_methodNamed B.named
  have hts : ∀ w ∈ cdL, w.before _ s = true := fun w hw => atoms_spec (ws := cdWs yX5_drop cX5_drop 4 (some .int)) B.pre w (List.mem_cons_of_mem _ hw)
  have X : cdX p s m _ c cX5_drop 4 RX5 g := ⟨hx, hb, hml, hown, hts, hK, hdi, hV⟩
  have hS : va_S (cdZ g s.heap.size) s.heap s.heap [] := va_S.rf
  have hl := lv_entry ([.ref (cdA g 0), .int v1]) (n := 4) (Nat.le_of_ble_eq_true rfl)
  rw [lg_entry_eq]
  generalize (lg_sl ([.ref (cdA g 0), .int v1]) ++ List.replicate (4 - (lg_sl ([.ref (cdA g 0), .int v1])).length) Slot.unset).toArray = ls at hl ⊢
  have hl : lv_has ls 4 [(0, .ref (cdA g 0)), (1, .int v1)] := hl
  obtain ⟨Qm, hQm⟩ : ∃ z, z = MQ below (va_Qi Q (fun σ' t => va_P (cdD g) vwCl (cdW g σ') t.heap) (cdZ g s.heap.size)) ([.ref (cdA g 0), .int v1] : List Value).toArray s 0 0 (cdZ g s.heap.size) := ⟨_, rfl⟩
  rw [← hQm]
  have hB := hwp (fun (m2 : Nat) (x3 : Int32) (σ : cdS) => cdCut p l e (headSpec (cdWs yX5_drop cX5_drop 4 (some .int)) (cdRm 1 21)).room s m ([.ref (cdA g 0), .int v1] : List Value).toArray below meth c Qm g 4 22 [(0, .ref (cdA g 0)), (2, .ref (cdA g (9 + m2))), (3, .int x3)] [] σ)
    (by
    intro m2 x3 σ hB H locs ls hP hS hl
    refine lv_iload_n hx hb dX5_drop_22 rfl (lv_at hl 2 rfl) ?_
    refine lv_aload_n hx hb dX5_drop_23 rfl (lv_at hl 0 rfl) ?_
    refine cd_get X hP (C := RX5) (T := TX5) (N := 9) (ci := 5) (k := 0) (j := 5) (v := .int (σ.1 0 5)) inX5 (by decide) rfl rfl (by decide) wf_X5_69 rfl rfl dX5_drop_24 ?_
    refine lv_icmp_ge (tgt := 50) hx hb dX5_drop_27 (by decide) (fun c_6 => ?_) (fun c_6 => ?_)
    · have hB := hB.1 c_6
      refine lv_aload_n hx hb dX5_drop_50 rfl (lv_at hl 0 rfl) ?_
      refine lv_dup hx hb dX5_drop_51 rfl ?_
      refine cd_get X hP (C := RX5) (T := TX5) (N := 9) (ci := 5) (k := 0) (j := 5) (v := .int (σ.1 0 5)) inX5 (by decide) rfl rfl (by decide) wf_X5_69 rfl rfl dX5_drop_52 ?_
      refine lv_iconst (v := 1) hx hb dX5_drop_55 (by decide) ?_
      refine lv_isub hx hb dX5_drop_56 ?_
      refine cd_put X hP hS (C := RX5) (T := TX5) (N := 9) (ci := 5) (k := 0) (j := 5) (v := .int ((σ.1 0 5) - (1 : Int32))) (σ' := cdU σ 0 5 ((σ.1 0 5) - (1 : Int32))) inX5 tyX5 tyX5_ok nmX5 (by decide) rfl rfl (by decide) wf_X5_69 rfl rfl (tyX5_ok 5 (by decide)) rfl rfl (Nat.le_of_ble_eq_true rfl) (cdW_U (by decide) rfl) dX5_drop_57 (fun H locs hP hS => ?_)
      obtain ⟨σ_7, eσ_7⟩ : ∃ z : cdS, z = cdU σ 0 5 ((σ.1 0 5) - (1 : Int32)) := ⟨_, rfl⟩
      rw [← eσ_7] at hP
      have hB := hB σ_7 eσ_7
      refine lv_aload_n hx hb dX5_drop_60 rfl (lv_at hl 0 rfl) ?_
      refine cd_get X hP (C := RX5) (T := TX5) (N := 9) (ci := 5) (k := 0) (j := 1) (v := .ref (cdA g 3)) inX5 (by decide) rfl rfl (by decide) wf_X5_37 rfl rfl dX5_drop_61 ?_
      refine lv_aload_n hx hb dX5_drop_64 rfl (lv_at hl 0 rfl) ?_
      refine cd_get X hP (C := RX5) (T := TX5) (N := 9) (ci := 5) (k := 0) (j := 5) (v := .int (σ_7.1 0 5)) inX5 (by decide) rfl rfl (by decide) wf_X5_69 rfl rfl dX5_drop_65 ?_
      refine lv_aload_n hx hb dX5_drop_68 rfl (lv_at hl 1 rfl) ?_
      obtain ⟨k_9, hB⟩ := hB
      obtain ⟨i_10, hB⟩ := hB
      refine cd_hst X hP hS k_9 i_10 dX5_drop_69 (fun H locs hP hS => ?_)
      obtain ⟨σ_8, eσ_8⟩ : ∃ z : cdS, z = cdU σ_7 3 ((σ_7.1 0 5)).toNatClampNeg (nI m2) := ⟨_, rfl⟩
      rw [← eσ_8] at hP
      have hB := hB σ_8 eσ_8
      refine lv_aload_n hx hb dX5_drop_70 rfl (lv_at hl 0 rfl) ?_
      refine lv_dup hx hb dX5_drop_71 rfl ?_
      refine cd_get X hP (C := RX5) (T := TX5) (N := 9) (ci := 5) (k := 0) (j := 8) (v := .int (σ_8.1 0 8)) inX5 (by decide) rfl rfl (by decide) wf_X5_84 rfl rfl dX5_drop_72 ?_
      refine lv_iconst (v := 1) hx hb dX5_drop_75 (by decide) ?_
      refine lv_iadd hx hb dX5_drop_76 ?_
      refine cd_put X hP hS (C := RX5) (T := TX5) (N := 9) (ci := 5) (k := 0) (j := 8) (v := .int ((σ_8.1 0 8) + (1 : Int32))) (σ' := cdU σ_8 0 8 ((σ_8.1 0 8) + (1 : Int32))) inX5 tyX5 tyX5_ok nmX5 (by decide) rfl rfl (by decide) wf_X5_84 rfl rfl (tyX5_ok 8 (by decide)) rfl rfl (Nat.le_of_ble_eq_true rfl) (cdW_U (by decide) rfl) dX5_drop_77 (fun H locs hP hS => ?_)
      obtain ⟨σ_11, eσ_11⟩ : ∃ z : cdS, z = cdU σ_8 0 8 ((σ_8.1 0 8) + (1 : Int32)) := ⟨_, rfl⟩
      rw [← eσ_11] at hP
      have hB := hB σ_11 eσ_11
      refine lv_aload_n hx hb dX5_drop_80 rfl (lv_at hl 0 rfl) ?_
      refine cd_get X hP (C := RX5) (T := TX5) (N := 9) (ci := 5) (k := 0) (j := 5) (v := .int (σ_11.1 0 5)) inX5 (by decide) rfl rfl (by decide) wf_X5_69 rfl rfl dX5_drop_81 ?_
      rw [hQm]
      exact W.iret hx hb hr (fun t ht hW => ⟨⟨(σ_11.1 0 5), σ_11, rfl, hB, cd_hp ht hP⟩, hS.F ht⟩) hS.2.2 dX5_drop_84
    · have hB := hB.2 c_6
      refine lv_aload_n hx hb dX5_drop_30 rfl (lv_at hl 0 rfl) ?_
      refine cd_get X hP (C := RX5) (T := TX5) (N := 9) (ci := 5) (k := 0) (j := 1) (v := .ref (cdA g 3)) inX5 (by decide) rfl rfl (by decide) wf_X5_37 rfl rfl dX5_drop_31 ?_
      refine lv_iload_n hx hb dX5_drop_34 rfl (lv_at hl 2 rfl) ?_
      refine lv_iconst (v := 1) hx hb dX5_drop_35 (by decide) ?_
      refine lv_isub hx hb dX5_drop_36 ?_
      refine lv_aload_n hx hb dX5_drop_37 rfl (lv_at hl 0 rfl) ?_
      refine cd_get X hP (C := RX5) (T := TX5) (N := 9) (ci := 5) (k := 0) (j := 1) (v := .ref (cdA g 3)) inX5 (by decide) rfl rfl (by decide) wf_X5_37 rfl rfl dX5_drop_38 ?_
      refine lv_iload_n hx hb dX5_drop_41 rfl (lv_at hl 2 rfl) ?_
      obtain ⟨i_12, hB⟩ := hB
      refine cd_hld X hP i_12 dX5_drop_42 ?_
      obtain ⟨k_14, hB⟩ := hB
      obtain ⟨i_15, hB⟩ := hB
      refine cd_hst X hP hS k_14 i_15 dX5_drop_43 (fun H locs hP hS => ?_)
      obtain ⟨σ_13, eσ_13⟩ : ∃ z : cdS, z = cdU σ 3 ((x3 - (1 : Int32))).toNatClampNeg (nI (cdh (σ.1 3 (x3).toNatClampNeg))) := ⟨_, rfl⟩
      rw [← eσ_13] at hP
      have hB := hB σ_13 eσ_13
      obtain ⟨x3_16, ex3_16⟩ : ∃ z : Int32, z = x3 + 1 := ⟨_, rfl⟩
      have hB := hB x3_16 ex3_16
      refine lv_iinc (v := x3_16) (lv' := [(3, .int x3_16), (0, .ref (cdA g 0)), (2, .ref (cdA g (9 + m2)))]) hx hb dX5_drop_44 hl (k := 2) rfl (by rw [ex3_16]; rfl) (by decide) rfl (fun ls hl => ?_)
      refine lv_goto (tgt := 22) hx hb dX5_drop_47 (by decide) ?_
      exact hB _ _ _ hP hS (lv_sub hl [1, 2, 0] rfl))
  refine lv_aload_n hx hb dX5_drop_0 rfl (lv_at hl 0 rfl) ?_
  refine lv_iload_n hx hb dX5_drop_1 rfl (lv_at hl 1 rfl) ?_
  refine cd_ci (cd_runV (As := [.int v1]) (rest := []) (σ := σ) (k := 0) (ci := 5) X wm_X5_80 (by decide) rfl rfl rfl (c_X5_isKnown l g v1 σ _ hB _) hP hS rfl rfl hl.1 (Nat.le_of_ble_eq_true rfl) ⟨Nat.le_of_ble_eq_true rfl, Nat.le_of_ble_eq_true rfl⟩ ⟨Nat.zero_le _, Nat.zero_le _⟩ dX5_drop_2) hS (fun r_1 σ_2 H locs hB hP hS => ?_)
  obtain ⟨eσ_2, hB⟩ := hB
  rw [eσ_2] at hP
  refine lv_if_ne (tgt := 11) hx hb dX5_drop_5 (by decide) (fun c_3 => ?_) (fun c_3 => ?_)
  · have hB := hB.1 c_3
    refine lv_aload_n hx hb dX5_drop_11 rfl (lv_at hl 0 rfl) ?_
    refine cd_get X hP (C := RX5) (T := TX5) (N := 9) (ci := 5) (k := 0) (j := 1) (v := .ref (cdA g 3)) inX5 (by decide) rfl rfl (by decide) wf_X5_37 rfl rfl dX5_drop_12 ?_
    refine lv_iload_n hx hb dX5_drop_15 rfl (lv_at hl 1 rfl) ?_
    obtain ⟨i_4, hB⟩ := hB
    refine cd_hld X hP i_4 dX5_drop_16 ?_
    refine lv_astore_n (lv' := [(2, .ref (cdA g (9 + (cdh (σ.1 3 (v1).toNatClampNeg))))), (0, .ref (cdA g 0)), (1, .int v1)]) hx hb dX5_drop_17 rfl hl (by decide) rfl (fun ls hl => ?_)
    refine lv_iload_n hx hb dX5_drop_18 rfl (lv_at hl 2 rfl) ?_
    refine lv_iconst (v := 1) hx hb dX5_drop_19 (by decide) ?_
    refine lv_iadd hx hb dX5_drop_20 ?_
    refine lv_topi (fun x3_5 ex3_5 => ?_)
    have hB := hB x3_5 ex3_5
    refine lv_istore_n (lv' := [(3, .int x3_5), (2, .ref (cdA g (9 + (cdh (σ.1 3 (v1).toNatClampNeg))))), (0, .ref (cdA g 0)), (1, .int v1)]) hx hb dX5_drop_21 rfl hl (by decide) rfl (fun ls hl => ?_)
    exact hB _ _ _ hP hS (lv_sub hl [2, 1, 0] rfl)
  · have hB := hB.2 c_3
    refine lv_ldc (v := -1000002) hx hb hown (hts _ wc_X5_83) dX5_drop_8 ?_
    rw [hQm]
    exact W.iret hx hb hr (fun t ht hW => ⟨⟨(-1000002 : Int32), σ, rfl, hB, cd_hp ht hP⟩, hS.F ht⟩) hS.2.2 dX5_drop_10
def wp_X5_fault  (σ : cdS) (Q : Int32 → Prop) : Prop :=
  
    wp_X3_firstFault σ (fun r_1 => 
    Q r_1)
set_option maxHeartbeats 4000000 in
set_option maxRecDepth 100000 in
theorem c_X5_fault (l : Launch) (g : cdG)  (σ : cdS) (Q : Int32 → Prop) (hwp : wp_X5_fault  σ Q) : cdCi l g yX5_fault cX5_fault 1 (some .int) 3 71 [.ref (cdA g 0)] σ (fun r σ' => σ' = σ ∧ Q r) := by
  intro sz
  refine Met.ofW (cc := cX5_fault) (maxL := 1) (ret := (some .int)) (by decide) rfl ?_
  intro p e s m args below meth c s₁ B hml hv
  obtain ⟨rfl, hsz, hP, hK, hdi, hV⟩ := hv
  subst hsz
  have hx := B.exec
  have hb := B.bytes
  have hr := B.returns
  have hlocks := B.notSynchronized
  have hown : s.vm.findClass RX5 = some m.cls := findClass_of_methodNamed B.named
  have hts : ∀ w ∈ cdL, w.before _ s = true := fun w hw => atoms_spec (ws := cdWs yX5_fault cX5_fault 1 (some .int)) B.pre w (List.mem_cons_of_mem _ hw)
  have X : cdX p s m _ c cX5_fault 1 RX5 g := ⟨hx, hb, hml, hown, hts, hK, hdi, hV⟩
  have hS : va_S (cdZ g s.heap.size) s.heap s.heap [] := va_S.rf
  have hl := lv_entry ([.ref (cdA g 0)]) (n := 1) (Nat.le_of_ble_eq_true rfl)
  rw [lg_entry_eq]
  generalize (lg_sl ([.ref (cdA g 0)]) ++ List.replicate (1 - (lg_sl ([.ref (cdA g 0)])).length) Slot.unset).toArray = ls at hl ⊢
  have hl : lv_has ls 1 [(0, .ref (cdA g 0))] := hl
  obtain ⟨Qm, hQm⟩ : ∃ z, z = MQ below (va_Qi (fun r σ' => σ' = σ ∧ Q r) (fun σ' t => va_P (cdD g) vwCl (cdW g σ') t.heap) (cdZ g s.heap.size)) ([.ref (cdA g 0)] : List Value).toArray s 0 0 (cdZ g s.heap.size) := ⟨_, rfl⟩
  rw [← hQm]
  have hB := hwp
  refine lv_aload_n hx hb dX5_fault_0 rfl (lv_at hl 0 rfl) ?_
  refine cd_get X hP (C := RX5) (T := TX5) (N := 9) (ci := 5) (k := 0) (j := 0) (v := .ref (cdA g 1)) inX5 (by decide) rfl rfl (by decide) wf_X5_10 rfl rfl dX5_fault_1 ?_
  refine cd_ci (cd_runV (As := []) (rest := []) (σ := σ) (k := 1) (ci := 3) X wm_X5_58 (by decide) rfl rfl rfl (c_X3_firstFault l g  σ _ hB _) hP hS rfl rfl hl.1 (Nat.le_of_ble_eq_true rfl) ⟨Nat.le_of_ble_eq_true rfl, Nat.le_of_ble_eq_true rfl⟩ ⟨Nat.zero_le _, Nat.zero_le _⟩ dX5_fault_4) hS (fun r_1 σ_2 H locs hB hP hS => ?_)
  obtain ⟨eσ_2, hB⟩ := hB
  rw [eσ_2] at hP
  rw [hQm]
  exact W.iret hx hb hr (fun t ht hW => ⟨⟨r_1, σ, rfl, ⟨rfl, hB⟩, cd_hp ht hP⟩, hS.F ht⟩) hS.2.2 dX5_fault_7
def wp_X5_hasFailed (v0 : Int32) (v1 : Int32) (σ : cdS) (Q : Int32 → Prop) : Prop :=
  
    ((((v0 >>> (v1 &&& 31)) &&& (1 : Int32)) = 0 →
    Q (0 : Int32)) ∧
    (¬ (((v0 >>> (v1 &&& 31)) &&& (1 : Int32)) = 0) →
    Q (1 : Int32)))
set_option maxHeartbeats 4000000 in
set_option maxRecDepth 100000 in
theorem c_X5_hasFailed (l : Launch) (g : cdG) (v0 : Int32) (v1 : Int32) (σ : cdS) (Q : Int32 → Prop) (hwp : wp_X5_hasFailed v0 v1 σ Q) : cdCi l g yX5_hasFailed cX5_hasFailed 2 (some .boolean) 0 0 [.int v0, .int v1] σ (fun r σ' => σ' = σ ∧ Q r) := by
  intro sz
  refine Met.ofW (cc := cX5_hasFailed) (maxL := 2) (ret := (some .boolean)) (by decide) rfl ?_
  intro p e s m args below meth c s₁ B hml hv
  obtain ⟨rfl, hsz, hP, hK, hdi, hV⟩ := hv
  subst hsz
  have hx := B.exec
  have hb := B.bytes
  have hr := B.returns
  have hlocks := B.notSynchronized
  have hown : s.vm.findClass RX5 = some m.cls := findClass_of_methodNamed B.named
  have hts : ∀ w ∈ cdL, w.before _ s = true := fun w hw => atoms_spec (ws := cdWs yX5_hasFailed cX5_hasFailed 2 (some .boolean)) B.pre w (List.mem_cons_of_mem _ hw)
  have X : cdX p s m _ c cX5_hasFailed 2 RX5 g := ⟨hx, hb, hml, hown, hts, hK, hdi, hV⟩
  have hS : va_S (cdZ g s.heap.size) s.heap s.heap [] := va_S.rf
  have hl := lv_entry ([.int v0, .int v1]) (n := 2) (Nat.le_of_ble_eq_true rfl)
  rw [lg_entry_eq]
  generalize (lg_sl ([.int v0, .int v1]) ++ List.replicate (2 - (lg_sl ([.int v0, .int v1])).length) Slot.unset).toArray = ls at hl ⊢
  have hl : lv_has ls 2 [(0, .int v0), (1, .int v1)] := hl
  obtain ⟨Qm, hQm⟩ : ∃ z, z = MQ below (va_Qi (fun r σ' => σ' = σ ∧ Q r) (fun σ' t => va_P (cdD g) vwCl (cdW g σ') t.heap) (cdZ g s.heap.size)) ([.int v0, .int v1] : List Value).toArray s 0 0 (cdZ g s.heap.size) := ⟨_, rfl⟩
  rw [← hQm]
  have hB := hwp
  refine lv_iload_n hx hb dX5_hasFailed_0 rfl (lv_at hl 0 rfl) ?_
  refine lv_iload_n hx hb dX5_hasFailed_1 rfl (lv_at hl 1 rfl) ?_
  refine lv_ishr hx hb dX5_hasFailed_2 ?_
  refine lv_iconst (v := 1) hx hb dX5_hasFailed_3 (by decide) ?_
  refine lv_iand hx hb dX5_hasFailed_4 ?_
  refine lv_if_eq (tgt := 12) hx hb dX5_hasFailed_5 (by decide) (fun c_1 => ?_) (fun c_1 => ?_)
  · have hB := hB.1 c_1
    refine lv_iconst (v := 0) hx hb dX5_hasFailed_12 (by decide) ?_
    rw [hQm]
    exact W.zret hx hb hr rfl (fun t ht hW => ⟨⟨(0 : Int32), σ, rfl, ⟨rfl, hB⟩, cd_hp ht hP⟩, hS.F ht⟩) hS.2.2 dX5_hasFailed_13
  · have hB := hB.2 c_1
    refine lv_iconst (v := 1) hx hb dX5_hasFailed_8 (by decide) ?_
    refine lv_goto (tgt := 13) hx hb dX5_hasFailed_9 (by decide) ?_
    rw [hQm]
    exact W.zret hx hb hr rfl (fun t ht hW => ⟨⟨(1 : Int32), σ, rfl, ⟨rfl, hB⟩, cd_hp ht hP⟩, hS.F ht⟩) hS.2.2 dX5_hasFailed_13
def wp_X5_layField (n1 : Nat) (v2 : Int32) (v3 : Int32) (v4 : Int32) (v5 : Int32) (v6 : Int32) (σ : cdS) (Q : cdS → Prop) : Prop :=
  ∀ (P26 : Int32 → cdS → Prop) (P36 : Int32 → Int32 → cdS → Prop) (P74 : Int32 → Int32 → cdS → Prop),
    (∀ (x7 : Int32) (σ : cdS), (
    ((v5 ≤ x7 →
    Q σ) ∧
    (¬ (v5 ≤ x7) →
    P36 x7 (0 : Int32) σ))) → P26 x7 σ) →
    (∀ (x7 : Int32) (x8 : Int32) (σ : cdS), (
    ((v4 ≤ x8 →
    ∀ x7_5 : Int32, x7_5 = x7 + 1 →
    P26 x7_5 σ) ∧
    (¬ (v4 ≤ x8) →
    wp_X5_numberInField x8 x7 σ (fun r_6 => 
    wp_X5_hasFailed v6 r_6 σ (fun r_8 => 
    ((¬ r_8 = 0 →
    P74 x7 x8 σ) ∧
    (r_8 = 0 →
    wp_X1_addWithin n1 (x8 * v2) (x7 * v3) σ (fun σ_12 => 
    P74 x7 x8 σ_12)))))))) → P36 x7 x8 σ) →
    (∀ (x7 : Int32) (x8 : Int32) (σ : cdS), (
    ∀ x8_13 : Int32, x8_13 = x8 + 1 →
    P36 x7 x8_13 σ) → P74 x7 x8 σ) →
    
    wp_X1_clear (((v4 - (1 : Int32)) * v2) + (1 : Int32)) (((v5 - (1 : Int32)) * v3) + (1 : Int32)) σ (fun σ_2 => 
    P26 (0 : Int32) σ_2)
set_option maxHeartbeats 4000000 in
set_option maxRecDepth 100000 in
theorem c_X5_layField (l : Launch) (g : cdG) (n1 : Nat) (v2 : Int32) (v3 : Int32) (v4 : Int32) (v5 : Int32) (v6 : Int32) (σ : cdS) (Q : cdS → Prop) (hwp : wp_X5_layField n1 v2 v3 v4 v5 v6 σ Q) : cdCv l g yX5_layField cX5_layField 9 none 2 48 [.ref (cdA g 0), .ref (cdA g (9 + n1)), .int v2, .int v3, .int v4, .int v5, .int v6] σ Q := by
  intro sz
  refine Met.ofW (cc := cX5_layField) (maxL := 9) (ret := none) (by decide) rfl ?_
  intro p e s m args below meth c s₁ B hml hv
  obtain ⟨rfl, hsz, hP, hK, hdi, hV⟩ := hv
  subst hsz
  have hx := B.exec
  have hb := B.bytes
  have hr := B.returns
  have hlocks := B.notSynchronized
  have hown : s.vm.findClass RX5 = some m.cls := findClass_of_methodNamed B.named
  have hts : ∀ w ∈ cdL, w.before _ s = true := fun w hw => atoms_spec (ws := cdWs yX5_layField cX5_layField 9 none) B.pre w (List.mem_cons_of_mem _ hw)
  have X : cdX p s m _ c cX5_layField 9 RX5 g := ⟨hx, hb, hml, hown, hts, hK, hdi, hV⟩
  have hS : va_S (cdZ g s.heap.size) s.heap s.heap [] := va_S.rf
  have hl := lv_entry ([.ref (cdA g 0), .ref (cdA g (9 + n1)), .int v2, .int v3, .int v4, .int v5, .int v6]) (n := 9) (Nat.le_of_ble_eq_true rfl)
  rw [lg_entry_eq]
  generalize (lg_sl ([.ref (cdA g 0), .ref (cdA g (9 + n1)), .int v2, .int v3, .int v4, .int v5, .int v6]) ++ List.replicate (9 - (lg_sl ([.ref (cdA g 0), .ref (cdA g (9 + n1)), .int v2, .int v3, .int v4, .int v5, .int v6])).length) Slot.unset).toArray = ls at hl ⊢
  have hl : lv_has ls 9 [(0, .ref (cdA g 0)), (1, .ref (cdA g (9 + n1))), (2, .int v2), (3, .int v3), (4, .int v4), (5, .int v5), (6, .int v6)] := hl
  obtain ⟨Qm, hQm⟩ : ∃ z, z = MQ below (va_Qv Q (fun σ' t => va_P (cdD g) vwCl (cdW g σ') t.heap) (cdZ g s.heap.size)) ([.ref (cdA g 0), .ref (cdA g (9 + n1)), .int v2, .int v3, .int v4, .int v5, .int v6] : List Value).toArray s 0 0 (cdZ g s.heap.size) := ⟨_, rfl⟩
  rw [← hQm]
  have hB := hwp (fun (x7 : Int32) (σ : cdS) => cdCut p l e (headSpec (cdWs yX5_layField cX5_layField 9 none) (cdRm 2 48)).room s m ([.ref (cdA g 0), .ref (cdA g (9 + n1)), .int v2, .int v3, .int v4, .int v5, .int v6] : List Value).toArray below meth c Qm g 9 26 [(0, .ref (cdA g 0)), (1, .ref (cdA g (9 + n1))), (2, .int v2), (3, .int v3), (4, .int v4), (5, .int v5), (6, .int v6), (7, .int x7)] [] σ)
    (fun (x7 : Int32) (x8 : Int32) (σ : cdS) => cdCut p l e (headSpec (cdWs yX5_layField cX5_layField 9 none) (cdRm 2 48)).room s m ([.ref (cdA g 0), .ref (cdA g (9 + n1)), .int v2, .int v3, .int v4, .int v5, .int v6] : List Value).toArray below meth c Qm g 9 36 [(0, .ref (cdA g 0)), (1, .ref (cdA g (9 + n1))), (2, .int v2), (3, .int v3), (4, .int v4), (5, .int v5), (6, .int v6), (7, .int x7), (8, .int x8)] [] σ)
    (fun (x7 : Int32) (x8 : Int32) (σ : cdS) => cdCut p l e (headSpec (cdWs yX5_layField cX5_layField 9 none) (cdRm 2 48)).room s m ([.ref (cdA g 0), .ref (cdA g (9 + n1)), .int v2, .int v3, .int v4, .int v5, .int v6] : List Value).toArray below meth c Qm g 9 74 [(0, .ref (cdA g 0)), (1, .ref (cdA g (9 + n1))), (2, .int v2), (3, .int v3), (4, .int v4), (5, .int v5), (6, .int v6), (7, .int x7), (8, .int x8)] [] σ)
    (by
    intro x7 σ hB H locs ls hP hS hl
    refine lv_iload hx hb dX5_layField_26 (lv_at hl 7 rfl) ?_
    refine lv_iload hx hb dX5_layField_28 (lv_at hl 5 rfl) ?_
    refine lv_icmp_ge (tgt := 86) hx hb dX5_layField_30 (by decide) (fun c_3 => ?_) (fun c_3 => ?_)
    · have hB := hB.1 c_3
      rw [hQm]
      exact W.vret hx hb hr (fun t ht hW => ⟨⟨σ, rfl, hB, cd_hp ht hP⟩, hS.F ht⟩) hS.2.2 dX5_layField_86
    · have hB := hB.2 c_3
      refine lv_iconst (v := 0) hx hb dX5_layField_33 (by decide) ?_
      refine lv_istore (lv' := [(8, .int (0 : Int32)), (0, .ref (cdA g 0)), (1, .ref (cdA g (9 + n1))), (2, .int v2), (3, .int v3), (4, .int v4), (5, .int v5), (6, .int v6), (7, .int x7)]) hx hb dX5_layField_34 hl (by decide) rfl (fun ls hl => ?_)
      exact hB _ _ _ hP hS (lv_sub hl [1, 2, 3, 4, 5, 6, 7, 8, 0] rfl))
    (by
    intro x7 x8 σ hB H locs ls hP hS hl
    refine lv_iload hx hb dX5_layField_36 (lv_at hl 8 rfl) ?_
    refine lv_iload hx hb dX5_layField_38 (lv_at hl 4 rfl) ?_
    refine lv_icmp_ge (tgt := 80) hx hb dX5_layField_40 (by decide) (fun c_4 => ?_) (fun c_4 => ?_)
    · have hB := hB.1 c_4
      obtain ⟨x7_5, ex7_5⟩ : ∃ z : Int32, z = x7 + 1 := ⟨_, rfl⟩
      have hB := hB x7_5 ex7_5
      refine lv_iinc (v := x7_5) (lv' := [(7, .int x7_5), (0, .ref (cdA g 0)), (1, .ref (cdA g (9 + n1))), (2, .int v2), (3, .int v3), (4, .int v4), (5, .int v5), (6, .int v6), (8, .int x8)]) hx hb dX5_layField_80 hl (k := 7) rfl (by rw [ex7_5]; rfl) (by decide) rfl (fun ls hl => ?_)
      refine lv_goto (tgt := 26) hx hb dX5_layField_83 (by decide) ?_
      exact hB _ _ _ hP hS (lv_sub hl [1, 2, 3, 4, 5, 6, 7, 0] rfl)
    · have hB := hB.2 c_4
      refine lv_iload hx hb dX5_layField_43 (lv_at hl 6 rfl) ?_
      refine lv_iload hx hb dX5_layField_45 (lv_at hl 8 rfl) ?_
      refine lv_iload hx hb dX5_layField_47 (lv_at hl 7 rfl) ?_
      refine cd_ci (cd_runS (As := [.int x8, .int x7]) (rest := [.int v6]) (σ := σ) X wm_X5_191 (c_X5_numberInField l g x8 x7 σ _ hB _) hP hS rfl rfl hl.1 (Nat.le_of_ble_eq_true rfl) ⟨Nat.le_of_ble_eq_true rfl, Nat.le_of_ble_eq_true rfl⟩ ⟨Nat.zero_le _, Nat.zero_le _⟩ dX5_layField_49) hS (fun r_6 σ_7 H locs hB hP hS => ?_)
      obtain ⟨eσ_7, hB⟩ := hB
      rw [eσ_7] at hP
      refine cd_ci (cd_runS (As := [.int v6, .int r_6]) (rest := []) (σ := σ) X wm_X5_197 (c_X5_hasFailed l g v6 r_6 σ _ hB _) hP hS rfl rfl hl.1 (Nat.le_of_ble_eq_true rfl) ⟨Nat.le_of_ble_eq_true rfl, Nat.le_of_ble_eq_true rfl⟩ ⟨Nat.zero_le _, Nat.zero_le _⟩ dX5_layField_52) hS (fun r_8 σ_9 H locs hB hP hS => ?_)
      obtain ⟨eσ_9, hB⟩ := hB
      rw [eσ_9] at hP
      refine lv_if_ne (tgt := 74) hx hb dX5_layField_55 (by decide) (fun c_10 => ?_) (fun c_10 => ?_)
      · have hB := hB.1 c_10
        exact hB _ _ _ hP hS (lv_sub hl [0, 1, 2, 3, 4, 5, 6, 7, 8] rfl)
      · have hB := hB.2 c_10
        refine lv_aload_n hx hb dX5_layField_58 rfl (lv_at hl 0 rfl) ?_
        refine cd_get X hP (C := RX5) (T := TX5) (N := 9) (ci := 5) (k := 0) (j := 2) (v := .ref (cdA g 4)) inX5 (by decide) rfl rfl (by decide) wf_X5_19 rfl rfl dX5_layField_59 ?_
        refine lv_aload_n hx hb dX5_layField_62 rfl (lv_at hl 1 rfl) ?_
        refine lv_iload hx hb dX5_layField_63 (lv_at hl 8 rfl) ?_
        refine lv_iload_n hx hb dX5_layField_65 rfl (lv_at hl 2 rfl) ?_
        refine lv_imul hx hb dX5_layField_66 ?_
        refine lv_iload hx hb dX5_layField_67 (lv_at hl 7 rfl) ?_
        refine lv_iload_n hx hb dX5_layField_69 rfl (lv_at hl 3 rfl) ?_
        refine lv_imul hx hb dX5_layField_70 ?_
        refine cd_cv (cd_runV (As := [.ref (cdA g (9 + n1)), .int (x8 * v2), .int (x7 * v3)]) (rest := []) (σ := σ) (k := 4) (ci := 1) X wm_X5_201 (by decide) rfl rfl rfl (c_X1_addWithin l g n1 (x8 * v2) (x7 * v3) σ _ hB _) hP hS rfl rfl hl.1 (Nat.le_of_ble_eq_true rfl) ⟨Nat.le_of_ble_eq_true rfl, Nat.le_of_ble_eq_true rfl⟩ ⟨Nat.zero_le _, Nat.zero_le _⟩ dX5_layField_71) hS (fun σ_12 H locs hB hP hS => ?_)
        exact hB _ _ _ hP hS (lv_sub hl [0, 1, 2, 3, 4, 5, 6, 7, 8] rfl))
    (by
    intro x7 x8 σ hB H locs ls hP hS hl
    obtain ⟨x8_13, ex8_13⟩ : ∃ z : Int32, z = x8 + 1 := ⟨_, rfl⟩
    have hB := hB x8_13 ex8_13
    refine lv_iinc (v := x8_13) (lv' := [(8, .int x8_13), (0, .ref (cdA g 0)), (1, .ref (cdA g (9 + n1))), (2, .int v2), (3, .int v3), (4, .int v4), (5, .int v5), (6, .int v6), (7, .int x7)]) hx hb dX5_layField_74 hl (k := 8) rfl (by rw [ex8_13]; rfl) (by decide) rfl (fun ls hl => ?_)
    refine lv_goto (tgt := 36) hx hb dX5_layField_77 (by decide) ?_
    exact hB _ _ _ hP hS (lv_sub hl [1, 2, 3, 4, 5, 6, 7, 8, 0] rfl))
  refine lv_aload_n hx hb dX5_layField_0 rfl (lv_at hl 0 rfl) ?_
  refine cd_get X hP (C := RX5) (T := TX5) (N := 9) (ci := 5) (k := 0) (j := 2) (v := .ref (cdA g 4)) inX5 (by decide) rfl rfl (by decide) wf_X5_19 rfl rfl dX5_layField_1 ?_
  refine lv_iload hx hb dX5_layField_4 (lv_at hl 4 rfl) ?_
  refine lv_iconst (v := 1) hx hb dX5_layField_6 (by decide) ?_
  refine lv_isub hx hb dX5_layField_7 ?_
  refine lv_iload_n hx hb dX5_layField_8 rfl (lv_at hl 2 rfl) ?_
  refine lv_imul hx hb dX5_layField_9 ?_
  refine lv_iconst (v := 1) hx hb dX5_layField_10 (by decide) ?_
  refine lv_iadd hx hb dX5_layField_11 ?_
  refine lv_iload hx hb dX5_layField_12 (lv_at hl 5 rfl) ?_
  refine lv_iconst (v := 1) hx hb dX5_layField_14 (by decide) ?_
  refine lv_isub hx hb dX5_layField_15 ?_
  refine lv_iload_n hx hb dX5_layField_16 rfl (lv_at hl 3 rfl) ?_
  refine lv_imul hx hb dX5_layField_17 ?_
  refine lv_iconst (v := 1) hx hb dX5_layField_18 (by decide) ?_
  refine lv_iadd hx hb dX5_layField_19 ?_
  refine cd_cv (cd_runV (As := [.int (((v4 - (1 : Int32)) * v2) + (1 : Int32)), .int (((v5 - (1 : Int32)) * v3) + (1 : Int32))]) (rest := []) (σ := σ) (k := 4) (ci := 1) X wm_X5_194 (by decide) rfl rfl rfl (c_X1_clear l g (((v4 - (1 : Int32)) * v2) + (1 : Int32)) (((v5 - (1 : Int32)) * v3) + (1 : Int32)) σ _ hB _) hP hS rfl rfl hl.1 (Nat.le_of_ble_eq_true rfl) ⟨Nat.le_of_ble_eq_true rfl, Nat.le_of_ble_eq_true rfl⟩ ⟨Nat.zero_le _, Nat.zero_le _⟩ dX5_layField_20) hS (fun σ_2 H locs hB hP hS => ?_)
  refine lv_iconst (v := 0) hx hb dX5_layField_23 (by decide) ?_
  refine lv_istore (lv' := [(7, .int (0 : Int32)), (0, .ref (cdA g 0)), (1, .ref (cdA g (9 + n1))), (2, .int v2), (3, .int v3), (4, .int v4), (5, .int v5), (6, .int v6)]) hx hb dX5_layField_24 hl (by decide) rfl (fun ls hl => ?_)
  exact hB _ _ _ hP hS (lv_sub hl [1, 2, 3, 4, 5, 6, 7, 0] rfl)
def wp_X5_tellMissed (n1 : Nat) (v2 : Int32) (v3 : Int32) (v4 : Int32) (v5 : Int32) (v6 : Int32) (v7 : Int32) (σ : cdS) (Q : Int32 → Prop) : Prop :=
  ∀ (P10 : Int32 → Int32 → Int32 → Prop) (P20 : Int32 → Int32 → Int32 → Int32 → Prop) (P79 : Int32 → Int32 → Int32 → Int32 → Prop),
    (∀ (x8 : Int32) (x9 : Int32) (x10 : Int32), (
    ((v5 ≤ x10 →
    ((¬ x8 = (-1000001 : Int32) →
    ((¬ v7 = (10 : Int32) →
    wp_X1_total σ (fun r_4 => 
    Q (r_4 - x9))) ∧
    (v7 = (10 : Int32) →
    Q x8))) ∧
    (x8 = (-1000001 : Int32) →
    Q (-1000001 : Int32)))) ∧
    (¬ (v5 ≤ x10) →
    P20 x8 x9 x10 (0 : Int32)))) → P10 x8 x9 x10) →
    (∀ (x8 : Int32) (x9 : Int32) (x10 : Int32) (x11 : Int32), (
    ((v4 ≤ x11 →
    ∀ x10_7 : Int32, x10_7 = x10 + 1 →
    P10 x8 x9 x10_7) ∧
    (¬ (v4 ≤ x11) →
    wp_X5_numberInField x11 x10 σ (fun r_8 => 
    wp_X1_shareWithin n1 (x11 * v2) (x10 * v3) σ (fun r_10 => 
    wp_X5_hasFailed v6 r_8 σ (fun r_12 => 
    ((¬ r_12 = 0 →
    P79 x8 x9 x10 x11) ∧
    (r_12 = 0 →
    ((r_10 ≤ x9 →
    P79 x8 x9 x10 x11) ∧
    (¬ (r_10 ≤ x9) →
    P79 r_8 r_10 x10 x11)))))))))) → P20 x8 x9 x10 x11) →
    (∀ (x8 : Int32) (x9 : Int32) (x10 : Int32) (x11 : Int32), (
    ∀ x11_16 : Int32, x11_16 = x11 + 1 →
    P20 x8 x9 x10 x11_16) → P79 x8 x9 x10 x11) →
    
    P10 (-1000001 : Int32) (-1 : Int32) (0 : Int32)
set_option maxHeartbeats 4000000 in
set_option maxRecDepth 100000 in
theorem c_X5_tellMissed (l : Launch) (g : cdG) (n1 : Nat) (v2 : Int32) (v3 : Int32) (v4 : Int32) (v5 : Int32) (v6 : Int32) (v7 : Int32) (σ : cdS) (Q : Int32 → Prop) (hwp : wp_X5_tellMissed n1 v2 v3 v4 v5 v6 v7 σ Q) : cdCi l g yX5_tellMissed cX5_tellMissed 14 (some .int) 2 49 [.ref (cdA g 0), .ref (cdA g (9 + n1)), .int v2, .int v3, .int v4, .int v5, .int v6, .int v7] σ (fun r σ' => σ' = σ ∧ Q r) := by
  intro sz
  refine Met.ofW (cc := cX5_tellMissed) (maxL := 14) (ret := (some .int)) (by decide) rfl ?_
  intro p e s m args below meth c s₁ B hml hv
  obtain ⟨rfl, hsz, hP, hK, hdi, hV⟩ := hv
  subst hsz
  have hx := B.exec
  have hb := B.bytes
  have hr := B.returns
  have hlocks := B.notSynchronized
  have hown : s.vm.findClass RX5 = some m.cls := findClass_of_methodNamed B.named
  have hts : ∀ w ∈ cdL, w.before _ s = true := fun w hw => atoms_spec (ws := cdWs yX5_tellMissed cX5_tellMissed 14 (some .int)) B.pre w (List.mem_cons_of_mem _ hw)
  have X : cdX p s m _ c cX5_tellMissed 14 RX5 g := ⟨hx, hb, hml, hown, hts, hK, hdi, hV⟩
  have hS : va_S (cdZ g s.heap.size) s.heap s.heap [] := va_S.rf
  have hl := lv_entry ([.ref (cdA g 0), .ref (cdA g (9 + n1)), .int v2, .int v3, .int v4, .int v5, .int v6, .int v7]) (n := 14) (Nat.le_of_ble_eq_true rfl)
  rw [lg_entry_eq]
  generalize (lg_sl ([.ref (cdA g 0), .ref (cdA g (9 + n1)), .int v2, .int v3, .int v4, .int v5, .int v6, .int v7]) ++ List.replicate (14 - (lg_sl ([.ref (cdA g 0), .ref (cdA g (9 + n1)), .int v2, .int v3, .int v4, .int v5, .int v6, .int v7])).length) Slot.unset).toArray = ls at hl ⊢
  have hl : lv_has ls 14 [(0, .ref (cdA g 0)), (1, .ref (cdA g (9 + n1))), (2, .int v2), (3, .int v3), (4, .int v4), (5, .int v5), (6, .int v6), (7, .int v7)] := hl
  obtain ⟨Qm, hQm⟩ : ∃ z, z = MQ below (va_Qi (fun r σ' => σ' = σ ∧ Q r) (fun σ' t => va_P (cdD g) vwCl (cdW g σ') t.heap) (cdZ g s.heap.size)) ([.ref (cdA g 0), .ref (cdA g (9 + n1)), .int v2, .int v3, .int v4, .int v5, .int v6, .int v7] : List Value).toArray s 0 0 (cdZ g s.heap.size) := ⟨_, rfl⟩
  rw [← hQm]
  have hB := hwp (fun (x8 : Int32) (x9 : Int32) (x10 : Int32) => cdCut p l e (headSpec (cdWs yX5_tellMissed cX5_tellMissed 14 (some .int)) (cdRm 2 49)).room s m ([.ref (cdA g 0), .ref (cdA g (9 + n1)), .int v2, .int v3, .int v4, .int v5, .int v6, .int v7] : List Value).toArray below meth c Qm g 14 10 [(0, .ref (cdA g 0)), (1, .ref (cdA g (9 + n1))), (2, .int v2), (3, .int v3), (4, .int v4), (5, .int v5), (6, .int v6), (7, .int v7), (8, .int x8), (9, .int x9), (10, .int x10)] [] σ)
    (fun (x8 : Int32) (x9 : Int32) (x10 : Int32) (x11 : Int32) => cdCut p l e (headSpec (cdWs yX5_tellMissed cX5_tellMissed 14 (some .int)) (cdRm 2 49)).room s m ([.ref (cdA g 0), .ref (cdA g (9 + n1)), .int v2, .int v3, .int v4, .int v5, .int v6, .int v7] : List Value).toArray below meth c Qm g 14 20 [(0, .ref (cdA g 0)), (1, .ref (cdA g (9 + n1))), (2, .int v2), (3, .int v3), (4, .int v4), (5, .int v5), (6, .int v6), (7, .int v7), (8, .int x8), (9, .int x9), (10, .int x10), (11, .int x11)] [] σ)
    (fun (x8 : Int32) (x9 : Int32) (x10 : Int32) (x11 : Int32) => cdCut p l e (headSpec (cdWs yX5_tellMissed cX5_tellMissed 14 (some .int)) (cdRm 2 49)).room s m ([.ref (cdA g 0), .ref (cdA g (9 + n1)), .int v2, .int v3, .int v4, .int v5, .int v6, .int v7] : List Value).toArray below meth c Qm g 14 79 [(0, .ref (cdA g 0)), (1, .ref (cdA g (9 + n1))), (2, .int v2), (3, .int v3), (4, .int v4), (5, .int v5), (6, .int v6), (7, .int v7), (8, .int x8), (9, .int x9), (10, .int x10), (11, .int x11)] [] σ)
    (by
    intro x8 x9 x10 hB H locs ls hP hS hl
    refine lv_iload hx hb dX5_tellMissed_10 (lv_at hl 10 rfl) ?_
    refine lv_iload hx hb dX5_tellMissed_12 (lv_at hl 5 rfl) ?_
    refine lv_icmp_ge (tgt := 91) hx hb dX5_tellMissed_14 (by decide) (fun c_1 => ?_) (fun c_1 => ?_)
    · have hB := hB.1 c_1
      refine lv_iload hx hb dX5_tellMissed_91 (lv_at hl 8 rfl) ?_
      refine lv_ldc (v := -1000001) hx hb hown (hts _ wc_X5_204) dX5_tellMissed_93 ?_
      refine lv_icmp_ne (tgt := 101) hx hb dX5_tellMissed_95 (by decide) (fun c_2 => ?_) (fun c_2 => ?_)
      · have hB := hB.1 c_2
        refine lv_iload hx hb dX5_tellMissed_101 (lv_at hl 7 rfl) ?_
        refine lv_bipush (v := 10) hx hb dX5_tellMissed_103 (by decide) ?_
        refine lv_icmp_ne (tgt := 113) hx hb dX5_tellMissed_105 (by decide) (fun c_3 => ?_) (fun c_3 => ?_)
        · have hB := hB.1 c_3
          refine lv_aload_n hx hb dX5_tellMissed_113 rfl (lv_at hl 0 rfl) ?_
          refine cd_get X hP (C := RX5) (T := TX5) (N := 9) (ci := 5) (k := 0) (j := 2) (v := .ref (cdA g 4)) inX5 (by decide) rfl rfl (by decide) wf_X5_19 rfl rfl dX5_tellMissed_114 ?_
          refine cd_ci (cd_runV (As := []) (rest := []) (σ := σ) (k := 4) (ci := 1) X wm_X5_209 (by decide) rfl rfl rfl (c_X1_total l g  σ _ hB _) hP hS rfl rfl hl.1 (Nat.le_of_ble_eq_true rfl) ⟨Nat.le_of_ble_eq_true rfl, Nat.le_of_ble_eq_true rfl⟩ ⟨Nat.zero_le _, Nat.zero_le _⟩ dX5_tellMissed_117) hS (fun r_4 σ_5 H locs hB hP hS => ?_)
          obtain ⟨eσ_5, hB⟩ := hB
          rw [eσ_5] at hP
          refine lv_iload hx hb dX5_tellMissed_120 (lv_at hl 9 rfl) ?_
          refine lv_isub hx hb dX5_tellMissed_122 ?_
          rw [hQm]
          exact W.iret hx hb hr (fun t ht hW => ⟨⟨(r_4 - x9), σ, rfl, ⟨rfl, hB⟩, cd_hp ht hP⟩, hS.F ht⟩) hS.2.2 dX5_tellMissed_123
        · have hB := hB.2 c_3
          refine lv_iload hx hb dX5_tellMissed_108 (lv_at hl 8 rfl) ?_
          refine lv_goto (tgt := 123) hx hb dX5_tellMissed_110 (by decide) ?_
          rw [hQm]
          exact W.iret hx hb hr (fun t ht hW => ⟨⟨x8, σ, rfl, ⟨rfl, hB⟩, cd_hp ht hP⟩, hS.F ht⟩) hS.2.2 dX5_tellMissed_123
      · have hB := hB.2 c_2
        refine lv_ldc (v := -1000001) hx hb hown (hts _ wc_X5_204) dX5_tellMissed_98 ?_
        rw [hQm]
        exact W.iret hx hb hr (fun t ht hW => ⟨⟨(-1000001 : Int32), σ, rfl, ⟨rfl, hB⟩, cd_hp ht hP⟩, hS.F ht⟩) hS.2.2 dX5_tellMissed_100
    · have hB := hB.2 c_1
      refine lv_iconst (v := 0) hx hb dX5_tellMissed_17 (by decide) ?_
      refine lv_istore (lv' := [(11, .int (0 : Int32)), (0, .ref (cdA g 0)), (1, .ref (cdA g (9 + n1))), (2, .int v2), (3, .int v3), (4, .int v4), (5, .int v5), (6, .int v6), (7, .int v7), (8, .int x8), (9, .int x9), (10, .int x10)]) hx hb dX5_tellMissed_18 hl (by decide) rfl (fun ls hl => ?_)
      exact hB _ _ _ hP hS (lv_sub hl [1, 2, 3, 4, 5, 6, 7, 8, 9, 10, 11, 0] rfl))
    (by
    intro x8 x9 x10 x11 hB H locs ls hP hS hl
    refine lv_iload hx hb dX5_tellMissed_20 (lv_at hl 11 rfl) ?_
    refine lv_iload hx hb dX5_tellMissed_22 (lv_at hl 4 rfl) ?_
    refine lv_icmp_ge (tgt := 85) hx hb dX5_tellMissed_24 (by decide) (fun c_6 => ?_) (fun c_6 => ?_)
    · have hB := hB.1 c_6
      obtain ⟨x10_7, ex10_7⟩ : ∃ z : Int32, z = x10 + 1 := ⟨_, rfl⟩
      have hB := hB x10_7 ex10_7
      refine lv_iinc (v := x10_7) (lv' := [(10, .int x10_7), (0, .ref (cdA g 0)), (1, .ref (cdA g (9 + n1))), (2, .int v2), (3, .int v3), (4, .int v4), (5, .int v5), (6, .int v6), (7, .int v7), (8, .int x8), (9, .int x9), (11, .int x11)]) hx hb dX5_tellMissed_85 hl (k := 10) rfl (by rw [ex10_7]; rfl) (by decide) rfl (fun ls hl => ?_)
      refine lv_goto (tgt := 10) hx hb dX5_tellMissed_88 (by decide) ?_
      exact hB _ _ _ hP hS (lv_sub hl [1, 2, 3, 4, 5, 6, 7, 8, 9, 10, 0] rfl)
    · have hB := hB.2 c_6
      refine lv_iload hx hb dX5_tellMissed_27 (lv_at hl 11 rfl) ?_
      refine lv_iload hx hb dX5_tellMissed_29 (lv_at hl 10 rfl) ?_
      refine cd_ci (cd_runS (As := [.int x11, .int x10]) (rest := []) (σ := σ) X wm_X5_191 (c_X5_numberInField l g x11 x10 σ _ hB _) hP hS rfl rfl hl.1 (Nat.le_of_ble_eq_true rfl) ⟨Nat.le_of_ble_eq_true rfl, Nat.le_of_ble_eq_true rfl⟩ ⟨Nat.zero_le _, Nat.zero_le _⟩ dX5_tellMissed_31) hS (fun r_8 σ_9 H locs hB hP hS => ?_)
      obtain ⟨eσ_9, hB⟩ := hB
      rw [eσ_9] at hP
      refine lv_istore (lv' := [(12, .int r_8), (0, .ref (cdA g 0)), (1, .ref (cdA g (9 + n1))), (2, .int v2), (3, .int v3), (4, .int v4), (5, .int v5), (6, .int v6), (7, .int v7), (8, .int x8), (9, .int x9), (10, .int x10), (11, .int x11)]) hx hb dX5_tellMissed_34 hl (by decide) rfl (fun ls hl => ?_)
      refine lv_aload_n hx hb dX5_tellMissed_36 rfl (lv_at hl 1 rfl) ?_
      refine cd_get X hP (C := RX5) (T := TX5) (N := 9) (ci := 5) (k := 0) (j := 2) (v := .ref (cdA g 4)) inX5 (by decide) rfl rfl (by decide) wf_X5_19 rfl rfl dX5_tellMissed_37 ?_
      refine lv_aload_n hx hb dX5_tellMissed_40 rfl (lv_at hl 2 rfl) ?_
      refine lv_iload hx hb dX5_tellMissed_41 (lv_at hl 12 rfl) ?_
      refine lv_iload_n hx hb dX5_tellMissed_43 rfl (lv_at hl 3 rfl) ?_
      refine lv_imul hx hb dX5_tellMissed_44 ?_
      refine lv_iload hx hb dX5_tellMissed_45 (lv_at hl 11 rfl) ?_
      refine lv_iload_n hx hb dX5_tellMissed_47 rfl (lv_at hl 4 rfl) ?_
      refine lv_imul hx hb dX5_tellMissed_48 ?_
      refine cd_ci (cd_runV (As := [.ref (cdA g (9 + n1)), .int (x11 * v2), .int (x10 * v3)]) (rest := []) (σ := σ) (k := 4) (ci := 1) X wm_X5_205 (by decide) rfl rfl rfl (c_X1_shareWithin l g n1 (x11 * v2) (x10 * v3) σ _ hB _) hP hS rfl rfl hl.1 (Nat.le_of_ble_eq_true rfl) ⟨Nat.le_of_ble_eq_true rfl, Nat.le_of_ble_eq_true rfl⟩ ⟨Nat.zero_le _, Nat.zero_le _⟩ dX5_tellMissed_49) hS (fun r_10 σ_11 H locs hB hP hS => ?_)
      obtain ⟨eσ_11, hB⟩ := hB
      rw [eσ_11] at hP
      refine lv_istore (lv' := [(13, .int r_10), (12, .int r_8), (0, .ref (cdA g 0)), (1, .ref (cdA g (9 + n1))), (2, .int v2), (3, .int v3), (4, .int v4), (5, .int v5), (6, .int v6), (7, .int v7), (8, .int x8), (9, .int x9), (10, .int x10), (11, .int x11)]) hx hb dX5_tellMissed_52 hl (by decide) rfl (fun ls hl => ?_)
      refine lv_iload hx hb dX5_tellMissed_54 (lv_at hl 8 rfl) ?_
      refine lv_iload hx hb dX5_tellMissed_56 (lv_at hl 1 rfl) ?_
      refine cd_ci (cd_runS (As := [.int v6, .int r_8]) (rest := []) (σ := σ) X wm_X5_197 (c_X5_hasFailed l g v6 r_8 σ _ hB _) hP hS rfl rfl hl.1 (Nat.le_of_ble_eq_true rfl) ⟨Nat.le_of_ble_eq_true rfl, Nat.le_of_ble_eq_true rfl⟩ ⟨Nat.zero_le _, Nat.zero_le _⟩ dX5_tellMissed_58) hS (fun r_12 σ_13 H locs hB hP hS => ?_)
      obtain ⟨eσ_13, hB⟩ := hB
      rw [eσ_13] at hP
      refine lv_if_ne (tgt := 79) hx hb dX5_tellMissed_61 (by decide) (fun c_14 => ?_) (fun c_14 => ?_)
      · have hB := hB.1 c_14
        exact hB _ _ _ hP hS (lv_sub hl [2, 3, 4, 5, 6, 7, 8, 9, 10, 11, 12, 13] rfl)
      · have hB := hB.2 c_14
        refine lv_iload hx hb dX5_tellMissed_64 (lv_at hl 0 rfl) ?_
        refine lv_iload hx hb dX5_tellMissed_66 (lv_at hl 11 rfl) ?_
        refine lv_icmp_le (tgt := 79) hx hb dX5_tellMissed_68 (by decide) (fun c_15 => ?_) (fun c_15 => ?_)
        · have hB := hB.1 c_15
          exact hB _ _ _ hP hS (lv_sub hl [2, 3, 4, 5, 6, 7, 8, 9, 10, 11, 12, 13] rfl)
        · have hB := hB.2 c_15
          refine lv_iload hx hb dX5_tellMissed_71 (lv_at hl 0 rfl) ?_
          refine lv_istore (lv' := [(9, .int r_10), (13, .int r_10), (12, .int r_8), (0, .ref (cdA g 0)), (1, .ref (cdA g (9 + n1))), (2, .int v2), (3, .int v3), (4, .int v4), (5, .int v5), (6, .int v6), (7, .int v7), (8, .int x8), (10, .int x10), (11, .int x11)]) hx hb dX5_tellMissed_73 hl (by decide) rfl (fun ls hl => ?_)
          refine lv_iload hx hb dX5_tellMissed_75 (lv_at hl 2 rfl) ?_
          refine lv_istore (lv' := [(8, .int r_8), (9, .int r_10), (13, .int r_10), (12, .int r_8), (0, .ref (cdA g 0)), (1, .ref (cdA g (9 + n1))), (2, .int v2), (3, .int v3), (4, .int v4), (5, .int v5), (6, .int v6), (7, .int v7), (10, .int x10), (11, .int x11)]) hx hb dX5_tellMissed_77 hl (by decide) rfl (fun ls hl => ?_)
          exact hB _ _ _ hP hS (lv_sub hl [4, 5, 6, 7, 8, 9, 10, 11, 0, 1, 12, 13] rfl))
    (by
    intro x8 x9 x10 x11 hB H locs ls hP hS hl
    obtain ⟨x11_16, ex11_16⟩ : ∃ z : Int32, z = x11 + 1 := ⟨_, rfl⟩
    have hB := hB x11_16 ex11_16
    refine lv_iinc (v := x11_16) (lv' := [(11, .int x11_16), (0, .ref (cdA g 0)), (1, .ref (cdA g (9 + n1))), (2, .int v2), (3, .int v3), (4, .int v4), (5, .int v5), (6, .int v6), (7, .int v7), (8, .int x8), (9, .int x9), (10, .int x10)]) hx hb dX5_tellMissed_79 hl (k := 11) rfl (by rw [ex11_16]; rfl) (by decide) rfl (fun ls hl => ?_)
    refine lv_goto (tgt := 20) hx hb dX5_tellMissed_82 (by decide) ?_
    exact hB _ _ _ hP hS (lv_sub hl [1, 2, 3, 4, 5, 6, 7, 8, 9, 10, 11, 0] rfl))
  refine lv_ldc (v := -1000001) hx hb hown (hts _ wc_X5_204) dX5_tellMissed_0 ?_
  refine lv_istore (lv' := [(8, .int (-1000001 : Int32)), (0, .ref (cdA g 0)), (1, .ref (cdA g (9 + n1))), (2, .int v2), (3, .int v3), (4, .int v4), (5, .int v5), (6, .int v6), (7, .int v7)]) hx hb dX5_tellMissed_2 hl (by decide) rfl (fun ls hl => ?_)
  refine lv_iconst (v := -1) hx hb dX5_tellMissed_4 (by decide) ?_
  refine lv_istore (lv' := [(9, .int (-1 : Int32)), (8, .int (-1000001 : Int32)), (0, .ref (cdA g 0)), (1, .ref (cdA g (9 + n1))), (2, .int v2), (3, .int v3), (4, .int v4), (5, .int v5), (6, .int v6), (7, .int v7)]) hx hb dX5_tellMissed_5 hl (by decide) rfl (fun ls hl => ?_)
  refine lv_iconst (v := 0) hx hb dX5_tellMissed_7 (by decide) ?_
  refine lv_istore (lv' := [(10, .int (0 : Int32)), (9, .int (-1 : Int32)), (8, .int (-1000001 : Int32)), (0, .ref (cdA g 0)), (1, .ref (cdA g (9 + n1))), (2, .int v2), (3, .int v3), (4, .int v4), (5, .int v5), (6, .int v6), (7, .int v7)]) hx hb dX5_tellMissed_8 hl (by decide) rfl (fun ls hl => ?_)
  exact hB _ _ _ hP hS (lv_sub hl [3, 4, 5, 6, 7, 8, 9, 10, 2, 1, 0] rfl)
def wp_X5_field (v1 : Int32) (v2 : Int32) (v3 : Int32) (v4 : Int32) (v5 : Int32) (v6 : Int32) (v7 : Int32) (σ : cdS) (Q : Int32 → cdS → Prop) : Prop :=
  ∀ (P144 : cdS → Prop),
    (∀  (σ : cdS), (
    vp_in v1 4 ∧
    wp_X5_tellMissed (cdh (σ.1 3 (v1).toNatClampNeg)) v2 v3 v4 v5 v6 v7 σ (fun r_36 => 
    Q r_36 σ)) → P144 σ) →
    
    wp_X5_isKnown v1 σ (fun r_1 => 
    ((¬ r_1 = 0 →
    wp_X5_isSpacing v2 σ (fun r_4 => 
    ((r_4 = 0 →
    Q (-1000003 : Int32) σ) ∧
    (¬ (r_4 = 0) →
    wp_X5_isSpacing v3 σ (fun r_7 => 
    ((r_7 = 0 →
    Q (-1000003 : Int32) σ) ∧
    (¬ (r_7 = 0) →
    wp_X5_isWithin v4 (2 : Int32) (3 : Int32) σ (fun r_10 => 
    ((r_10 = 0 →
    Q (-1000003 : Int32) σ) ∧
    (¬ (r_10 = 0) →
    wp_X5_isWithin v5 (2 : Int32) (3 : Int32) σ (fun r_13 => 
    ((¬ r_13 = 0 →
    wp_X5_bitsOfField v4 v5 σ (fun r_16 => 
    ((¬ (v6 &&& (r_16 ^^^ (-1 : Int32))) = 0 →
    Q (-1000003 : Int32) σ) ∧
    ((v6 &&& (r_16 ^^^ (-1 : Int32))) = 0 →
    wp_X5_isWithin v7 (0 : Int32) (11 : Int32) σ (fun r_19 => 
    ((¬ r_19 = 0 →
    vp_in v1 4 ∧
    wp_X5_layField (cdh (σ.1 3 (v1).toNatClampNeg)) v2 v3 v4 v5 v6 σ (fun σ_24 => 
    ((v7 = (8 : Int32) →
    wp_X1_driestX σ_24 (fun r_26 => 
    Q r_26 σ_24)) ∧
    (¬ (v7 = (8 : Int32)) →
    ((v7 = (9 : Int32) →
    wp_X1_driestY σ_24 (fun r_29 => 
    Q r_29 σ_24)) ∧
    (¬ (v7 = (9 : Int32)) →
    ((v7 = (10 : Int32) →
    P144 σ_24) ∧
    (¬ (v7 = (10 : Int32)) →
    ((v7 = (11 : Int32) →
    P144 σ_24) ∧
    (¬ (v7 = (11 : Int32)) →
    wp_X1_tell v7 σ_24 (fun r_33 σ_34 => 
    Q r_33 σ_34))))))))))) ∧
    (r_19 = 0 →
    Q (-1000003 : Int32) σ))))))) ∧
    (r_13 = 0 →
    Q (-1000003 : Int32) σ))))))))))))) ∧
    (r_1 = 0 →
    Q (-1000002 : Int32) σ)))
set_option maxHeartbeats 4000000 in
set_option maxRecDepth 100000 in
theorem c_X5_field (l : Launch) (g : cdG) (v1 : Int32) (v2 : Int32) (v3 : Int32) (v4 : Int32) (v5 : Int32) (v6 : Int32) (v7 : Int32) (σ : cdS) (Q : Int32 → cdS → Prop) (hwp : wp_X5_field v1 v2 v3 v4 v5 v6 v7 σ Q) : cdCi l g yX5_field cX5_field 8 (some .int) 5 111 [.ref (cdA g 0), .int v1, .int v2, .int v3, .int v4, .int v5, .int v6, .int v7] σ Q := by
  intro sz
  refine Met.ofW (cc := cX5_field) (maxL := 8) (ret := (some .int)) (by decide) rfl ?_
  intro p e s m args below meth c s₁ B hml hv
  obtain ⟨rfl, hsz, hP, hK, hdi, hV⟩ := hv
  subst hsz
  have hx := B.exec
  have hb := B.bytes
  have hr := B.returns
  have hlocks := B.notSynchronized
  have hown : s.vm.findClass RX5 = some m.cls := findClass_of_methodNamed B.named
  have hts : ∀ w ∈ cdL, w.before _ s = true := fun w hw => atoms_spec (ws := cdWs yX5_field cX5_field 8 (some .int)) B.pre w (List.mem_cons_of_mem _ hw)
  have X : cdX p s m _ c cX5_field 8 RX5 g := ⟨hx, hb, hml, hown, hts, hK, hdi, hV⟩
  have hS : va_S (cdZ g s.heap.size) s.heap s.heap [] := va_S.rf
  have hl := lv_entry ([.ref (cdA g 0), .int v1, .int v2, .int v3, .int v4, .int v5, .int v6, .int v7]) (n := 8) (Nat.le_of_ble_eq_true rfl)
  rw [lg_entry_eq]
  generalize (lg_sl ([.ref (cdA g 0), .int v1, .int v2, .int v3, .int v4, .int v5, .int v6, .int v7]) ++ List.replicate (8 - (lg_sl ([.ref (cdA g 0), .int v1, .int v2, .int v3, .int v4, .int v5, .int v6, .int v7])).length) Slot.unset).toArray = ls at hl ⊢
  have hl : lv_has ls 8 [(0, .ref (cdA g 0)), (1, .int v1), (2, .int v2), (3, .int v3), (4, .int v4), (5, .int v5), (6, .int v6), (7, .int v7)] := hl
  obtain ⟨Qm, hQm⟩ : ∃ z, z = MQ below (va_Qi Q (fun σ' t => va_P (cdD g) vwCl (cdW g σ') t.heap) (cdZ g s.heap.size)) ([.ref (cdA g 0), .int v1, .int v2, .int v3, .int v4, .int v5, .int v6, .int v7] : List Value).toArray s 0 0 (cdZ g s.heap.size) := ⟨_, rfl⟩
  rw [← hQm]
  have hB := hwp (fun  (σ : cdS) => cdCut p l e (headSpec (cdWs yX5_field cX5_field 8 (some .int)) (cdRm 5 111)).room s m ([.ref (cdA g 0), .int v1, .int v2, .int v3, .int v4, .int v5, .int v6, .int v7] : List Value).toArray below meth c Qm g 8 144 [(0, .ref (cdA g 0)), (1, .int v1), (2, .int v2), (3, .int v3), (4, .int v4), (5, .int v5), (6, .int v6), (7, .int v7)] [] σ)
    (by
    intro  σ hB H locs ls hP hS hl
    refine lv_aload_n hx hb dX5_field_144 rfl (lv_at hl 0 rfl) ?_
    refine lv_aload_n hx hb dX5_field_145 rfl (lv_at hl 0 rfl) ?_
    refine cd_get X hP (C := RX5) (T := TX5) (N := 9) (ci := 5) (k := 0) (j := 1) (v := .ref (cdA g 3)) inX5 (by decide) rfl rfl (by decide) wf_X5_37 rfl rfl dX5_field_146 ?_
    refine lv_iload_n hx hb dX5_field_149 rfl (lv_at hl 1 rfl) ?_
    obtain ⟨i_35, hB⟩ := hB
    refine cd_hld X hP i_35 dX5_field_150 ?_
    refine lv_iload_n hx hb dX5_field_151 rfl (lv_at hl 2 rfl) ?_
    refine lv_iload_n hx hb dX5_field_152 rfl (lv_at hl 3 rfl) ?_
    refine lv_iload hx hb dX5_field_153 (lv_at hl 4 rfl) ?_
    refine lv_iload hx hb dX5_field_155 (lv_at hl 5 rfl) ?_
    refine lv_iload hx hb dX5_field_157 (lv_at hl 6 rfl) ?_
    refine lv_iload hx hb dX5_field_159 (lv_at hl 7 rfl) ?_
    refine cd_ci (cd_runV (As := [.ref (cdA g (9 + (cdh (σ.1 3 (v1).toNatClampNeg)))), .int v2, .int v3, .int v4, .int v5, .int v6, .int v7]) (rest := []) (σ := σ) (k := 0) (ci := 5) X wm_X5_145 (by decide) rfl rfl rfl (c_X5_tellMissed l g (cdh (σ.1 3 (v1).toNatClampNeg)) v2 v3 v4 v5 v6 v7 σ _ hB _) hP hS rfl rfl hl.1 (Nat.le_of_ble_eq_true rfl) ⟨Nat.le_of_ble_eq_true rfl, Nat.le_of_ble_eq_true rfl⟩ ⟨Nat.zero_le _, Nat.zero_le _⟩ dX5_field_161) hS (fun r_36 σ_37 H locs hB hP hS => ?_)
    obtain ⟨eσ_37, hB⟩ := hB
    rw [eσ_37] at hP
    rw [hQm]
    exact W.iret hx hb hr (fun t ht hW => ⟨⟨r_36, σ, rfl, hB, cd_hp ht hP⟩, hS.F ht⟩) hS.2.2 dX5_field_164)
  refine lv_aload_n hx hb dX5_field_0 rfl (lv_at hl 0 rfl) ?_
  refine lv_iload_n hx hb dX5_field_1 rfl (lv_at hl 1 rfl) ?_
  refine cd_ci (cd_runV (As := [.int v1]) (rest := []) (σ := σ) (k := 0) (ci := 5) X wm_X5_80 (by decide) rfl rfl rfl (c_X5_isKnown l g v1 σ _ hB _) hP hS rfl rfl hl.1 (Nat.le_of_ble_eq_true rfl) ⟨Nat.le_of_ble_eq_true rfl, Nat.le_of_ble_eq_true rfl⟩ ⟨Nat.zero_le _, Nat.zero_le _⟩ dX5_field_2) hS (fun r_1 σ_2 H locs hB hP hS => ?_)
  obtain ⟨eσ_2, hB⟩ := hB
  rw [eσ_2] at hP
  refine lv_if_ne (tgt := 11) hx hb dX5_field_5 (by decide) (fun c_3 => ?_) (fun c_3 => ?_)
  · have hB := hB.1 c_3
    refine lv_iload_n hx hb dX5_field_11 rfl (lv_at hl 2 rfl) ?_
    refine cd_ci (cd_runS (As := [.int v2]) (rest := []) (σ := σ) X wm_X5_120 (c_X5_isSpacing l g v2 σ _ hB _) hP hS rfl rfl hl.1 (Nat.le_of_ble_eq_true rfl) ⟨Nat.le_of_ble_eq_true rfl, Nat.le_of_ble_eq_true rfl⟩ ⟨Nat.zero_le _, Nat.zero_le _⟩ dX5_field_12) hS (fun r_4 σ_5 H locs hB hP hS => ?_)
    obtain ⟨eσ_5, hB⟩ := hB
    rw [eσ_5] at hP
    refine lv_if_eq (tgt := 45) hx hb dX5_field_15 (by decide) (fun c_6 => ?_) (fun c_6 => ?_)
    · have hB := hB.1 c_6
      refine lv_ldc (v := -1000003) hx hb hown (hts _ wc_X5_45) dX5_field_45 ?_
      rw [hQm]
      exact W.iret hx hb hr (fun t ht hW => ⟨⟨(-1000003 : Int32), σ, rfl, hB, cd_hp ht hP⟩, hS.F ht⟩) hS.2.2 dX5_field_47
    · have hB := hB.2 c_6
      refine lv_iload_n hx hb dX5_field_18 rfl (lv_at hl 3 rfl) ?_
      refine cd_ci (cd_runS (As := [.int v3]) (rest := []) (σ := σ) X wm_X5_120 (c_X5_isSpacing l g v3 σ _ hB _) hP hS rfl rfl hl.1 (Nat.le_of_ble_eq_true rfl) ⟨Nat.le_of_ble_eq_true rfl, Nat.le_of_ble_eq_true rfl⟩ ⟨Nat.zero_le _, Nat.zero_le _⟩ dX5_field_19) hS (fun r_7 σ_8 H locs hB hP hS => ?_)
      obtain ⟨eσ_8, hB⟩ := hB
      rw [eσ_8] at hP
      refine lv_if_eq (tgt := 45) hx hb dX5_field_22 (by decide) (fun c_9 => ?_) (fun c_9 => ?_)
      · have hB := hB.1 c_9
        refine lv_ldc (v := -1000003) hx hb hown (hts _ wc_X5_45) dX5_field_45 ?_
        rw [hQm]
        exact W.iret hx hb hr (fun t ht hW => ⟨⟨(-1000003 : Int32), σ, rfl, hB, cd_hp ht hP⟩, hS.F ht⟩) hS.2.2 dX5_field_47
      · have hB := hB.2 c_9
        refine lv_iload hx hb dX5_field_25 (lv_at hl 4 rfl) ?_
        refine lv_iconst (v := 2) hx hb dX5_field_27 (by decide) ?_
        refine lv_iconst (v := 3) hx hb dX5_field_28 (by decide) ?_
        refine cd_ci (cd_runS (As := [.int v4, .int (2 : Int32), .int (3 : Int32)]) (rest := []) (σ := σ) X wm_X5_41 (c_X5_isWithin l g v4 (2 : Int32) (3 : Int32) σ _ hB _) hP hS rfl rfl hl.1 (Nat.le_of_ble_eq_true rfl) ⟨Nat.le_of_ble_eq_true rfl, Nat.le_of_ble_eq_true rfl⟩ ⟨Nat.zero_le _, Nat.zero_le _⟩ dX5_field_29) hS (fun r_10 σ_11 H locs hB hP hS => ?_)
        obtain ⟨eσ_11, hB⟩ := hB
        rw [eσ_11] at hP
        refine lv_if_eq (tgt := 45) hx hb dX5_field_32 (by decide) (fun c_12 => ?_) (fun c_12 => ?_)
        · have hB := hB.1 c_12
          refine lv_ldc (v := -1000003) hx hb hown (hts _ wc_X5_45) dX5_field_45 ?_
          rw [hQm]
          exact W.iret hx hb hr (fun t ht hW => ⟨⟨(-1000003 : Int32), σ, rfl, hB, cd_hp ht hP⟩, hS.F ht⟩) hS.2.2 dX5_field_47
        · have hB := hB.2 c_12
          refine lv_iload hx hb dX5_field_35 (lv_at hl 5 rfl) ?_
          refine lv_iconst (v := 2) hx hb dX5_field_37 (by decide) ?_
          refine lv_iconst (v := 3) hx hb dX5_field_38 (by decide) ?_
          refine cd_ci (cd_runS (As := [.int v5, .int (2 : Int32), .int (3 : Int32)]) (rest := []) (σ := σ) X wm_X5_41 (c_X5_isWithin l g v5 (2 : Int32) (3 : Int32) σ _ hB _) hP hS rfl rfl hl.1 (Nat.le_of_ble_eq_true rfl) ⟨Nat.le_of_ble_eq_true rfl, Nat.le_of_ble_eq_true rfl⟩ ⟨Nat.zero_le _, Nat.zero_le _⟩ dX5_field_39) hS (fun r_13 σ_14 H locs hB hP hS => ?_)
          obtain ⟨eσ_14, hB⟩ := hB
          rw [eσ_14] at hP
          refine lv_if_ne (tgt := 48) hx hb dX5_field_42 (by decide) (fun c_15 => ?_) (fun c_15 => ?_)
          · have hB := hB.1 c_15
            refine lv_iload hx hb dX5_field_48 (lv_at hl 6 rfl) ?_
            refine lv_iload hx hb dX5_field_50 (lv_at hl 4 rfl) ?_
            refine lv_iload hx hb dX5_field_52 (lv_at hl 5 rfl) ?_
            refine cd_ci (cd_runS (As := [.int v4, .int v5]) (rest := [.int v6]) (σ := σ) X wm_X5_132 (c_X5_bitsOfField l g v4 v5 σ _ hB _) hP hS rfl rfl hl.1 (Nat.le_of_ble_eq_true rfl) ⟨Nat.le_of_ble_eq_true rfl, Nat.le_of_ble_eq_true rfl⟩ ⟨Nat.zero_le _, Nat.zero_le _⟩ dX5_field_54) hS (fun r_16 σ_17 H locs hB hP hS => ?_)
            obtain ⟨eσ_17, hB⟩ := hB
            rw [eσ_17] at hP
            refine lv_iconst (v := -1) hx hb dX5_field_57 (by decide) ?_
            refine lv_ixor hx hb dX5_field_58 ?_
            refine lv_iand hx hb dX5_field_59 ?_
            refine lv_if_ne (tgt := 74) hx hb dX5_field_60 (by decide) (fun c_18 => ?_) (fun c_18 => ?_)
            · have hB := hB.1 c_18
              refine lv_ldc (v := -1000003) hx hb hown (hts _ wc_X5_45) dX5_field_74 ?_
              rw [hQm]
              exact W.iret hx hb hr (fun t ht hW => ⟨⟨(-1000003 : Int32), σ, rfl, hB, cd_hp ht hP⟩, hS.F ht⟩) hS.2.2 dX5_field_76
            · have hB := hB.2 c_18
              refine lv_iload hx hb dX5_field_63 (lv_at hl 7 rfl) ?_
              refine lv_iconst (v := 0) hx hb dX5_field_65 (by decide) ?_
              refine lv_bipush (v := 11) hx hb dX5_field_66 (by decide) ?_
              refine cd_ci (cd_runS (As := [.int v7, .int (0 : Int32), .int (11 : Int32)]) (rest := []) (σ := σ) X wm_X5_41 (c_X5_isWithin l g v7 (0 : Int32) (11 : Int32) σ _ hB _) hP hS rfl rfl hl.1 (Nat.le_of_ble_eq_true rfl) ⟨Nat.le_of_ble_eq_true rfl, Nat.le_of_ble_eq_true rfl⟩ ⟨Nat.zero_le _, Nat.zero_le _⟩ dX5_field_68) hS (fun r_19 σ_20 H locs hB hP hS => ?_)
              obtain ⟨eσ_20, hB⟩ := hB
              rw [eσ_20] at hP
              refine lv_if_ne (tgt := 77) hx hb dX5_field_71 (by decide) (fun c_21 => ?_) (fun c_21 => ?_)
              · have hB := hB.1 c_21
                refine lv_aload_n hx hb dX5_field_77 rfl (lv_at hl 0 rfl) ?_
                refine lv_aload_n hx hb dX5_field_78 rfl (lv_at hl 0 rfl) ?_
                refine cd_get X hP (C := RX5) (T := TX5) (N := 9) (ci := 5) (k := 0) (j := 1) (v := .ref (cdA g 3)) inX5 (by decide) rfl rfl (by decide) wf_X5_37 rfl rfl dX5_field_79 ?_
                refine lv_iload_n hx hb dX5_field_82 rfl (lv_at hl 1 rfl) ?_
                obtain ⟨i_22, hB⟩ := hB
                refine cd_hld X hP i_22 dX5_field_83 ?_
                refine lv_iload_n hx hb dX5_field_84 rfl (lv_at hl 2 rfl) ?_
                refine lv_iload_n hx hb dX5_field_85 rfl (lv_at hl 3 rfl) ?_
                refine lv_iload hx hb dX5_field_86 (lv_at hl 4 rfl) ?_
                refine lv_iload hx hb dX5_field_88 (lv_at hl 5 rfl) ?_
                refine lv_iload hx hb dX5_field_90 (lv_at hl 6 rfl) ?_
                refine cd_cv (cd_runV (As := [.ref (cdA g (9 + (cdh (σ.1 3 (v1).toNatClampNeg)))), .int v2, .int v3, .int v4, .int v5, .int v6]) (rest := []) (σ := σ) (k := 0) (ci := 5) X wm_X5_135 (by decide) rfl rfl rfl (c_X5_layField l g (cdh (σ.1 3 (v1).toNatClampNeg)) v2 v3 v4 v5 v6 σ _ hB _) hP hS rfl rfl hl.1 (Nat.le_of_ble_eq_true rfl) ⟨Nat.le_of_ble_eq_true rfl, Nat.le_of_ble_eq_true rfl⟩ ⟨Nat.zero_le _, Nat.zero_le _⟩ dX5_field_92) hS (fun σ_24 H locs hB hP hS => ?_)
                refine lv_iload hx hb dX5_field_95 (lv_at hl 7 rfl) ?_
                by_cases c_25 : v7 = (8 : Int32)
                · have hB := hB.1 c_25
                  refine lv_tableIn (tgt := 128) hx hb dX5_field_97 (by rw [c_25]; decide) (by rw [c_25]; decide) (by rw [c_25]; rfl) (by decide) ?_
                  refine lv_aload_n hx hb dX5_field_128 rfl (lv_at hl 0 rfl) ?_
                  refine cd_get X hP (C := RX5) (T := TX5) (N := 9) (ci := 5) (k := 0) (j := 2) (v := .ref (cdA g 4)) inX5 (by decide) rfl rfl (by decide) wf_X5_19 rfl rfl dX5_field_129 ?_
                  refine cd_ci (cd_runV (As := []) (rest := []) (σ := σ_24) (k := 4) (ci := 1) X wm_X5_139 (by decide) rfl rfl rfl (c_X1_driestX l g  σ_24 _ hB _) hP hS rfl rfl hl.1 (Nat.le_of_ble_eq_true rfl) ⟨Nat.le_of_ble_eq_true rfl, Nat.le_of_ble_eq_true rfl⟩ ⟨Nat.zero_le _, Nat.zero_le _⟩ dX5_field_132) hS (fun r_26 σ_27 H locs hB hP hS => ?_)
                  obtain ⟨eσ_27, hB⟩ := hB
                  rw [eσ_27] at hP
                  rw [hQm]
                  exact W.iret hx hb hr (fun t ht hW => ⟨⟨r_26, σ_24, rfl, hB, cd_hp ht hP⟩, hS.F ht⟩) hS.2.2 dX5_field_135
                · have hB := hB.2 c_25
                  by_cases c_28 : v7 = (9 : Int32)
                  · have hB := hB.1 c_28
                    refine lv_tableIn (tgt := 136) hx hb dX5_field_97 (by rw [c_28]; decide) (by rw [c_28]; decide) (by rw [c_28]; rfl) (by decide) ?_
                    refine lv_aload_n hx hb dX5_field_136 rfl (lv_at hl 0 rfl) ?_
                    refine cd_get X hP (C := RX5) (T := TX5) (N := 9) (ci := 5) (k := 0) (j := 2) (v := .ref (cdA g 4)) inX5 (by decide) rfl rfl (by decide) wf_X5_19 rfl rfl dX5_field_137 ?_
                    refine cd_ci (cd_runV (As := []) (rest := []) (σ := σ_24) (k := 4) (ci := 1) X wm_X5_142 (by decide) rfl rfl rfl (c_X1_driestY l g  σ_24 _ hB _) hP hS rfl rfl hl.1 (Nat.le_of_ble_eq_true rfl) ⟨Nat.le_of_ble_eq_true rfl, Nat.le_of_ble_eq_true rfl⟩ ⟨Nat.zero_le _, Nat.zero_le _⟩ dX5_field_140) hS (fun r_29 σ_30 H locs hB hP hS => ?_)
                    obtain ⟨eσ_30, hB⟩ := hB
                    rw [eσ_30] at hP
                    rw [hQm]
                    exact W.iret hx hb hr (fun t ht hW => ⟨⟨r_29, σ_24, rfl, hB, cd_hp ht hP⟩, hS.F ht⟩) hS.2.2 dX5_field_143
                  · have hB := hB.2 c_28
                    by_cases c_31 : v7 = (10 : Int32)
                    · have hB := hB.1 c_31
                      refine lv_tableIn (tgt := 144) hx hb dX5_field_97 (by rw [c_31]; decide) (by rw [c_31]; decide) (by rw [c_31]; rfl) (by decide) ?_
                      exact hB _ _ _ hP hS (lv_sub hl [0, 1, 2, 3, 4, 5, 6, 7] rfl)
                    · have hB := hB.2 c_31
                      by_cases c_32 : v7 = (11 : Int32)
                      · have hB := hB.1 c_32
                        refine lv_tableIn (tgt := 144) hx hb dX5_field_97 (by rw [c_32]; decide) (by rw [c_32]; decide) (by rw [c_32]; rfl) (by decide) ?_
                        exact hB _ _ _ hP hS (lv_sub hl [0, 1, 2, 3, 4, 5, 6, 7] rfl)
                      · have hB := hB.2 c_32
                        have qc_25 := cd_ni (z := 8) (by decide) c_25
                        have qc_28 := cd_ni (z := 9) (by decide) c_28
                        have qc_31 := cd_ni (z := 10) (by decide) c_31
                        have qc_32 := cd_ni (z := 11) (by decide) c_32
                        refine lv_tableOut (tgt := 165) hx hb dX5_field_97 (by omega) (by decide) ?_
                        refine lv_aload_n hx hb dX5_field_165 rfl (lv_at hl 0 rfl) ?_
                        refine cd_get X hP (C := RX5) (T := TX5) (N := 9) (ci := 5) (k := 0) (j := 2) (v := .ref (cdA g 4)) inX5 (by decide) rfl rfl (by decide) wf_X5_19 rfl rfl dX5_field_166 ?_
                        refine lv_iload hx hb dX5_field_169 (lv_at hl 7 rfl) ?_
                        refine cd_ci (cd_runV (As := [.int v7]) (rest := []) (σ := σ_24) (k := 4) (ci := 1) X wm_X5_119 (by decide) rfl rfl rfl (c_X1_tell l g v7 σ_24 _ hB _) hP hS rfl rfl hl.1 (Nat.le_of_ble_eq_true rfl) ⟨Nat.le_of_ble_eq_true rfl, Nat.le_of_ble_eq_true rfl⟩ ⟨Nat.zero_le _, Nat.zero_le _⟩ dX5_field_171) hS (fun r_33 σ_34 H locs hB hP hS => ?_)
                        rw [hQm]
                        exact W.iret hx hb hr (fun t ht hW => ⟨⟨r_33, σ_34, rfl, hB, cd_hp ht hP⟩, hS.F ht⟩) hS.2.2 dX5_field_174
              · have hB := hB.2 c_21
                refine lv_ldc (v := -1000003) hx hb hown (hts _ wc_X5_45) dX5_field_74 ?_
                rw [hQm]
                exact W.iret hx hb hr (fun t ht hW => ⟨⟨(-1000003 : Int32), σ, rfl, hB, cd_hp ht hP⟩, hS.F ht⟩) hS.2.2 dX5_field_76
          · have hB := hB.2 c_15
            refine lv_ldc (v := -1000003) hx hb hown (hts _ wc_X5_45) dX5_field_45 ?_
            rw [hQm]
            exact W.iret hx hb hr (fun t ht hW => ⟨⟨(-1000003 : Int32), σ, rfl, hB, cd_hp ht hP⟩, hS.F ht⟩) hS.2.2 dX5_field_47
  · have hB := hB.2 c_3
    refine lv_ldc (v := -1000002) hx hb hown (hts _ wc_X5_83) dX5_field_8 ?_
    rw [hQm]
    exact W.iret hx hb hr (fun t ht hW => ⟨⟨(-1000002 : Int32), σ, rfl, hB, cd_hp ht hP⟩, hS.F ht⟩) hS.2.2 dX5_field_10
def wp_X5_isLaidOut (v0 : Int32) (v1 : Int32) (v2 : Int32) (σ : cdS) (Q : Int32 → Prop) : Prop :=
  
    wp_X5_isWithin v0 (0 : Int32) (1 : Int32) σ (fun r_1 => 
    ((r_1 = 0 →
    Q (0 : Int32)) ∧
    (¬ (r_1 = 0) →
    wp_X5_isSpacing v1 σ (fun r_4 => 
    ((r_4 = 0 →
    Q (0 : Int32)) ∧
    (¬ (r_4 = 0) →
    wp_X5_isSpacing v2 σ (fun r_7 => 
    ((r_7 = 0 →
    Q (0 : Int32)) ∧
    (¬ (r_7 = 0) →
    Q (1 : Int32))))))))))
set_option maxHeartbeats 4000000 in
set_option maxRecDepth 100000 in
theorem c_X5_isLaidOut (l : Launch) (g : cdG) (v0 : Int32) (v1 : Int32) (v2 : Int32) (σ : cdS) (Q : Int32 → Prop) (hwp : wp_X5_isLaidOut v0 v1 v2 σ Q) : cdCi l g yX5_isLaidOut cX5_isLaidOut 3 (some .boolean) 2 42 [.int v0, .int v1, .int v2] σ (fun r σ' => σ' = σ ∧ Q r) := by
  intro sz
  refine Met.ofW (cc := cX5_isLaidOut) (maxL := 3) (ret := (some .boolean)) (by decide) rfl ?_
  intro p e s m args below meth c s₁ B hml hv
  obtain ⟨rfl, hsz, hP, hK, hdi, hV⟩ := hv
  subst hsz
  have hx := B.exec
  have hb := B.bytes
  have hr := B.returns
  have hlocks := B.notSynchronized
  have hown : s.vm.findClass RX5 = some m.cls := findClass_of_methodNamed B.named
  have hts : ∀ w ∈ cdL, w.before _ s = true := fun w hw => atoms_spec (ws := cdWs yX5_isLaidOut cX5_isLaidOut 3 (some .boolean)) B.pre w (List.mem_cons_of_mem _ hw)
  have X : cdX p s m _ c cX5_isLaidOut 3 RX5 g := ⟨hx, hb, hml, hown, hts, hK, hdi, hV⟩
  have hS : va_S (cdZ g s.heap.size) s.heap s.heap [] := va_S.rf
  have hl := lv_entry ([.int v0, .int v1, .int v2]) (n := 3) (Nat.le_of_ble_eq_true rfl)
  rw [lg_entry_eq]
  generalize (lg_sl ([.int v0, .int v1, .int v2]) ++ List.replicate (3 - (lg_sl ([.int v0, .int v1, .int v2])).length) Slot.unset).toArray = ls at hl ⊢
  have hl : lv_has ls 3 [(0, .int v0), (1, .int v1), (2, .int v2)] := hl
  obtain ⟨Qm, hQm⟩ : ∃ z, z = MQ below (va_Qi (fun r σ' => σ' = σ ∧ Q r) (fun σ' t => va_P (cdD g) vwCl (cdW g σ') t.heap) (cdZ g s.heap.size)) ([.int v0, .int v1, .int v2] : List Value).toArray s 0 0 (cdZ g s.heap.size) := ⟨_, rfl⟩
  rw [← hQm]
  have hB := hwp
  refine lv_iload_n hx hb dX5_isLaidOut_0 rfl (lv_at hl 0 rfl) ?_
  refine lv_iconst (v := 0) hx hb dX5_isLaidOut_1 (by decide) ?_
  refine lv_iconst (v := 1) hx hb dX5_isLaidOut_2 (by decide) ?_
  refine cd_ci (cd_runS (As := [.int v0, .int (0 : Int32), .int (1 : Int32)]) (rest := []) (σ := σ) X wm_X5_41 (c_X5_isWithin l g v0 (0 : Int32) (1 : Int32) σ _ hB _) hP hS rfl rfl hl.1 (Nat.le_of_ble_eq_true rfl) ⟨Nat.le_of_ble_eq_true rfl, Nat.le_of_ble_eq_true rfl⟩ ⟨Nat.zero_le _, Nat.zero_le _⟩ dX5_isLaidOut_3) hS (fun r_1 σ_2 H locs hB hP hS => ?_)
  obtain ⟨eσ_2, hB⟩ := hB
  rw [eσ_2] at hP
  refine lv_if_eq (tgt := 27) hx hb dX5_isLaidOut_6 (by decide) (fun c_3 => ?_) (fun c_3 => ?_)
  · have hB := hB.1 c_3
    refine lv_iconst (v := 0) hx hb dX5_isLaidOut_27 (by decide) ?_
    rw [hQm]
    exact W.zret hx hb hr rfl (fun t ht hW => ⟨⟨(0 : Int32), σ, rfl, ⟨rfl, hB⟩, cd_hp ht hP⟩, hS.F ht⟩) hS.2.2 dX5_isLaidOut_28
  · have hB := hB.2 c_3
    refine lv_iload_n hx hb dX5_isLaidOut_9 rfl (lv_at hl 1 rfl) ?_
    refine cd_ci (cd_runS (As := [.int v1]) (rest := []) (σ := σ) X wm_X5_120 (c_X5_isSpacing l g v1 σ _ hB _) hP hS rfl rfl hl.1 (Nat.le_of_ble_eq_true rfl) ⟨Nat.le_of_ble_eq_true rfl, Nat.le_of_ble_eq_true rfl⟩ ⟨Nat.zero_le _, Nat.zero_le _⟩ dX5_isLaidOut_10) hS (fun r_4 σ_5 H locs hB hP hS => ?_)
    obtain ⟨eσ_5, hB⟩ := hB
    rw [eσ_5] at hP
    refine lv_if_eq (tgt := 27) hx hb dX5_isLaidOut_13 (by decide) (fun c_6 => ?_) (fun c_6 => ?_)
    · have hB := hB.1 c_6
      refine lv_iconst (v := 0) hx hb dX5_isLaidOut_27 (by decide) ?_
      rw [hQm]
      exact W.zret hx hb hr rfl (fun t ht hW => ⟨⟨(0 : Int32), σ, rfl, ⟨rfl, hB⟩, cd_hp ht hP⟩, hS.F ht⟩) hS.2.2 dX5_isLaidOut_28
    · have hB := hB.2 c_6
      refine lv_iload_n hx hb dX5_isLaidOut_16 rfl (lv_at hl 2 rfl) ?_
      refine cd_ci (cd_runS (As := [.int v2]) (rest := []) (σ := σ) X wm_X5_120 (c_X5_isSpacing l g v2 σ _ hB _) hP hS rfl rfl hl.1 (Nat.le_of_ble_eq_true rfl) ⟨Nat.le_of_ble_eq_true rfl, Nat.le_of_ble_eq_true rfl⟩ ⟨Nat.zero_le _, Nat.zero_le _⟩ dX5_isLaidOut_17) hS (fun r_7 σ_8 H locs hB hP hS => ?_)
      obtain ⟨eσ_8, hB⟩ := hB
      rw [eσ_8] at hP
      refine lv_if_eq (tgt := 27) hx hb dX5_isLaidOut_20 (by decide) (fun c_9 => ?_) (fun c_9 => ?_)
      · have hB := hB.1 c_9
        refine lv_iconst (v := 0) hx hb dX5_isLaidOut_27 (by decide) ?_
        rw [hQm]
        exact W.zret hx hb hr rfl (fun t ht hW => ⟨⟨(0 : Int32), σ, rfl, ⟨rfl, hB⟩, cd_hp ht hP⟩, hS.F ht⟩) hS.2.2 dX5_isLaidOut_28
      · have hB := hB.2 c_9
        refine lv_iconst (v := 1) hx hb dX5_isLaidOut_23 (by decide) ?_
        refine lv_goto (tgt := 28) hx hb dX5_isLaidOut_24 (by decide) ?_
        rw [hQm]
        exact W.zret hx hb hr rfl (fun t ht hW => ⟨⟨(1 : Int32), σ, rfl, ⟨rfl, hB⟩, cd_hp ht hP⟩, hS.F ht⟩) hS.2.2 dX5_isLaidOut_28
def wp_X5_ground (v1 : Int32) (v2 : Int32) (v3 : Int32) (v4 : Int32) (v5 : Int32) (v6 : Int32) (σ : cdS) (Q : Int32 → cdS → Prop) : Prop :=
  
    wp_X5_isKnown v1 σ (fun r_1 => 
    ((¬ r_1 = 0 →
    wp_X5_isLaidOut v2 v3 v4 σ (fun r_4 => 
    ((r_4 = 0 →
    Q (-1000003 : Int32) σ) ∧
    (¬ (r_4 = 0) →
    wp_X5_isWithin v5 (-50 : Int32) (50 : Int32) σ (fun r_7 => 
    ((r_7 = 0 →
    Q (-1000003 : Int32) σ) ∧
    (¬ (r_7 = 0) →
    wp_X5_isWithin v6 (-50 : Int32) (50 : Int32) σ (fun r_10 => 
    ((¬ r_10 = 0 →
    vp_in v1 4 ∧
    wp_X1_layTile (cdh (σ.1 3 (v1).toNatClampNeg)) v2 v3 v4 σ (fun σ_15 => 
    wp_X1_wrappedAt v5 v6 σ_15 (fun r_16 => 
    Q r_16 σ_15))) ∧
    (r_10 = 0 →
    Q (-1000003 : Int32) σ)))))))))) ∧
    (r_1 = 0 →
    Q (-1000002 : Int32) σ)))
set_option maxHeartbeats 4000000 in
set_option maxRecDepth 100000 in
theorem c_X5_ground (l : Launch) (g : cdG) (v1 : Int32) (v2 : Int32) (v3 : Int32) (v4 : Int32) (v5 : Int32) (v6 : Int32) (σ : cdS) (Q : Int32 → cdS → Prop) (hwp : wp_X5_ground v1 v2 v3 v4 v5 v6 σ Q) : cdCi l g yX5_ground cX5_ground 7 (some .int) 4 94 [.ref (cdA g 0), .int v1, .int v2, .int v3, .int v4, .int v5, .int v6] σ Q := by
  intro sz
  refine Met.ofW (cc := cX5_ground) (maxL := 7) (ret := (some .int)) (by decide) rfl ?_
  intro p e s m args below meth c s₁ B hml hv
  obtain ⟨rfl, hsz, hP, hK, hdi, hV⟩ := hv
  subst hsz
  have hx := B.exec
  have hb := B.bytes
  have hr := B.returns
  have hlocks := B.notSynchronized
  have hown : s.vm.findClass RX5 = some m.cls := findClass_of_methodNamed B.named
  have hts : ∀ w ∈ cdL, w.before _ s = true := fun w hw => atoms_spec (ws := cdWs yX5_ground cX5_ground 7 (some .int)) B.pre w (List.mem_cons_of_mem _ hw)
  have X : cdX p s m _ c cX5_ground 7 RX5 g := ⟨hx, hb, hml, hown, hts, hK, hdi, hV⟩
  have hS : va_S (cdZ g s.heap.size) s.heap s.heap [] := va_S.rf
  have hl := lv_entry ([.ref (cdA g 0), .int v1, .int v2, .int v3, .int v4, .int v5, .int v6]) (n := 7) (Nat.le_of_ble_eq_true rfl)
  rw [lg_entry_eq]
  generalize (lg_sl ([.ref (cdA g 0), .int v1, .int v2, .int v3, .int v4, .int v5, .int v6]) ++ List.replicate (7 - (lg_sl ([.ref (cdA g 0), .int v1, .int v2, .int v3, .int v4, .int v5, .int v6])).length) Slot.unset).toArray = ls at hl ⊢
  have hl : lv_has ls 7 [(0, .ref (cdA g 0)), (1, .int v1), (2, .int v2), (3, .int v3), (4, .int v4), (5, .int v5), (6, .int v6)] := hl
  obtain ⟨Qm, hQm⟩ : ∃ z, z = MQ below (va_Qi Q (fun σ' t => va_P (cdD g) vwCl (cdW g σ') t.heap) (cdZ g s.heap.size)) ([.ref (cdA g 0), .int v1, .int v2, .int v3, .int v4, .int v5, .int v6] : List Value).toArray s 0 0 (cdZ g s.heap.size) := ⟨_, rfl⟩
  rw [← hQm]
  have hB := hwp
  refine lv_aload_n hx hb dX5_ground_0 rfl (lv_at hl 0 rfl) ?_
  refine lv_iload_n hx hb dX5_ground_1 rfl (lv_at hl 1 rfl) ?_
  refine cd_ci (cd_runV (As := [.int v1]) (rest := []) (σ := σ) (k := 0) (ci := 5) X wm_X5_80 (by decide) rfl rfl rfl (c_X5_isKnown l g v1 σ _ hB _) hP hS rfl rfl hl.1 (Nat.le_of_ble_eq_true rfl) ⟨Nat.le_of_ble_eq_true rfl, Nat.le_of_ble_eq_true rfl⟩ ⟨Nat.zero_le _, Nat.zero_le _⟩ dX5_ground_2) hS (fun r_1 σ_2 H locs hB hP hS => ?_)
  obtain ⟨eσ_2, hB⟩ := hB
  rw [eσ_2] at hP
  refine lv_if_ne (tgt := 11) hx hb dX5_ground_5 (by decide) (fun c_3 => ?_) (fun c_3 => ?_)
  · have hB := hB.1 c_3
    refine lv_iload_n hx hb dX5_ground_11 rfl (lv_at hl 2 rfl) ?_
    refine lv_iload_n hx hb dX5_ground_12 rfl (lv_at hl 3 rfl) ?_
    refine lv_iload hx hb dX5_ground_13 (lv_at hl 4 rfl) ?_
    refine cd_ci (cd_runS (As := [.int v2, .int v3, .int v4]) (rest := []) (σ := σ) X wm_X5_109 (c_X5_isLaidOut l g v2 v3 v4 σ _ hB _) hP hS rfl rfl hl.1 (Nat.le_of_ble_eq_true rfl) ⟨Nat.le_of_ble_eq_true rfl, Nat.le_of_ble_eq_true rfl⟩ ⟨Nat.zero_le _, Nat.zero_le _⟩ dX5_ground_15) hS (fun r_4 σ_5 H locs hB hP hS => ?_)
    obtain ⟨eσ_5, hB⟩ := hB
    rw [eσ_5] at hP
    refine lv_if_eq (tgt := 45) hx hb dX5_ground_18 (by decide) (fun c_6 => ?_) (fun c_6 => ?_)
    · have hB := hB.1 c_6
      refine lv_ldc (v := -1000003) hx hb hown (hts _ wc_X5_45) dX5_ground_45 ?_
      rw [hQm]
      exact W.iret hx hb hr (fun t ht hW => ⟨⟨(-1000003 : Int32), σ, rfl, hB, cd_hp ht hP⟩, hS.F ht⟩) hS.2.2 dX5_ground_47
    · have hB := hB.2 c_6
      refine lv_iload hx hb dX5_ground_21 (lv_at hl 5 rfl) ?_
      refine lv_bipush (v := -50) hx hb dX5_ground_23 (by decide) ?_
      refine lv_bipush (v := 50) hx hb dX5_ground_25 (by decide) ?_
      refine cd_ci (cd_runS (As := [.int v5, .int (-50 : Int32), .int (50 : Int32)]) (rest := []) (σ := σ) X wm_X5_41 (c_X5_isWithin l g v5 (-50 : Int32) (50 : Int32) σ _ hB _) hP hS rfl rfl hl.1 (Nat.le_of_ble_eq_true rfl) ⟨Nat.le_of_ble_eq_true rfl, Nat.le_of_ble_eq_true rfl⟩ ⟨Nat.zero_le _, Nat.zero_le _⟩ dX5_ground_27) hS (fun r_7 σ_8 H locs hB hP hS => ?_)
      obtain ⟨eσ_8, hB⟩ := hB
      rw [eσ_8] at hP
      refine lv_if_eq (tgt := 45) hx hb dX5_ground_30 (by decide) (fun c_9 => ?_) (fun c_9 => ?_)
      · have hB := hB.1 c_9
        refine lv_ldc (v := -1000003) hx hb hown (hts _ wc_X5_45) dX5_ground_45 ?_
        rw [hQm]
        exact W.iret hx hb hr (fun t ht hW => ⟨⟨(-1000003 : Int32), σ, rfl, hB, cd_hp ht hP⟩, hS.F ht⟩) hS.2.2 dX5_ground_47
      · have hB := hB.2 c_9
        refine lv_iload hx hb dX5_ground_33 (lv_at hl 6 rfl) ?_
        refine lv_bipush (v := -50) hx hb dX5_ground_35 (by decide) ?_
        refine lv_bipush (v := 50) hx hb dX5_ground_37 (by decide) ?_
        refine cd_ci (cd_runS (As := [.int v6, .int (-50 : Int32), .int (50 : Int32)]) (rest := []) (σ := σ) X wm_X5_41 (c_X5_isWithin l g v6 (-50 : Int32) (50 : Int32) σ _ hB _) hP hS rfl rfl hl.1 (Nat.le_of_ble_eq_true rfl) ⟨Nat.le_of_ble_eq_true rfl, Nat.le_of_ble_eq_true rfl⟩ ⟨Nat.zero_le _, Nat.zero_le _⟩ dX5_ground_39) hS (fun r_10 σ_11 H locs hB hP hS => ?_)
        obtain ⟨eσ_11, hB⟩ := hB
        rw [eσ_11] at hP
        refine lv_if_ne (tgt := 48) hx hb dX5_ground_42 (by decide) (fun c_12 => ?_) (fun c_12 => ?_)
        · have hB := hB.1 c_12
          refine lv_aload_n hx hb dX5_ground_48 rfl (lv_at hl 0 rfl) ?_
          refine cd_get X hP (C := RX5) (T := TX5) (N := 9) (ci := 5) (k := 0) (j := 2) (v := .ref (cdA g 4)) inX5 (by decide) rfl rfl (by decide) wf_X5_19 rfl rfl dX5_ground_49 ?_
          refine lv_aload_n hx hb dX5_ground_52 rfl (lv_at hl 0 rfl) ?_
          refine cd_get X hP (C := RX5) (T := TX5) (N := 9) (ci := 5) (k := 0) (j := 1) (v := .ref (cdA g 3)) inX5 (by decide) rfl rfl (by decide) wf_X5_37 rfl rfl dX5_ground_53 ?_
          refine lv_iload_n hx hb dX5_ground_56 rfl (lv_at hl 1 rfl) ?_
          obtain ⟨i_13, hB⟩ := hB
          refine cd_hld X hP i_13 dX5_ground_57 ?_
          refine lv_iload_n hx hb dX5_ground_58 rfl (lv_at hl 2 rfl) ?_
          refine lv_iload_n hx hb dX5_ground_59 rfl (lv_at hl 3 rfl) ?_
          refine lv_iload hx hb dX5_ground_60 (lv_at hl 4 rfl) ?_
          refine cd_cv (cd_runV (As := [.ref (cdA g (9 + (cdh (σ.1 3 (v1).toNatClampNeg)))), .int v2, .int v3, .int v4]) (rest := []) (σ := σ) (k := 4) (ci := 1) X wm_X5_112 (by decide) rfl rfl rfl (c_X1_layTile l g (cdh (σ.1 3 (v1).toNatClampNeg)) v2 v3 v4 σ _ hB _) hP hS rfl rfl hl.1 (Nat.le_of_ble_eq_true rfl) ⟨Nat.le_of_ble_eq_true rfl, Nat.le_of_ble_eq_true rfl⟩ ⟨Nat.zero_le _, Nat.zero_le _⟩ dX5_ground_62) hS (fun σ_15 H locs hB hP hS => ?_)
          refine lv_aload_n hx hb dX5_ground_65 rfl (lv_at hl 0 rfl) ?_
          refine cd_get X hP (C := RX5) (T := TX5) (N := 9) (ci := 5) (k := 0) (j := 2) (v := .ref (cdA g 4)) inX5 (by decide) rfl rfl (by decide) wf_X5_19 rfl rfl dX5_ground_66 ?_
          refine lv_iload hx hb dX5_ground_69 (lv_at hl 5 rfl) ?_
          refine lv_iload hx hb dX5_ground_71 (lv_at hl 6 rfl) ?_
          refine cd_ci (cd_runV (As := [.int v5, .int v6]) (rest := []) (σ := σ_15) (k := 4) (ci := 1) X wm_X5_116 (by decide) rfl rfl rfl (c_X1_wrappedAt l g v5 v6 σ_15 _ hB _) hP hS rfl rfl hl.1 (Nat.le_of_ble_eq_true rfl) ⟨Nat.le_of_ble_eq_true rfl, Nat.le_of_ble_eq_true rfl⟩ ⟨Nat.zero_le _, Nat.zero_le _⟩ dX5_ground_73) hS (fun r_16 σ_17 H locs hB hP hS => ?_)
          obtain ⟨eσ_17, hB⟩ := hB
          rw [eσ_17] at hP
          rw [hQm]
          exact W.iret hx hb hr (fun t ht hW => ⟨⟨r_16, σ_15, rfl, hB, cd_hp ht hP⟩, hS.F ht⟩) hS.2.2 dX5_ground_76
        · have hB := hB.2 c_12
          refine lv_ldc (v := -1000003) hx hb hown (hts _ wc_X5_45) dX5_ground_45 ?_
          rw [hQm]
          exact W.iret hx hb hr (fun t ht hW => ⟨⟨(-1000003 : Int32), σ, rfl, hB, cd_hp ht hP⟩, hS.F ht⟩) hS.2.2 dX5_ground_47
  · have hB := hB.2 c_3
    refine lv_ldc (v := -1000002) hx hb hown (hts _ wc_X5_83) dX5_ground_8 ?_
    rw [hQm]
    exact W.iret hx hb hr (fun t ht hW => ⟨⟨(-1000002 : Int32), σ, rfl, hB, cd_hp ht hP⟩, hS.F ht⟩) hS.2.2 dX5_ground_10
def wp_X5_head (v1 : Int32) (v2 : Int32) (σ : cdS) (Q : Int32 → Prop) : Prop :=
  
    wp_X5_isKnown v1 σ (fun r_1 => 
    ((¬ r_1 = 0 →
    wp_X5_isWithin v2 (0 : Int32) (4 : Int32) σ (fun r_4 => 
    ((r_4 = 0 →
    Q (-1000003 : Int32)) ∧
    (¬ (r_4 = 0) →
    vp_in v1 4 ∧
    (cdh (σ.1 3 (v1).toNatClampNeg)) < 5 ∧ wp_X2_tell (cdh (σ.1 3 (v1).toNatClampNeg)) v2 σ (fun r_9 => 
    Q r_9))))) ∧
    (r_1 = 0 →
    Q (-1000002 : Int32))))
set_option maxHeartbeats 4000000 in
set_option maxRecDepth 100000 in
theorem c_X5_head (l : Launch) (g : cdG) (v1 : Int32) (v2 : Int32) (σ : cdS) (Q : Int32 → Prop) (hwp : wp_X5_head v1 v2 σ Q) : cdCi l g yX5_head cX5_head 3 (some .int) 5 113 [.ref (cdA g 0), .int v1, .int v2] σ (fun r σ' => σ' = σ ∧ Q r) := by
  intro sz
  refine Met.ofW (cc := cX5_head) (maxL := 3) (ret := (some .int)) (by decide) rfl ?_
  intro p e s m args below meth c s₁ B hml hv
  obtain ⟨rfl, hsz, hP, hK, hdi, hV⟩ := hv
  subst hsz
  have hx := B.exec
  have hb := B.bytes
  have hr := B.returns
  have hlocks := B.notSynchronized
  have hown : s.vm.findClass RX5 = some m.cls := findClass_of_methodNamed B.named
  have hts : ∀ w ∈ cdL, w.before _ s = true := fun w hw => atoms_spec (ws := cdWs yX5_head cX5_head 3 (some .int)) B.pre w (List.mem_cons_of_mem _ hw)
  have X : cdX p s m _ c cX5_head 3 RX5 g := ⟨hx, hb, hml, hown, hts, hK, hdi, hV⟩
  have hS : va_S (cdZ g s.heap.size) s.heap s.heap [] := va_S.rf
  have hl := lv_entry ([.ref (cdA g 0), .int v1, .int v2]) (n := 3) (Nat.le_of_ble_eq_true rfl)
  rw [lg_entry_eq]
  generalize (lg_sl ([.ref (cdA g 0), .int v1, .int v2]) ++ List.replicate (3 - (lg_sl ([.ref (cdA g 0), .int v1, .int v2])).length) Slot.unset).toArray = ls at hl ⊢
  have hl : lv_has ls 3 [(0, .ref (cdA g 0)), (1, .int v1), (2, .int v2)] := hl
  obtain ⟨Qm, hQm⟩ : ∃ z, z = MQ below (va_Qi (fun r σ' => σ' = σ ∧ Q r) (fun σ' t => va_P (cdD g) vwCl (cdW g σ') t.heap) (cdZ g s.heap.size)) ([.ref (cdA g 0), .int v1, .int v2] : List Value).toArray s 0 0 (cdZ g s.heap.size) := ⟨_, rfl⟩
  rw [← hQm]
  have hB := hwp
  refine lv_aload_n hx hb dX5_head_0 rfl (lv_at hl 0 rfl) ?_
  refine lv_iload_n hx hb dX5_head_1 rfl (lv_at hl 1 rfl) ?_
  refine cd_ci (cd_runV (As := [.int v1]) (rest := []) (σ := σ) (k := 0) (ci := 5) X wm_X5_80 (by decide) rfl rfl rfl (c_X5_isKnown l g v1 σ _ hB _) hP hS rfl rfl hl.1 (Nat.le_of_ble_eq_true rfl) ⟨Nat.le_of_ble_eq_true rfl, Nat.le_of_ble_eq_true rfl⟩ ⟨Nat.zero_le _, Nat.zero_le _⟩ dX5_head_2) hS (fun r_1 σ_2 H locs hB hP hS => ?_)
  obtain ⟨eσ_2, hB⟩ := hB
  rw [eσ_2] at hP
  refine lv_if_ne (tgt := 11) hx hb dX5_head_5 (by decide) (fun c_3 => ?_) (fun c_3 => ?_)
  · have hB := hB.1 c_3
    refine lv_iload_n hx hb dX5_head_11 rfl (lv_at hl 2 rfl) ?_
    refine lv_iconst (v := 0) hx hb dX5_head_12 (by decide) ?_
    refine lv_iconst (v := 4) hx hb dX5_head_13 (by decide) ?_
    refine cd_ci (cd_runS (As := [.int v2, .int (0 : Int32), .int (4 : Int32)]) (rest := []) (σ := σ) X wm_X5_41 (c_X5_isWithin l g v2 (0 : Int32) (4 : Int32) σ _ hB _) hP hS rfl rfl hl.1 (Nat.le_of_ble_eq_true rfl) ⟨Nat.le_of_ble_eq_true rfl, Nat.le_of_ble_eq_true rfl⟩ ⟨Nat.zero_le _, Nat.zero_le _⟩ dX5_head_14) hS (fun r_4 σ_5 H locs hB hP hS => ?_)
    obtain ⟨eσ_5, hB⟩ := hB
    rw [eσ_5] at hP
    refine lv_if_eq (tgt := 33) hx hb dX5_head_17 (by decide) (fun c_6 => ?_) (fun c_6 => ?_)
    · have hB := hB.1 c_6
      refine lv_ldc (v := -1000003) hx hb hown (hts _ wc_X5_45) dX5_head_33 ?_
      rw [hQm]
      exact W.iret hx hb hr (fun t ht hW => ⟨⟨(-1000003 : Int32), σ, rfl, ⟨rfl, hB⟩, cd_hp ht hP⟩, hS.F ht⟩) hS.2.2 dX5_head_35
    · have hB := hB.2 c_6
      refine lv_aload_n hx hb dX5_head_20 rfl (lv_at hl 0 rfl) ?_
      refine cd_get X hP (C := RX5) (T := TX5) (N := 9) (ci := 5) (k := 0) (j := 1) (v := .ref (cdA g 3)) inX5 (by decide) rfl rfl (by decide) wf_X5_37 rfl rfl dX5_head_21 ?_
      refine lv_iload_n hx hb dX5_head_24 rfl (lv_at hl 1 rfl) ?_
      obtain ⟨i_7, hB⟩ := hB
      refine cd_hld X hP i_7 dX5_head_25 ?_
      refine lv_iload_n hx hb dX5_head_26 rfl (lv_at hl 2 rfl) ?_
      obtain ⟨k_8, hB⟩ := hB
      refine cd_ci (cd_runV (As := [.int v2]) (rest := []) (σ := σ) (k := 9 + (cdh (σ.1 3 (v1).toNatClampNeg))) (ci := 2) X wm_X5_101 (show 9 + (cdh (σ.1 3 (v1).toNatClampNeg)) < 24 by omega) (cdE_head g σ k_8) rfl rfl (c_X2_tell l g (cdh (σ.1 3 (v1).toNatClampNeg)) v2 σ _ hB _) hP hS rfl rfl hl.1 (Nat.le_of_ble_eq_true rfl) ⟨Nat.le_of_ble_eq_true rfl, Nat.le_of_ble_eq_true rfl⟩ ⟨Nat.zero_le _, Nat.zero_le _⟩ dX5_head_27) hS (fun r_9 σ_10 H locs hB hP hS => ?_)
      obtain ⟨eσ_10, hB⟩ := hB
      rw [eσ_10] at hP
      refine lv_goto (tgt := 35) hx hb dX5_head_30 (by decide) ?_
      rw [hQm]
      exact W.iret hx hb hr (fun t ht hW => ⟨⟨r_9, σ, rfl, ⟨rfl, hB⟩, cd_hp ht hP⟩, hS.F ht⟩) hS.2.2 dX5_head_35
  · have hB := hB.2 c_3
    refine lv_ldc (v := -1000002) hx hb hown (hts _ wc_X5_83) dX5_head_8 ?_
    rw [hQm]
    exact W.iret hx hb hr (fun t ht hW => ⟨⟨(-1000002 : Int32), σ, rfl, ⟨rfl, hB⟩, cd_hp ht hP⟩, hS.F ht⟩) hS.2.2 dX5_head_10
def wp_X5_isCrowded  (σ : cdS) (Q : Int32 → Prop) : Prop :=
  
    (((σ.1 0 5) < (4 : Int32) →
    Q (0 : Int32)) ∧
    (¬ ((σ.1 0 5) < (4 : Int32)) →
    Q (1 : Int32)))
set_option maxHeartbeats 4000000 in
set_option maxRecDepth 100000 in
theorem c_X5_isCrowded (l : Launch) (g : cdG)  (σ : cdS) (Q : Int32 → Prop) (hwp : wp_X5_isCrowded  σ Q) : cdCi l g yX5_isCrowded cX5_isCrowded 1 (some .boolean) 0 0 [.ref (cdA g 0)] σ (fun r σ' => σ' = σ ∧ Q r) := by
  intro sz
  refine Met.ofW (cc := cX5_isCrowded) (maxL := 1) (ret := (some .boolean)) (by decide) rfl ?_
  intro p e s m args below meth c s₁ B hml hv
  obtain ⟨rfl, hsz, hP, hK, hdi, hV⟩ := hv
  subst hsz
  have hx := B.exec
  have hb := B.bytes
  have hr := B.returns
  have hlocks := B.notSynchronized
  have hown : s.vm.findClass RX5 = some m.cls := findClass_of_methodNamed B.named
  have hts : ∀ w ∈ cdL, w.before _ s = true := fun w hw => atoms_spec (ws := cdWs yX5_isCrowded cX5_isCrowded 1 (some .boolean)) B.pre w (List.mem_cons_of_mem _ hw)
  have X : cdX p s m _ c cX5_isCrowded 1 RX5 g := ⟨hx, hb, hml, hown, hts, hK, hdi, hV⟩
  have hS : va_S (cdZ g s.heap.size) s.heap s.heap [] := va_S.rf
  have hl := lv_entry ([.ref (cdA g 0)]) (n := 1) (Nat.le_of_ble_eq_true rfl)
  rw [lg_entry_eq]
  generalize (lg_sl ([.ref (cdA g 0)]) ++ List.replicate (1 - (lg_sl ([.ref (cdA g 0)])).length) Slot.unset).toArray = ls at hl ⊢
  have hl : lv_has ls 1 [(0, .ref (cdA g 0))] := hl
  obtain ⟨Qm, hQm⟩ : ∃ z, z = MQ below (va_Qi (fun r σ' => σ' = σ ∧ Q r) (fun σ' t => va_P (cdD g) vwCl (cdW g σ') t.heap) (cdZ g s.heap.size)) ([.ref (cdA g 0)] : List Value).toArray s 0 0 (cdZ g s.heap.size) := ⟨_, rfl⟩
  rw [← hQm]
  have hB := hwp
  refine lv_aload_n hx hb dX5_isCrowded_0 rfl (lv_at hl 0 rfl) ?_
  refine cd_get X hP (C := RX5) (T := TX5) (N := 9) (ci := 5) (k := 0) (j := 5) (v := .int (σ.1 0 5)) inX5 (by decide) rfl rfl (by decide) wf_X5_69 rfl rfl dX5_isCrowded_1 ?_
  refine lv_iconst (v := 4) hx hb dX5_isCrowded_4 (by decide) ?_
  refine lv_icmp_lt (tgt := 12) hx hb dX5_isCrowded_5 (by decide) (fun c_1 => ?_) (fun c_1 => ?_)
  · have hB := hB.1 c_1
    refine lv_iconst (v := 0) hx hb dX5_isCrowded_12 (by decide) ?_
    rw [hQm]
    exact W.zret hx hb hr rfl (fun t ht hW => ⟨⟨(0 : Int32), σ, rfl, ⟨rfl, hB⟩, cd_hp ht hP⟩, hS.F ht⟩) hS.2.2 dX5_isCrowded_13
  · have hB := hB.2 c_1
    refine lv_iconst (v := 1) hx hb dX5_isCrowded_8 (by decide) ?_
    refine lv_goto (tgt := 13) hx hb dX5_isCrowded_9 (by decide) ?_
    rw [hQm]
    exact W.zret hx hb hr rfl (fun t ht hW => ⟨⟨(1 : Int32), σ, rfl, ⟨rfl, hB⟩, cd_hp ht hP⟩, hS.F ht⟩) hS.2.2 dX5_isCrowded_13
def wp_X5_letter (v1 : Int32) (σ : cdS) (Q : Int32 → cdS → Prop) : Prop :=
  
    wp_X5_isWithin v1 (32 : Int32) (126 : Int32) σ (fun r_1 => 
    ((¬ r_1 = 0 →
    wp_X3_append v1 σ (fun r_4 σ_5 => 
    ((r_4 = 0 →
    Q (-1000005 : Int32) σ_5) ∧
    (¬ (r_4 = 0) →
    wp_X3_length σ_5 (fun r_7 => 
    Q r_7 σ_5))))) ∧
    (r_1 = 0 →
    Q (-1000003 : Int32) σ)))
set_option maxHeartbeats 4000000 in
set_option maxRecDepth 100000 in
theorem c_X5_letter (l : Launch) (g : cdG) (v1 : Int32) (σ : cdS) (Q : Int32 → cdS → Prop) (hwp : wp_X5_letter v1 σ Q) : cdCi l g yX5_letter cX5_letter 2 (some .int) 1 22 [.ref (cdA g 0), .int v1] σ Q := by
  intro sz
  refine Met.ofW (cc := cX5_letter) (maxL := 2) (ret := (some .int)) (by decide) rfl ?_
  intro p e s m args below meth c s₁ B hml hv
  obtain ⟨rfl, hsz, hP, hK, hdi, hV⟩ := hv
  subst hsz
  have hx := B.exec
  have hb := B.bytes
  have hr := B.returns
  have hlocks := B.notSynchronized
  have hown : s.vm.findClass RX5 = some m.cls := findClass_of_methodNamed B.named
  have hts : ∀ w ∈ cdL, w.before _ s = true := fun w hw => atoms_spec (ws := cdWs yX5_letter cX5_letter 2 (some .int)) B.pre w (List.mem_cons_of_mem _ hw)
  have X : cdX p s m _ c cX5_letter 2 RX5 g := ⟨hx, hb, hml, hown, hts, hK, hdi, hV⟩
  have hS : va_S (cdZ g s.heap.size) s.heap s.heap [] := va_S.rf
  have hl := lv_entry ([.ref (cdA g 0), .int v1]) (n := 2) (Nat.le_of_ble_eq_true rfl)
  rw [lg_entry_eq]
  generalize (lg_sl ([.ref (cdA g 0), .int v1]) ++ List.replicate (2 - (lg_sl ([.ref (cdA g 0), .int v1])).length) Slot.unset).toArray = ls at hl ⊢
  have hl : lv_has ls 2 [(0, .ref (cdA g 0)), (1, .int v1)] := hl
  obtain ⟨Qm, hQm⟩ : ∃ z, z = MQ below (va_Qi Q (fun σ' t => va_P (cdD g) vwCl (cdW g σ') t.heap) (cdZ g s.heap.size)) ([.ref (cdA g 0), .int v1] : List Value).toArray s 0 0 (cdZ g s.heap.size) := ⟨_, rfl⟩
  rw [← hQm]
  have hB := hwp
  refine lv_iload_n hx hb dX5_letter_0 rfl (lv_at hl 1 rfl) ?_
  refine lv_bipush (v := 32) hx hb dX5_letter_1 (by decide) ?_
  refine lv_bipush (v := 126) hx hb dX5_letter_3 (by decide) ?_
  refine cd_ci (cd_runS (As := [.int v1, .int (32 : Int32), .int (126 : Int32)]) (rest := []) (σ := σ) X wm_X5_41 (c_X5_isWithin l g v1 (32 : Int32) (126 : Int32) σ _ hB _) hP hS rfl rfl hl.1 (Nat.le_of_ble_eq_true rfl) ⟨Nat.le_of_ble_eq_true rfl, Nat.le_of_ble_eq_true rfl⟩ ⟨Nat.zero_le _, Nat.zero_le _⟩ dX5_letter_5) hS (fun r_1 σ_2 H locs hB hP hS => ?_)
  obtain ⟨eσ_2, hB⟩ := hB
  rw [eσ_2] at hP
  refine lv_if_ne (tgt := 14) hx hb dX5_letter_8 (by decide) (fun c_3 => ?_) (fun c_3 => ?_)
  · have hB := hB.1 c_3
    refine lv_aload_n hx hb dX5_letter_14 rfl (lv_at hl 0 rfl) ?_
    refine cd_get X hP (C := RX5) (T := TX5) (N := 9) (ci := 5) (k := 0) (j := 0) (v := .ref (cdA g 1)) inX5 (by decide) rfl rfl (by decide) wf_X5_10 rfl rfl dX5_letter_15 ?_
    refine lv_iload_n hx hb dX5_letter_18 rfl (lv_at hl 1 rfl) ?_
    refine cd_ci (cd_runV (As := [.int v1]) (rest := []) (σ := σ) (k := 1) (ci := 3) X wm_X5_46 (by decide) rfl rfl rfl (c_X3_append l g v1 σ _ hB _) hP hS rfl rfl hl.1 (Nat.le_of_ble_eq_true rfl) ⟨Nat.le_of_ble_eq_true rfl, Nat.le_of_ble_eq_true rfl⟩ ⟨Nat.zero_le _, Nat.zero_le _⟩ dX5_letter_19) hS (fun r_4 σ_5 H locs hB hP hS => ?_)
    refine lv_if_eq (tgt := 35) hx hb dX5_letter_22 (by decide) (fun c_6 => ?_) (fun c_6 => ?_)
    · have hB := hB.1 c_6
      refine lv_ldc (v := -1000005) hx hb hown (hts _ wc_X5_54) dX5_letter_35 ?_
      rw [hQm]
      exact W.iret hx hb hr (fun t ht hW => ⟨⟨(-1000005 : Int32), σ_5, rfl, hB, cd_hp ht hP⟩, hS.F ht⟩) hS.2.2 dX5_letter_37
    · have hB := hB.2 c_6
      refine lv_aload_n hx hb dX5_letter_25 rfl (lv_at hl 0 rfl) ?_
      refine cd_get X hP (C := RX5) (T := TX5) (N := 9) (ci := 5) (k := 0) (j := 0) (v := .ref (cdA g 1)) inX5 (by decide) rfl rfl (by decide) wf_X5_10 rfl rfl dX5_letter_26 ?_
      refine cd_ci (cd_runV (As := []) (rest := []) (σ := σ_5) (k := 1) (ci := 3) X wm_X5_50 (by decide) rfl rfl rfl (c_X3_length l g  σ_5 _ hB _) hP hS rfl rfl hl.1 (Nat.le_of_ble_eq_true rfl) ⟨Nat.le_of_ble_eq_true rfl, Nat.le_of_ble_eq_true rfl⟩ ⟨Nat.zero_le _, Nat.zero_le _⟩ dX5_letter_29) hS (fun r_7 σ_8 H locs hB hP hS => ?_)
      obtain ⟨eσ_8, hB⟩ := hB
      rw [eσ_8] at hP
      refine lv_goto (tgt := 37) hx hb dX5_letter_32 (by decide) ?_
      rw [hQm]
      exact W.iret hx hb hr (fun t ht hW => ⟨⟨r_7, σ_5, rfl, hB, cd_hp ht hP⟩, hS.F ht⟩) hS.2.2 dX5_letter_37
  · have hB := hB.2 c_3
    refine lv_ldc (v := -1000003) hx hb hown (hts _ wc_X5_45) dX5_letter_11 ?_
    rw [hQm]
    exact W.iret hx hb hr (fun t ht hW => ⟨⟨(-1000003 : Int32), σ, rfl, hB, cd_hp ht hP⟩, hS.F ht⟩) hS.2.2 dX5_letter_13
def wp_X5_take  (σ : cdS) (Q : Int32 → cdS → Prop) : Prop :=
  
    wp_X3_sideOfHead σ (fun r_1 => 
    ((¬ r_1 = 0 →
    wp_X5_isCrowded σ (fun r_4 => 
    ((r_4 = 0 →
    vp_in (σ.1 0 5) 4 ∧
    (cdh (σ.1 3 ((σ.1 0 5)).toNatClampNeg)) < 5 ∧ wp_X2_read (cdh (σ.1 3 ((σ.1 0 5)).toNatClampNeg)) r_1 σ (fun σ_10 => 
    wp_X3_clear σ_10 (fun σ_12 => 
    ∀ σ_13 : cdS, σ_13 = cdU σ_12 0 6 ((σ_12.1 0 6) + (1 : Int32)) →
    ∀ σ_14 : cdS, σ_14 = cdU σ_13 0 5 ((σ_13.1 0 5) + (1 : Int32)) →
    Q (σ_13.1 0 5) σ_14))) ∧
    (¬ (r_4 = 0) →
    Q (-1000005 : Int32) σ)))) ∧
    (r_1 = 0 →
    Q (-1000004 : Int32) σ)))
set_option maxHeartbeats 4000000 in
set_option maxRecDepth 100000 in
theorem c_X5_take (l : Launch) (g : cdG)  (σ : cdS) (Q : Int32 → cdS → Prop) (hwp : wp_X5_take  σ Q) : cdCi l g yX5_take cX5_take 2 (some .int) 3 70 [.ref (cdA g 0)] σ Q := by
  intro sz
  refine Met.ofW (cc := cX5_take) (maxL := 2) (ret := (some .int)) (by decide) rfl ?_
  intro p e s m args below meth c s₁ B hml hv
  obtain ⟨rfl, hsz, hP, hK, hdi, hV⟩ := hv
  subst hsz
  have hx := B.exec
  have hb := B.bytes
  have hr := B.returns
  have hlocks := B.notSynchronized
  have hown : s.vm.findClass RX5 = some m.cls := findClass_of_methodNamed B.named
  have hts : ∀ w ∈ cdL, w.before _ s = true := fun w hw => atoms_spec (ws := cdWs yX5_take cX5_take 2 (some .int)) B.pre w (List.mem_cons_of_mem _ hw)
  have X : cdX p s m _ c cX5_take 2 RX5 g := ⟨hx, hb, hml, hown, hts, hK, hdi, hV⟩
  have hS : va_S (cdZ g s.heap.size) s.heap s.heap [] := va_S.rf
  have hl := lv_entry ([.ref (cdA g 0)]) (n := 2) (Nat.le_of_ble_eq_true rfl)
  rw [lg_entry_eq]
  generalize (lg_sl ([.ref (cdA g 0)]) ++ List.replicate (2 - (lg_sl ([.ref (cdA g 0)])).length) Slot.unset).toArray = ls at hl ⊢
  have hl : lv_has ls 2 [(0, .ref (cdA g 0))] := hl
  obtain ⟨Qm, hQm⟩ : ∃ z, z = MQ below (va_Qi Q (fun σ' t => va_P (cdD g) vwCl (cdW g σ') t.heap) (cdZ g s.heap.size)) ([.ref (cdA g 0)] : List Value).toArray s 0 0 (cdZ g s.heap.size) := ⟨_, rfl⟩
  rw [← hQm]
  have hB := hwp
  refine lv_aload_n hx hb dX5_take_0 rfl (lv_at hl 0 rfl) ?_
  refine cd_get X hP (C := RX5) (T := TX5) (N := 9) (ci := 5) (k := 0) (j := 0) (v := .ref (cdA g 1)) inX5 (by decide) rfl rfl (by decide) wf_X5_10 rfl rfl dX5_take_1 ?_
  refine cd_ci (cd_runV (As := []) (rest := []) (σ := σ) (k := 1) (ci := 3) X wm_X5_61 (by decide) rfl rfl rfl (c_X3_sideOfHead l g  σ _ hB _) hP hS rfl rfl hl.1 (Nat.le_of_ble_eq_true rfl) ⟨Nat.le_of_ble_eq_true rfl, Nat.le_of_ble_eq_true rfl⟩ ⟨Nat.zero_le _, Nat.zero_le _⟩ dX5_take_4) hS (fun r_1 σ_2 H locs hB hP hS => ?_)
  obtain ⟨eσ_2, hB⟩ := hB
  rw [eσ_2] at hP
  refine lv_istore_n (lv' := [(1, .int r_1), (0, .ref (cdA g 0))]) hx hb dX5_take_7 rfl hl (by decide) rfl (fun ls hl => ?_)
  refine lv_iload_n hx hb dX5_take_8 rfl (lv_at hl 0 rfl) ?_
  refine lv_if_ne (tgt := 15) hx hb dX5_take_9 (by decide) (fun c_3 => ?_) (fun c_3 => ?_)
  · have hB := hB.1 c_3
    refine lv_aload_n hx hb dX5_take_15 rfl (lv_at hl 1 rfl) ?_
    refine cd_ci (cd_runV (As := []) (rest := []) (σ := σ) (k := 0) (ci := 5) X wm_X5_65 (by decide) rfl rfl rfl (c_X5_isCrowded l g  σ _ hB _) hP hS rfl rfl hl.1 (Nat.le_of_ble_eq_true rfl) ⟨Nat.le_of_ble_eq_true rfl, Nat.le_of_ble_eq_true rfl⟩ ⟨Nat.zero_le _, Nat.zero_le _⟩ dX5_take_16) hS (fun r_4 σ_5 H locs hB hP hS => ?_)
    obtain ⟨eσ_5, hB⟩ := hB
    rw [eσ_5] at hP
    refine lv_if_eq (tgt := 25) hx hb dX5_take_19 (by decide) (fun c_6 => ?_) (fun c_6 => ?_)
    · have hB := hB.1 c_6
      refine lv_aload_n hx hb dX5_take_25 rfl (lv_at hl 1 rfl) ?_
      refine cd_get X hP (C := RX5) (T := TX5) (N := 9) (ci := 5) (k := 0) (j := 1) (v := .ref (cdA g 3)) inX5 (by decide) rfl rfl (by decide) wf_X5_37 rfl rfl dX5_take_26 ?_
      refine lv_aload_n hx hb dX5_take_29 rfl (lv_at hl 1 rfl) ?_
      refine cd_get X hP (C := RX5) (T := TX5) (N := 9) (ci := 5) (k := 0) (j := 5) (v := .int (σ.1 0 5)) inX5 (by decide) rfl rfl (by decide) wf_X5_69 rfl rfl dX5_take_30 ?_
      obtain ⟨i_7, hB⟩ := hB
      refine cd_hld X hP i_7 dX5_take_33 ?_
      refine lv_aload_n hx hb dX5_take_34 rfl (lv_at hl 1 rfl) ?_
      refine cd_get X hP (C := RX5) (T := TX5) (N := 9) (ci := 5) (k := 0) (j := 0) (v := .ref (cdA g 1)) inX5 (by decide) rfl rfl (by decide) wf_X5_10 rfl rfl dX5_take_35 ?_
      refine lv_iload_n hx hb dX5_take_38 rfl (lv_at hl 0 rfl) ?_
      obtain ⟨k_8, hB⟩ := hB
      refine cd_cv (cd_runV (As := [.ref (cdA g 1), .int r_1]) (rest := []) (σ := σ) (k := 9 + (cdh (σ.1 3 ((σ.1 0 5)).toNatClampNeg))) (ci := 2) X wm_X5_73 (show 9 + (cdh (σ.1 3 ((σ.1 0 5)).toNatClampNeg)) < 24 by omega) (cdE_head g σ k_8) rfl rfl (c_X2_read l g (cdh (σ.1 3 ((σ.1 0 5)).toNatClampNeg)) r_1 σ _ hB _) hP hS rfl rfl hl.1 (Nat.le_of_ble_eq_true rfl) ⟨Nat.le_of_ble_eq_true rfl, Nat.le_of_ble_eq_true rfl⟩ ⟨Nat.zero_le _, Nat.zero_le _⟩ dX5_take_39) hS (fun σ_10 H locs hB hP hS => ?_)
      refine lv_aload_n hx hb dX5_take_42 rfl (lv_at hl 1 rfl) ?_
      refine cd_get X hP (C := RX5) (T := TX5) (N := 9) (ci := 5) (k := 0) (j := 0) (v := .ref (cdA g 1)) inX5 (by decide) rfl rfl (by decide) wf_X5_10 rfl rfl dX5_take_43 ?_
      refine cd_cv (cd_runV (As := []) (rest := []) (σ := σ_10) (k := 1) (ci := 3) X wm_X5_55 (by decide) rfl rfl rfl (c_X3_clear l g  σ_10 _ hB _) hP hS rfl rfl hl.1 (Nat.le_of_ble_eq_true rfl) ⟨Nat.le_of_ble_eq_true rfl, Nat.le_of_ble_eq_true rfl⟩ ⟨Nat.zero_le _, Nat.zero_le _⟩ dX5_take_46) hS (fun σ_12 H locs hB hP hS => ?_)
      refine lv_aload_n hx hb dX5_take_49 rfl (lv_at hl 1 rfl) ?_
      refine lv_dup hx hb dX5_take_50 rfl ?_
      refine cd_get X hP (C := RX5) (T := TX5) (N := 9) (ci := 5) (k := 0) (j := 6) (v := .int (σ_12.1 0 6)) inX5 (by decide) rfl rfl (by decide) wf_X5_77 rfl rfl dX5_take_51 ?_
      refine lv_iconst (v := 1) hx hb dX5_take_54 (by decide) ?_
      refine lv_iadd hx hb dX5_take_55 ?_
      refine cd_put X hP hS (C := RX5) (T := TX5) (N := 9) (ci := 5) (k := 0) (j := 6) (v := .int ((σ_12.1 0 6) + (1 : Int32))) (σ' := cdU σ_12 0 6 ((σ_12.1 0 6) + (1 : Int32))) inX5 tyX5 tyX5_ok nmX5 (by decide) rfl rfl (by decide) wf_X5_77 rfl rfl (tyX5_ok 6 (by decide)) rfl rfl (Nat.le_of_ble_eq_true rfl) (cdW_U (by decide) rfl) dX5_take_56 (fun H locs hP hS => ?_)
      obtain ⟨σ_13, eσ_13⟩ : ∃ z : cdS, z = cdU σ_12 0 6 ((σ_12.1 0 6) + (1 : Int32)) := ⟨_, rfl⟩
      rw [← eσ_13] at hP
      have hB := hB σ_13 eσ_13
      refine lv_aload_n hx hb dX5_take_59 rfl (lv_at hl 1 rfl) ?_
      refine lv_dup hx hb dX5_take_60 rfl ?_
      refine cd_get X hP (C := RX5) (T := TX5) (N := 9) (ci := 5) (k := 0) (j := 5) (v := .int (σ_13.1 0 5)) inX5 (by decide) rfl rfl (by decide) wf_X5_69 rfl rfl dX5_take_61 ?_
      refine lv_dup_x1 hx hb dX5_take_64 rfl rfl ?_
      refine lv_iconst (v := 1) hx hb dX5_take_65 (by decide) ?_
      refine lv_iadd hx hb dX5_take_66 ?_
      refine cd_put X hP hS (C := RX5) (T := TX5) (N := 9) (ci := 5) (k := 0) (j := 5) (v := .int ((σ_13.1 0 5) + (1 : Int32))) (σ' := cdU σ_13 0 5 ((σ_13.1 0 5) + (1 : Int32))) inX5 tyX5 tyX5_ok nmX5 (by decide) rfl rfl (by decide) wf_X5_69 rfl rfl (tyX5_ok 5 (by decide)) rfl rfl (Nat.le_of_ble_eq_true rfl) (cdW_U (by decide) rfl) dX5_take_67 (fun H locs hP hS => ?_)
      obtain ⟨σ_14, eσ_14⟩ : ∃ z : cdS, z = cdU σ_13 0 5 ((σ_13.1 0 5) + (1 : Int32)) := ⟨_, rfl⟩
      rw [← eσ_14] at hP
      have hB := hB σ_14 eσ_14
      rw [hQm]
      exact W.iret hx hb hr (fun t ht hW => ⟨⟨(σ_13.1 0 5), σ_14, rfl, hB, cd_hp ht hP⟩, hS.F ht⟩) hS.2.2 dX5_take_70
    · have hB := hB.2 c_6
      refine lv_ldc (v := -1000005) hx hb hown (hts _ wc_X5_54) dX5_take_22 ?_
      rw [hQm]
      exact W.iret hx hb hr (fun t ht hW => ⟨⟨(-1000005 : Int32), σ, rfl, hB, cd_hp ht hP⟩, hS.F ht⟩) hS.2.2 dX5_take_24
  · have hB := hB.2 c_3
    refine lv_ldc (v := -1000004) hx hb hown (hts _ wc_X5_64) dX5_take_12 ?_
    rw [hQm]
    exact W.iret hx hb hr (fun t ht hW => ⟨⟨(-1000004 : Int32), σ, rfl, hB, cd_hp ht hP⟩, hS.F ht⟩) hS.2.2 dX5_take_14
def wp_X5_tile (v1 : Int32) (v2 : Int32) (v3 : Int32) (v4 : Int32) (v5 : Int32) (σ : cdS) (Q : Int32 → cdS → Prop) : Prop :=
  
    wp_X5_isKnown v1 σ (fun r_1 => 
    ((¬ r_1 = 0 →
    wp_X5_isLaidOut v2 v3 v4 σ (fun r_4 => 
    ((r_4 = 0 →
    Q (-1000003 : Int32) σ) ∧
    (¬ (r_4 = 0) →
    wp_X5_isWithin v5 (0 : Int32) (7 : Int32) σ (fun r_7 => 
    ((¬ r_7 = 0 →
    vp_in v1 4 ∧
    wp_X1_layTile (cdh (σ.1 3 (v1).toNatClampNeg)) v2 v3 v4 σ (fun σ_12 => 
    wp_X1_tell v5 σ_12 (fun r_13 σ_14 => 
    Q r_13 σ_14))) ∧
    (r_7 = 0 →
    Q (-1000003 : Int32) σ))))))) ∧
    (r_1 = 0 →
    Q (-1000002 : Int32) σ)))
set_option maxHeartbeats 4000000 in
set_option maxRecDepth 100000 in
theorem c_X5_tile (l : Launch) (g : cdG) (v1 : Int32) (v2 : Int32) (v3 : Int32) (v4 : Int32) (v5 : Int32) (σ : cdS) (Q : Int32 → cdS → Prop) (hwp : wp_X5_tile v1 v2 v3 v4 v5 σ Q) : cdCi l g yX5_tile cX5_tile 6 (some .int) 5 111 [.ref (cdA g 0), .int v1, .int v2, .int v3, .int v4, .int v5] σ Q := by
  intro sz
  refine Met.ofW (cc := cX5_tile) (maxL := 6) (ret := (some .int)) (by decide) rfl ?_
  intro p e s m args below meth c s₁ B hml hv
  obtain ⟨rfl, hsz, hP, hK, hdi, hV⟩ := hv
  subst hsz
  have hx := B.exec
  have hb := B.bytes
  have hr := B.returns
  have hlocks := B.notSynchronized
  have hown : s.vm.findClass RX5 = some m.cls := findClass_of_methodNamed B.named
  have hts : ∀ w ∈ cdL, w.before _ s = true := fun w hw => atoms_spec (ws := cdWs yX5_tile cX5_tile 6 (some .int)) B.pre w (List.mem_cons_of_mem _ hw)
  have X : cdX p s m _ c cX5_tile 6 RX5 g := ⟨hx, hb, hml, hown, hts, hK, hdi, hV⟩
  have hS : va_S (cdZ g s.heap.size) s.heap s.heap [] := va_S.rf
  have hl := lv_entry ([.ref (cdA g 0), .int v1, .int v2, .int v3, .int v4, .int v5]) (n := 6) (Nat.le_of_ble_eq_true rfl)
  rw [lg_entry_eq]
  generalize (lg_sl ([.ref (cdA g 0), .int v1, .int v2, .int v3, .int v4, .int v5]) ++ List.replicate (6 - (lg_sl ([.ref (cdA g 0), .int v1, .int v2, .int v3, .int v4, .int v5])).length) Slot.unset).toArray = ls at hl ⊢
  have hl : lv_has ls 6 [(0, .ref (cdA g 0)), (1, .int v1), (2, .int v2), (3, .int v3), (4, .int v4), (5, .int v5)] := hl
  obtain ⟨Qm, hQm⟩ : ∃ z, z = MQ below (va_Qi Q (fun σ' t => va_P (cdD g) vwCl (cdW g σ') t.heap) (cdZ g s.heap.size)) ([.ref (cdA g 0), .int v1, .int v2, .int v3, .int v4, .int v5] : List Value).toArray s 0 0 (cdZ g s.heap.size) := ⟨_, rfl⟩
  rw [← hQm]
  have hB := hwp
  refine lv_aload_n hx hb dX5_tile_0 rfl (lv_at hl 0 rfl) ?_
  refine lv_iload_n hx hb dX5_tile_1 rfl (lv_at hl 1 rfl) ?_
  refine cd_ci (cd_runV (As := [.int v1]) (rest := []) (σ := σ) (k := 0) (ci := 5) X wm_X5_80 (by decide) rfl rfl rfl (c_X5_isKnown l g v1 σ _ hB _) hP hS rfl rfl hl.1 (Nat.le_of_ble_eq_true rfl) ⟨Nat.le_of_ble_eq_true rfl, Nat.le_of_ble_eq_true rfl⟩ ⟨Nat.zero_le _, Nat.zero_le _⟩ dX5_tile_2) hS (fun r_1 σ_2 H locs hB hP hS => ?_)
  obtain ⟨eσ_2, hB⟩ := hB
  rw [eσ_2] at hP
  refine lv_if_ne (tgt := 11) hx hb dX5_tile_5 (by decide) (fun c_3 => ?_) (fun c_3 => ?_)
  · have hB := hB.1 c_3
    refine lv_iload_n hx hb dX5_tile_11 rfl (lv_at hl 2 rfl) ?_
    refine lv_iload_n hx hb dX5_tile_12 rfl (lv_at hl 3 rfl) ?_
    refine lv_iload hx hb dX5_tile_13 (lv_at hl 4 rfl) ?_
    refine cd_ci (cd_runS (As := [.int v2, .int v3, .int v4]) (rest := []) (σ := σ) X wm_X5_109 (c_X5_isLaidOut l g v2 v3 v4 σ _ hB _) hP hS rfl rfl hl.1 (Nat.le_of_ble_eq_true rfl) ⟨Nat.le_of_ble_eq_true rfl, Nat.le_of_ble_eq_true rfl⟩ ⟨Nat.zero_le _, Nat.zero_le _⟩ dX5_tile_15) hS (fun r_4 σ_5 H locs hB hP hS => ?_)
    obtain ⟨eσ_5, hB⟩ := hB
    rw [eσ_5] at hP
    refine lv_if_eq (tgt := 32) hx hb dX5_tile_18 (by decide) (fun c_6 => ?_) (fun c_6 => ?_)
    · have hB := hB.1 c_6
      refine lv_ldc (v := -1000003) hx hb hown (hts _ wc_X5_45) dX5_tile_32 ?_
      rw [hQm]
      exact W.iret hx hb hr (fun t ht hW => ⟨⟨(-1000003 : Int32), σ, rfl, hB, cd_hp ht hP⟩, hS.F ht⟩) hS.2.2 dX5_tile_34
    · have hB := hB.2 c_6
      refine lv_iload hx hb dX5_tile_21 (lv_at hl 5 rfl) ?_
      refine lv_iconst (v := 0) hx hb dX5_tile_23 (by decide) ?_
      refine lv_bipush (v := 7) hx hb dX5_tile_24 (by decide) ?_
      refine cd_ci (cd_runS (As := [.int v5, .int (0 : Int32), .int (7 : Int32)]) (rest := []) (σ := σ) X wm_X5_41 (c_X5_isWithin l g v5 (0 : Int32) (7 : Int32) σ _ hB _) hP hS rfl rfl hl.1 (Nat.le_of_ble_eq_true rfl) ⟨Nat.le_of_ble_eq_true rfl, Nat.le_of_ble_eq_true rfl⟩ ⟨Nat.zero_le _, Nat.zero_le _⟩ dX5_tile_26) hS (fun r_7 σ_8 H locs hB hP hS => ?_)
      obtain ⟨eσ_8, hB⟩ := hB
      rw [eσ_8] at hP
      refine lv_if_ne (tgt := 35) hx hb dX5_tile_29 (by decide) (fun c_9 => ?_) (fun c_9 => ?_)
      · have hB := hB.1 c_9
        refine lv_aload_n hx hb dX5_tile_35 rfl (lv_at hl 0 rfl) ?_
        refine cd_get X hP (C := RX5) (T := TX5) (N := 9) (ci := 5) (k := 0) (j := 2) (v := .ref (cdA g 4)) inX5 (by decide) rfl rfl (by decide) wf_X5_19 rfl rfl dX5_tile_36 ?_
        refine lv_aload_n hx hb dX5_tile_39 rfl (lv_at hl 0 rfl) ?_
        refine cd_get X hP (C := RX5) (T := TX5) (N := 9) (ci := 5) (k := 0) (j := 1) (v := .ref (cdA g 3)) inX5 (by decide) rfl rfl (by decide) wf_X5_37 rfl rfl dX5_tile_40 ?_
        refine lv_iload_n hx hb dX5_tile_43 rfl (lv_at hl 1 rfl) ?_
        obtain ⟨i_10, hB⟩ := hB
        refine cd_hld X hP i_10 dX5_tile_44 ?_
        refine lv_iload_n hx hb dX5_tile_45 rfl (lv_at hl 2 rfl) ?_
        refine lv_iload_n hx hb dX5_tile_46 rfl (lv_at hl 3 rfl) ?_
        refine lv_iload hx hb dX5_tile_47 (lv_at hl 4 rfl) ?_
        refine cd_cv (cd_runV (As := [.ref (cdA g (9 + (cdh (σ.1 3 (v1).toNatClampNeg)))), .int v2, .int v3, .int v4]) (rest := []) (σ := σ) (k := 4) (ci := 1) X wm_X5_112 (by decide) rfl rfl rfl (c_X1_layTile l g (cdh (σ.1 3 (v1).toNatClampNeg)) v2 v3 v4 σ _ hB _) hP hS rfl rfl hl.1 (Nat.le_of_ble_eq_true rfl) ⟨Nat.le_of_ble_eq_true rfl, Nat.le_of_ble_eq_true rfl⟩ ⟨Nat.zero_le _, Nat.zero_le _⟩ dX5_tile_49) hS (fun σ_12 H locs hB hP hS => ?_)
        refine lv_aload_n hx hb dX5_tile_52 rfl (lv_at hl 0 rfl) ?_
        refine cd_get X hP (C := RX5) (T := TX5) (N := 9) (ci := 5) (k := 0) (j := 2) (v := .ref (cdA g 4)) inX5 (by decide) rfl rfl (by decide) wf_X5_19 rfl rfl dX5_tile_53 ?_
        refine lv_iload hx hb dX5_tile_56 (lv_at hl 5 rfl) ?_
        refine cd_ci (cd_runV (As := [.int v5]) (rest := []) (σ := σ_12) (k := 4) (ci := 1) X wm_X5_119 (by decide) rfl rfl rfl (c_X1_tell l g v5 σ_12 _ hB _) hP hS rfl rfl hl.1 (Nat.le_of_ble_eq_true rfl) ⟨Nat.le_of_ble_eq_true rfl, Nat.le_of_ble_eq_true rfl⟩ ⟨Nat.zero_le _, Nat.zero_le _⟩ dX5_tile_58) hS (fun r_13 σ_14 H locs hB hP hS => ?_)
        rw [hQm]
        exact W.iret hx hb hr (fun t ht hW => ⟨⟨r_13, σ_14, rfl, hB, cd_hp ht hP⟩, hS.F ht⟩) hS.2.2 dX5_tile_61
      · have hB := hB.2 c_9
        refine lv_ldc (v := -1000003) hx hb hown (hts _ wc_X5_45) dX5_tile_32 ?_
        rw [hQm]
        exact W.iret hx hb hr (fun t ht hW => ⟨⟨(-1000003 : Int32), σ, rfl, hB, cd_hp ht hP⟩, hS.F ht⟩) hS.2.2 dX5_tile_34
  · have hB := hB.2 c_3
    refine lv_ldc (v := -1000002) hx hb hown (hts _ wc_X5_83) dX5_tile_8 ?_
    rw [hQm]
    exact W.iret hx hb hr (fun t ht hW => ⟨⟨(-1000002 : Int32), σ, rfl, hB, cd_hp ht hP⟩, hS.F ht⟩) hS.2.2 dX5_tile_10
def wp_X5_turn (v1 : Int32) (v2 : Int32) (v3 : Int32) (σ : cdS) (Q : Int32 → cdS → Prop) : Prop :=
  
    wp_X5_isKnown v1 σ (fun r_1 => 
    ((¬ r_1 = 0 →
    wp_X5_isWithin v2 (0 : Int32) (3 : Int32) σ (fun r_4 => 
    ((¬ r_4 = 0 →
    wp_X5_isCrowded σ (fun r_7 => 
    ((r_7 = 0 →
    vp_in (σ.1 0 5) 4 ∧
    vp_in v1 4 ∧
    (cdh (σ.1 3 ((σ.1 0 5)).toNatClampNeg)) < 5 ∧ wp_X2_copyTurned (cdh (σ.1 3 ((σ.1 0 5)).toNatClampNeg)) (cdh (σ.1 3 (v1).toNatClampNeg)) v2 v3 σ (fun σ_14 => 
    ∀ σ_15 : cdS, σ_15 = cdU σ_14 0 7 ((σ_14.1 0 7) + (1 : Int32)) →
    ∀ σ_16 : cdS, σ_16 = cdU σ_15 0 5 ((σ_15.1 0 5) + (1 : Int32)) →
    Q (σ_15.1 0 5) σ_16)) ∧
    (¬ (r_7 = 0) →
    Q (-1000005 : Int32) σ)))) ∧
    (r_4 = 0 →
    Q (-1000003 : Int32) σ)))) ∧
    (r_1 = 0 →
    Q (-1000002 : Int32) σ)))
set_option maxHeartbeats 4000000 in
set_option maxRecDepth 100000 in
theorem c_X5_turn (l : Launch) (g : cdG) (v1 : Int32) (v2 : Int32) (v3 : Int32) (σ : cdS) (Q : Int32 → cdS → Prop) (hwp : wp_X5_turn v1 v2 v3 σ Q) : cdCi l g yX5_turn cX5_turn 4 (some .int) 3 72 [.ref (cdA g 0), .int v1, .int v2, .int v3] σ Q := by
  intro sz
  refine Met.ofW (cc := cX5_turn) (maxL := 4) (ret := (some .int)) (by decide) rfl ?_
  intro p e s m args below meth c s₁ B hml hv
  obtain ⟨rfl, hsz, hP, hK, hdi, hV⟩ := hv
  subst hsz
  have hx := B.exec
  have hb := B.bytes
  have hr := B.returns
  have hlocks := B.notSynchronized
  have hown : s.vm.findClass RX5 = some m.cls := findClass_of_methodNamed B.named
  have hts : ∀ w ∈ cdL, w.before _ s = true := fun w hw => atoms_spec (ws := cdWs yX5_turn cX5_turn 4 (some .int)) B.pre w (List.mem_cons_of_mem _ hw)
  have X : cdX p s m _ c cX5_turn 4 RX5 g := ⟨hx, hb, hml, hown, hts, hK, hdi, hV⟩
  have hS : va_S (cdZ g s.heap.size) s.heap s.heap [] := va_S.rf
  have hl := lv_entry ([.ref (cdA g 0), .int v1, .int v2, .int v3]) (n := 4) (Nat.le_of_ble_eq_true rfl)
  rw [lg_entry_eq]
  generalize (lg_sl ([.ref (cdA g 0), .int v1, .int v2, .int v3]) ++ List.replicate (4 - (lg_sl ([.ref (cdA g 0), .int v1, .int v2, .int v3])).length) Slot.unset).toArray = ls at hl ⊢
  have hl : lv_has ls 4 [(0, .ref (cdA g 0)), (1, .int v1), (2, .int v2), (3, .int v3)] := hl
  obtain ⟨Qm, hQm⟩ : ∃ z, z = MQ below (va_Qi Q (fun σ' t => va_P (cdD g) vwCl (cdW g σ') t.heap) (cdZ g s.heap.size)) ([.ref (cdA g 0), .int v1, .int v2, .int v3] : List Value).toArray s 0 0 (cdZ g s.heap.size) := ⟨_, rfl⟩
  rw [← hQm]
  have hB := hwp
  refine lv_aload_n hx hb dX5_turn_0 rfl (lv_at hl 0 rfl) ?_
  refine lv_iload_n hx hb dX5_turn_1 rfl (lv_at hl 1 rfl) ?_
  refine cd_ci (cd_runV (As := [.int v1]) (rest := []) (σ := σ) (k := 0) (ci := 5) X wm_X5_80 (by decide) rfl rfl rfl (c_X5_isKnown l g v1 σ _ hB _) hP hS rfl rfl hl.1 (Nat.le_of_ble_eq_true rfl) ⟨Nat.le_of_ble_eq_true rfl, Nat.le_of_ble_eq_true rfl⟩ ⟨Nat.zero_le _, Nat.zero_le _⟩ dX5_turn_2) hS (fun r_1 σ_2 H locs hB hP hS => ?_)
  obtain ⟨eσ_2, hB⟩ := hB
  rw [eσ_2] at hP
  refine lv_if_ne (tgt := 11) hx hb dX5_turn_5 (by decide) (fun c_3 => ?_) (fun c_3 => ?_)
  · have hB := hB.1 c_3
    refine lv_iload_n hx hb dX5_turn_11 rfl (lv_at hl 2 rfl) ?_
    refine lv_iconst (v := 0) hx hb dX5_turn_12 (by decide) ?_
    refine lv_iconst (v := 3) hx hb dX5_turn_13 (by decide) ?_
    refine cd_ci (cd_runS (As := [.int v2, .int (0 : Int32), .int (3 : Int32)]) (rest := []) (σ := σ) X wm_X5_41 (c_X5_isWithin l g v2 (0 : Int32) (3 : Int32) σ _ hB _) hP hS rfl rfl hl.1 (Nat.le_of_ble_eq_true rfl) ⟨Nat.le_of_ble_eq_true rfl, Nat.le_of_ble_eq_true rfl⟩ ⟨Nat.zero_le _, Nat.zero_le _⟩ dX5_turn_14) hS (fun r_4 σ_5 H locs hB hP hS => ?_)
    obtain ⟨eσ_5, hB⟩ := hB
    rw [eσ_5] at hP
    refine lv_if_ne (tgt := 23) hx hb dX5_turn_17 (by decide) (fun c_6 => ?_) (fun c_6 => ?_)
    · have hB := hB.1 c_6
      refine lv_aload_n hx hb dX5_turn_23 rfl (lv_at hl 0 rfl) ?_
      refine cd_ci (cd_runV (As := []) (rest := []) (σ := σ) (k := 0) (ci := 5) X wm_X5_65 (by decide) rfl rfl rfl (c_X5_isCrowded l g  σ _ hB _) hP hS rfl rfl hl.1 (Nat.le_of_ble_eq_true rfl) ⟨Nat.le_of_ble_eq_true rfl, Nat.le_of_ble_eq_true rfl⟩ ⟨Nat.zero_le _, Nat.zero_le _⟩ dX5_turn_24) hS (fun r_7 σ_8 H locs hB hP hS => ?_)
      obtain ⟨eσ_8, hB⟩ := hB
      rw [eσ_8] at hP
      refine lv_if_eq (tgt := 33) hx hb dX5_turn_27 (by decide) (fun c_9 => ?_) (fun c_9 => ?_)
      · have hB := hB.1 c_9
        refine lv_aload_n hx hb dX5_turn_33 rfl (lv_at hl 0 rfl) ?_
        refine cd_get X hP (C := RX5) (T := TX5) (N := 9) (ci := 5) (k := 0) (j := 1) (v := .ref (cdA g 3)) inX5 (by decide) rfl rfl (by decide) wf_X5_37 rfl rfl dX5_turn_34 ?_
        refine lv_aload_n hx hb dX5_turn_37 rfl (lv_at hl 0 rfl) ?_
        refine cd_get X hP (C := RX5) (T := TX5) (N := 9) (ci := 5) (k := 0) (j := 5) (v := .int (σ.1 0 5)) inX5 (by decide) rfl rfl (by decide) wf_X5_69 rfl rfl dX5_turn_38 ?_
        obtain ⟨i_10, hB⟩ := hB
        refine cd_hld X hP i_10 dX5_turn_41 ?_
        refine lv_aload_n hx hb dX5_turn_42 rfl (lv_at hl 0 rfl) ?_
        refine cd_get X hP (C := RX5) (T := TX5) (N := 9) (ci := 5) (k := 0) (j := 1) (v := .ref (cdA g 3)) inX5 (by decide) rfl rfl (by decide) wf_X5_37 rfl rfl dX5_turn_43 ?_
        refine lv_iload_n hx hb dX5_turn_46 rfl (lv_at hl 1 rfl) ?_
        obtain ⟨i_11, hB⟩ := hB
        refine cd_hld X hP i_11 dX5_turn_47 ?_
        refine lv_iload_n hx hb dX5_turn_48 rfl (lv_at hl 2 rfl) ?_
        refine lv_iload_n hx hb dX5_turn_49 rfl (lv_at hl 3 rfl) ?_
        obtain ⟨k_12, hB⟩ := hB
        refine cd_cv (cd_runV (As := [.ref (cdA g (9 + (cdh (σ.1 3 (v1).toNatClampNeg)))), .int v2, .int v3]) (rest := []) (σ := σ) (k := 9 + (cdh (σ.1 3 ((σ.1 0 5)).toNatClampNeg))) (ci := 2) X wm_X5_87 (show 9 + (cdh (σ.1 3 ((σ.1 0 5)).toNatClampNeg)) < 24 by omega) (cdE_head g σ k_12) rfl rfl (c_X2_copyTurned l g (cdh (σ.1 3 ((σ.1 0 5)).toNatClampNeg)) (cdh (σ.1 3 (v1).toNatClampNeg)) v2 v3 σ _ hB _) hP hS rfl rfl hl.1 (Nat.le_of_ble_eq_true rfl) ⟨Nat.le_of_ble_eq_true rfl, Nat.le_of_ble_eq_true rfl⟩ ⟨Nat.zero_le _, Nat.zero_le _⟩ dX5_turn_50) hS (fun σ_14 H locs hB hP hS => ?_)
        refine lv_aload_n hx hb dX5_turn_53 rfl (lv_at hl 0 rfl) ?_
        refine lv_dup hx hb dX5_turn_54 rfl ?_
        refine cd_get X hP (C := RX5) (T := TX5) (N := 9) (ci := 5) (k := 0) (j := 7) (v := .int (σ_14.1 0 7)) inX5 (by decide) rfl rfl (by decide) wf_X5_91 rfl rfl dX5_turn_55 ?_
        refine lv_iconst (v := 1) hx hb dX5_turn_58 (by decide) ?_
        refine lv_iadd hx hb dX5_turn_59 ?_
        refine cd_put X hP hS (C := RX5) (T := TX5) (N := 9) (ci := 5) (k := 0) (j := 7) (v := .int ((σ_14.1 0 7) + (1 : Int32))) (σ' := cdU σ_14 0 7 ((σ_14.1 0 7) + (1 : Int32))) inX5 tyX5 tyX5_ok nmX5 (by decide) rfl rfl (by decide) wf_X5_91 rfl rfl (tyX5_ok 7 (by decide)) rfl rfl (Nat.le_of_ble_eq_true rfl) (cdW_U (by decide) rfl) dX5_turn_60 (fun H locs hP hS => ?_)
        obtain ⟨σ_15, eσ_15⟩ : ∃ z : cdS, z = cdU σ_14 0 7 ((σ_14.1 0 7) + (1 : Int32)) := ⟨_, rfl⟩
        rw [← eσ_15] at hP
        have hB := hB σ_15 eσ_15
        refine lv_aload_n hx hb dX5_turn_63 rfl (lv_at hl 0 rfl) ?_
        refine lv_dup hx hb dX5_turn_64 rfl ?_
        refine cd_get X hP (C := RX5) (T := TX5) (N := 9) (ci := 5) (k := 0) (j := 5) (v := .int (σ_15.1 0 5)) inX5 (by decide) rfl rfl (by decide) wf_X5_69 rfl rfl dX5_turn_65 ?_
        refine lv_dup_x1 hx hb dX5_turn_68 rfl rfl ?_
        refine lv_iconst (v := 1) hx hb dX5_turn_69 (by decide) ?_
        refine lv_iadd hx hb dX5_turn_70 ?_
        refine cd_put X hP hS (C := RX5) (T := TX5) (N := 9) (ci := 5) (k := 0) (j := 5) (v := .int ((σ_15.1 0 5) + (1 : Int32))) (σ' := cdU σ_15 0 5 ((σ_15.1 0 5) + (1 : Int32))) inX5 tyX5 tyX5_ok nmX5 (by decide) rfl rfl (by decide) wf_X5_69 rfl rfl (tyX5_ok 5 (by decide)) rfl rfl (Nat.le_of_ble_eq_true rfl) (cdW_U (by decide) rfl) dX5_turn_71 (fun H locs hP hS => ?_)
        obtain ⟨σ_16, eσ_16⟩ : ∃ z : cdS, z = cdU σ_15 0 5 ((σ_15.1 0 5) + (1 : Int32)) := ⟨_, rfl⟩
        rw [← eσ_16] at hP
        have hB := hB σ_16 eσ_16
        rw [hQm]
        exact W.iret hx hb hr (fun t ht hW => ⟨⟨(σ_15.1 0 5), σ_16, rfl, hB, cd_hp ht hP⟩, hS.F ht⟩) hS.2.2 dX5_turn_74
      · have hB := hB.2 c_9
        refine lv_ldc (v := -1000005) hx hb hown (hts _ wc_X5_54) dX5_turn_30 ?_
        rw [hQm]
        exact W.iret hx hb hr (fun t ht hW => ⟨⟨(-1000005 : Int32), σ, rfl, hB, cd_hp ht hP⟩, hS.F ht⟩) hS.2.2 dX5_turn_32
    · have hB := hB.2 c_6
      refine lv_ldc (v := -1000003) hx hb hown (hts _ wc_X5_45) dX5_turn_20 ?_
      rw [hQm]
      exact W.iret hx hb hr (fun t ht hW => ⟨⟨(-1000003 : Int32), σ, rfl, hB, cd_hp ht hP⟩, hS.F ht⟩) hS.2.2 dX5_turn_22
  · have hB := hB.2 c_3
    refine lv_ldc (v := -1000002) hx hb hown (hts _ wc_X5_83) dX5_turn_8 ?_
    rw [hQm]
    exact W.iret hx hb hr (fun t ht hW => ⟨⟨(-1000002 : Int32), σ, rfl, hB, cd_hp ht hP⟩, hS.F ht⟩) hS.2.2 dX5_turn_10
