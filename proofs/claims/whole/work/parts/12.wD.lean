def wp_X6_allOf (v0 : Int32) (v1 : Int32) (σ : cdS) (Q : Int32 → Prop) : Prop :=
  ∀ (P4 : Int32 → Int32 → Prop) (P31 : Int32 → Int32 → Prop) (P32 : Int32 → Int32 → Int32 → Prop),
    (∀ (x2 : Int32) (x3 : Int32), (
    (((9 : Int32) ≤ x3 →
    Q x2) ∧
    (¬ ((9 : Int32) ≤ x3) →
    ((v0 ≤ (cdm x3 (3 : Int32)) →
    P31 x3 x2) ∧
    (¬ (v0 ≤ (cdm x3 (3 : Int32))) →
    ((v1 ≤ (x3 / (3 : Int32)) →
    P31 x3 x2) ∧
    (¬ (v1 ≤ (x3 / (3 : Int32))) →
    P32 x3 ((1 : Int32) <<< (x3 &&& 31)) x2))))))) → P4 x2 x3) →
    (∀ (x3 : Int32) (t0 : Int32), (
    P32 x3 (0 : Int32) t0) → P31 x3 t0) →
    (∀ (x3 : Int32) (t0 : Int32) (t1 : Int32), (
    ∀ x2_4 : Int32, x2_4 = (t1 ||| t0) →
    ∀ x3_5 : Int32, x3_5 = x3 + 1 →
    P4 x2_4 x3_5) → P32 x3 t0 t1) →
    
    P4 (0 : Int32) (0 : Int32)
set_option maxHeartbeats 4000000 in
set_option maxRecDepth 100000 in
theorem c_X6_allOf (l : Launch) (g : cdG) (v0 : Int32) (v1 : Int32) (σ : cdS) (Q : Int32 → Prop) (hwp : wp_X6_allOf v0 v1 σ Q) : cdCi l g yX6_allOf cX6_allOf 4 (some .int) 0 0 [.int v0, .int v1] σ (fun r σ' => σ' = σ ∧ Q r) := by
  intro sz
  refine Met.ofW (cc := cX6_allOf) (maxL := 4) (ret := (some .int)) (by decide) rfl ?_
  intro p e s m args below meth c s₁ B hml hv
  obtain ⟨rfl, hsz, hP, hK, hdi, hV⟩ := hv
  subst hsz
  have hx := B.exec
  have hb := B.bytes
  have hr := B.returns
  have hlocks := B.notSynchronized
  have hown : s.vm.findClass RX6 = some m.cls := findClass_of_methodNamed B.named
  have hts : ∀ w ∈ cdL, w.before _ s = true := fun w hw => atoms_spec (ws := cdWs yX6_allOf cX6_allOf 4 (some .int)) B.pre w (List.mem_cons_of_mem _ hw)
  have X : cdX p s m _ c cX6_allOf 4 RX6 g := ⟨hx, hb, hml, hown, hts, hK, hdi, hV⟩
  have hS : va_S (cdZ g s.heap.size) s.heap s.heap [] := va_S.rf
  have hl := lv_entry ([.int v0, .int v1]) (n := 4) (Nat.le_of_ble_eq_true rfl)
  rw [lg_entry_eq]
  generalize (lg_sl ([.int v0, .int v1]) ++ List.replicate (4 - (lg_sl ([.int v0, .int v1])).length) Slot.unset).toArray = ls at hl ⊢
  have hl : lv_has ls 4 [(0, .int v0), (1, .int v1)] := hl
  obtain ⟨Qm, hQm⟩ : ∃ z, z = MQ below (va_Qi (fun r σ' => σ' = σ ∧ Q r) (fun σ' t => va_P (cdD g) vwCl (cdW g σ') t.heap) (cdZ g s.heap.size)) ([.int v0, .int v1] : List Value).toArray s 0 0 (cdZ g s.heap.size) := ⟨_, rfl⟩
  rw [← hQm]
  have hB := hwp (fun (x2 : Int32) (x3 : Int32) => cdCut p l e (headSpec (cdWs yX6_allOf cX6_allOf 4 (some .int)) (cdRm 0 0)).room s m ([.int v0, .int v1] : List Value).toArray below meth c Qm g 4 4 [(0, .int v0), (1, .int v1), (2, .int x2), (3, .int x3)] [] σ)
    (fun (x3 : Int32) (t0 : Int32) => cdCut p l e (headSpec (cdWs yX6_allOf cX6_allOf 4 (some .int)) (cdRm 0 0)).room s m ([.int v0, .int v1] : List Value).toArray below meth c Qm g 4 31 [(0, .int v0), (1, .int v1), (3, .int x3)] [.int t0] σ)
    (fun (x3 : Int32) (t0 : Int32) (t1 : Int32) => cdCut p l e (headSpec (cdWs yX6_allOf cX6_allOf 4 (some .int)) (cdRm 0 0)).room s m ([.int v0, .int v1] : List Value).toArray below meth c Qm g 4 32 [(0, .int v0), (1, .int v1), (3, .int x3)] [.int t0, .int t1] σ)
    (by
    intro x2 x3 hB H locs ls hP hS hl
    refine lv_iload_n hx hb dX6_allOf_4 rfl (lv_at hl 3 rfl) ?_
    refine lv_bipush (v := 9) hx hb dX6_allOf_5 (by decide) ?_
    refine lv_icmp_ge (tgt := 40) hx hb dX6_allOf_7 (by decide) (fun c_1 => ?_) (fun c_1 => ?_)
    · have hB := hB.1 c_1
      refine lv_iload_n hx hb dX6_allOf_40 rfl (lv_at hl 2 rfl) ?_
      rw [hQm]
      exact W.iret hx hb hr (fun t ht hW => ⟨⟨x2, σ, rfl, ⟨rfl, hB⟩, cd_hp ht hP⟩, hS.F ht⟩) hS.2.2 dX6_allOf_41
    · have hB := hB.2 c_1
      refine lv_iload_n hx hb dX6_allOf_10 rfl (lv_at hl 2 rfl) ?_
      refine lv_iload_n hx hb dX6_allOf_11 rfl (lv_at hl 3 rfl) ?_
      refine lv_iconst (v := 3) hx hb dX6_allOf_12 (by decide) ?_
      refine lv_irem hx hb dX6_allOf_13 (by decide) ?_
      refine lv_iload_n hx hb dX6_allOf_14 rfl (lv_at hl 0 rfl) ?_
      refine lv_icmp_ge (tgt := 31) hx hb dX6_allOf_15 (by decide) (fun c_2 => ?_) (fun c_2 => ?_)
      · have hB := hB.1 c_2
        exact hB _ _ _ hP hS (lv_sub hl [0, 1, 3] rfl)
      · have hB := hB.2 c_2
        refine lv_iload_n hx hb dX6_allOf_18 rfl (lv_at hl 3 rfl) ?_
        refine lv_iconst (v := 3) hx hb dX6_allOf_19 (by decide) ?_
        refine lv_idiv hx hb dX6_allOf_20 (by decide) ?_
        refine lv_iload_n hx hb dX6_allOf_21 rfl (lv_at hl 1 rfl) ?_
        refine lv_icmp_ge (tgt := 31) hx hb dX6_allOf_22 (by decide) (fun c_3 => ?_) (fun c_3 => ?_)
        · have hB := hB.1 c_3
          exact hB _ _ _ hP hS (lv_sub hl [0, 1, 3] rfl)
        · have hB := hB.2 c_3
          refine lv_iconst (v := 1) hx hb dX6_allOf_25 (by decide) ?_
          refine lv_iload_n hx hb dX6_allOf_26 rfl (lv_at hl 3 rfl) ?_
          refine lv_ishl hx hb dX6_allOf_27 ?_
          refine lv_goto (tgt := 32) hx hb dX6_allOf_28 (by decide) ?_
          exact hB _ _ _ hP hS (lv_sub hl [0, 1, 3] rfl))
    (by
    intro x3 t0 hB H locs ls hP hS hl
    refine lv_iconst (v := 0) hx hb dX6_allOf_31 (by decide) ?_
    exact hB _ _ _ hP hS (lv_sub hl [0, 1, 2] rfl))
    (by
    intro x3 t0 t1 hB H locs ls hP hS hl
    refine lv_ior hx hb dX6_allOf_32 ?_
    refine lv_topi (fun x2_4 ex2_4 => ?_)
    have hB := hB x2_4 ex2_4
    refine lv_istore_n (lv' := [(2, .int x2_4), (0, .int v0), (1, .int v1), (3, .int x3)]) hx hb dX6_allOf_33 rfl hl (by decide) rfl (fun ls hl => ?_)
    obtain ⟨x3_5, ex3_5⟩ : ∃ z : Int32, z = x3 + 1 := ⟨_, rfl⟩
    have hB := hB x3_5 ex3_5
    refine lv_iinc (v := x3_5) (lv' := [(3, .int x3_5), (2, .int x2_4), (0, .int v0), (1, .int v1)]) hx hb dX6_allOf_34 hl (k := 3) rfl (by rw [ex3_5]; rfl) (by decide) rfl (fun ls hl => ?_)
    refine lv_goto (tgt := 4) hx hb dX6_allOf_37 (by decide) ?_
    exact hB _ _ _ hP hS (lv_sub hl [2, 3, 1, 0] rfl))
  refine lv_iconst (v := 0) hx hb dX6_allOf_0 (by decide) ?_
  refine lv_istore_n (lv' := [(2, .int (0 : Int32)), (0, .int v0), (1, .int v1)]) hx hb dX6_allOf_1 rfl hl (by decide) rfl (fun ls hl => ?_)
  refine lv_iconst (v := 0) hx hb dX6_allOf_2 (by decide) ?_
  refine lv_istore_n (lv' := [(3, .int (0 : Int32)), (2, .int (0 : Int32)), (0, .int v0), (1, .int v1)]) hx hb dX6_allOf_3 rfl hl (by decide) rfl (fun ls hl => ?_)
  exact hB _ _ _ hP hS (lv_sub hl [2, 3, 1, 0] rfl)
def wp_X6_begins  (σ : cdS) (Q : cdS → Prop) : Prop :=
  
    ∀ σ_1 : cdS, σ_1 = cdU σ 19 11 (0 : Int32) →
    ∀ σ_2 : cdS, σ_2 = cdU σ_1 19 12 (0 : Int32) →
    Q σ_2
set_option maxHeartbeats 4000000 in
set_option maxRecDepth 100000 in
theorem c_X6_begins (l : Launch) (g : cdG)  (σ : cdS) (Q : cdS → Prop) (hwp : wp_X6_begins  σ Q) : cdCv l g yX6_begins cX6_begins 1 none 0 0 [.ref (cdA g 19)] σ Q := by
  intro sz
  refine Met.ofW (cc := cX6_begins) (maxL := 1) (ret := none) (by decide) rfl ?_
  intro p e s m args below meth c s₁ B hml hv
  obtain ⟨rfl, hsz, hP, hK, hdi, hV⟩ := hv
  subst hsz
  have hx := B.exec
  have hb := B.bytes
  have hr := B.returns
  have hlocks := B.notSynchronized
  have hown : s.vm.findClass RX6 = some m.cls := findClass_of_methodNamed B.named
  have hts : ∀ w ∈ cdL, w.before _ s = true := fun w hw => atoms_spec (ws := cdWs yX6_begins cX6_begins 1 none) B.pre w (List.mem_cons_of_mem _ hw)
  have X : cdX p s m _ c cX6_begins 1 RX6 g := ⟨hx, hb, hml, hown, hts, hK, hdi, hV⟩
  have hS : va_S (cdZ g s.heap.size) s.heap s.heap [] := va_S.rf
  have hl := lv_entry ([.ref (cdA g 19)]) (n := 1) (Nat.le_of_ble_eq_true rfl)
  rw [lg_entry_eq]
  generalize (lg_sl ([.ref (cdA g 19)]) ++ List.replicate (1 - (lg_sl ([.ref (cdA g 19)])).length) Slot.unset).toArray = ls at hl ⊢
  have hl : lv_has ls 1 [(0, .ref (cdA g 19))] := hl
  obtain ⟨Qm, hQm⟩ : ∃ z, z = MQ below (va_Qv Q (fun σ' t => va_P (cdD g) vwCl (cdW g σ') t.heap) (cdZ g s.heap.size)) ([.ref (cdA g 19)] : List Value).toArray s 0 0 (cdZ g s.heap.size) := ⟨_, rfl⟩
  rw [← hQm]
  have hB := hwp
  refine lv_aload_n hx hb dX6_begins_0 rfl (lv_at hl 0 rfl) ?_
  refine lv_iconst (v := 0) hx hb dX6_begins_1 (by decide) ?_
  refine cd_put X hP hS (C := RX6) (T := TX6) (N := 20) (ci := 6) (k := 19) (j := 11) (v := .int (0 : Int32)) (σ' := cdU σ 19 11 (0 : Int32)) inX6 tyX6 tyX6_ok nmX6 (by decide) rfl rfl (by decide) wf_X6_117 rfl rfl (tyX6_ok 11 (by decide)) rfl rfl (Nat.le_of_ble_eq_true rfl) (cdW_U (by decide) rfl) dX6_begins_2 (fun H locs hP hS => ?_)
  obtain ⟨σ_1, eσ_1⟩ : ∃ z : cdS, z = cdU σ 19 11 (0 : Int32) := ⟨_, rfl⟩
  rw [← eσ_1] at hP
  have hB := hB σ_1 eσ_1
  refine lv_aload_n hx hb dX6_begins_5 rfl (lv_at hl 0 rfl) ?_
  refine lv_iconst (v := 0) hx hb dX6_begins_6 (by decide) ?_
  refine cd_put X hP hS (C := RX6) (T := TX6) (N := 20) (ci := 6) (k := 19) (j := 12) (v := .int (0 : Int32)) (σ' := cdU σ_1 19 12 (0 : Int32)) inX6 tyX6 tyX6_ok nmX6 (by decide) rfl rfl (by decide) wf_X6_120 rfl rfl (tyX6_ok 12 (by decide)) rfl rfl (Nat.le_of_ble_eq_true rfl) (cdW_U (by decide) rfl) dX6_begins_7 (fun H locs hP hS => ?_)
  obtain ⟨σ_2, eσ_2⟩ : ∃ z : cdS, z = cdU σ_1 19 12 (0 : Int32) := ⟨_, rfl⟩
  rw [← eσ_2] at hP
  have hB := hB σ_2 eσ_2
  rw [hQm]
  exact W.vret hx hb hr (fun t ht hW => ⟨⟨σ_2, rfl, hB, cd_hp ht hP⟩, hS.F ht⟩) hS.2.2 dX6_begins_10
def wp_X6_within (v0 : Int32) (v1 : Int32) (v2 : Int32) (σ : cdS) (Q : Int32 → Prop) : Prop :=
  
    ((v0 < v1 →
    Q (0 : Int32)) ∧
    (¬ (v0 < v1) →
    ((v2 < v0 →
    Q (0 : Int32)) ∧
    (¬ (v2 < v0) →
    Q (1 : Int32)))))
set_option maxHeartbeats 4000000 in
set_option maxRecDepth 100000 in
theorem c_X6_within (l : Launch) (g : cdG) (v0 : Int32) (v1 : Int32) (v2 : Int32) (σ : cdS) (Q : Int32 → Prop) (hwp : wp_X6_within v0 v1 v2 σ Q) : cdCi l g yX6_within cX6_within 3 (some .boolean) 0 0 [.int v0, .int v1, .int v2] σ (fun r σ' => σ' = σ ∧ Q r) := by
  intro sz
  refine Met.ofW (cc := cX6_within) (maxL := 3) (ret := (some .boolean)) (by decide) rfl ?_
  intro p e s m args below meth c s₁ B hml hv
  obtain ⟨rfl, hsz, hP, hK, hdi, hV⟩ := hv
  subst hsz
  have hx := B.exec
  have hb := B.bytes
  have hr := B.returns
  have hlocks := B.notSynchronized
  have hown : s.vm.findClass RX6 = some m.cls := findClass_of_methodNamed B.named
  have hts : ∀ w ∈ cdL, w.before _ s = true := fun w hw => atoms_spec (ws := cdWs yX6_within cX6_within 3 (some .boolean)) B.pre w (List.mem_cons_of_mem _ hw)
  have X : cdX p s m _ c cX6_within 3 RX6 g := ⟨hx, hb, hml, hown, hts, hK, hdi, hV⟩
  have hS : va_S (cdZ g s.heap.size) s.heap s.heap [] := va_S.rf
  have hl := lv_entry ([.int v0, .int v1, .int v2]) (n := 3) (Nat.le_of_ble_eq_true rfl)
  rw [lg_entry_eq]
  generalize (lg_sl ([.int v0, .int v1, .int v2]) ++ List.replicate (3 - (lg_sl ([.int v0, .int v1, .int v2])).length) Slot.unset).toArray = ls at hl ⊢
  have hl : lv_has ls 3 [(0, .int v0), (1, .int v1), (2, .int v2)] := hl
  obtain ⟨Qm, hQm⟩ : ∃ z, z = MQ below (va_Qi (fun r σ' => σ' = σ ∧ Q r) (fun σ' t => va_P (cdD g) vwCl (cdW g σ') t.heap) (cdZ g s.heap.size)) ([.int v0, .int v1, .int v2] : List Value).toArray s 0 0 (cdZ g s.heap.size) := ⟨_, rfl⟩
  rw [← hQm]
  have hB := hwp
  refine lv_iload_n hx hb dX6_within_0 rfl (lv_at hl 0 rfl) ?_
  refine lv_iload_n hx hb dX6_within_1 rfl (lv_at hl 1 rfl) ?_
  refine lv_icmp_lt (tgt := 14) hx hb dX6_within_2 (by decide) (fun c_1 => ?_) (fun c_1 => ?_)
  · have hB := hB.1 c_1
    refine lv_iconst (v := 0) hx hb dX6_within_14 (by decide) ?_
    rw [hQm]
    exact W.zret hx hb hr rfl (fun t ht hW => ⟨⟨(0 : Int32), σ, rfl, ⟨rfl, hB⟩, cd_hp ht hP⟩, hS.F ht⟩) hS.2.2 dX6_within_15
  · have hB := hB.2 c_1
    refine lv_iload_n hx hb dX6_within_5 rfl (lv_at hl 0 rfl) ?_
    refine lv_iload_n hx hb dX6_within_6 rfl (lv_at hl 2 rfl) ?_
    refine lv_icmp_gt (tgt := 14) hx hb dX6_within_7 (by decide) (fun c_2 => ?_) (fun c_2 => ?_)
    · have hB := hB.1 c_2
      refine lv_iconst (v := 0) hx hb dX6_within_14 (by decide) ?_
      rw [hQm]
      exact W.zret hx hb hr rfl (fun t ht hW => ⟨⟨(0 : Int32), σ, rfl, ⟨rfl, hB⟩, cd_hp ht hP⟩, hS.F ht⟩) hS.2.2 dX6_within_15
    · have hB := hB.2 c_2
      refine lv_iconst (v := 1) hx hb dX6_within_10 (by decide) ?_
      refine lv_goto (tgt := 15) hx hb dX6_within_11 (by decide) ?_
      rw [hQm]
      exact W.zret hx hb hr rfl (fun t ht hW => ⟨⟨(1 : Int32), σ, rfl, ⟨rfl, hB⟩, cd_hp ht hP⟩, hS.F ht⟩) hS.2.2 dX6_within_15
def wp_X6_isHead (v1 : Int32) (σ : cdS) (Q : Int32 → Prop) : Prop :=
  
    wp_X6_within v1 (0 : Int32) ((σ.1 19 2) - (1 : Int32)) σ (fun r_1 => 
    cdb r_1 ∧ Q r_1)
set_option maxHeartbeats 4000000 in
set_option maxRecDepth 100000 in
theorem c_X6_isHead (l : Launch) (g : cdG) (v1 : Int32) (σ : cdS) (Q : Int32 → Prop) (hwp : wp_X6_isHead v1 σ Q) : cdCi l g yX6_isHead cX6_isHead 2 (some .boolean) 1 22 [.ref (cdA g 19), .int v1] σ (fun r σ' => σ' = σ ∧ Q r) := by
  intro sz
  refine Met.ofW (cc := cX6_isHead) (maxL := 2) (ret := (some .boolean)) (by decide) rfl ?_
  intro p e s m args below meth c s₁ B hml hv
  obtain ⟨rfl, hsz, hP, hK, hdi, hV⟩ := hv
  subst hsz
  have hx := B.exec
  have hb := B.bytes
  have hr := B.returns
  have hlocks := B.notSynchronized
  have hown : s.vm.findClass RX6 = some m.cls := findClass_of_methodNamed B.named
  have hts : ∀ w ∈ cdL, w.before _ s = true := fun w hw => atoms_spec (ws := cdWs yX6_isHead cX6_isHead 2 (some .boolean)) B.pre w (List.mem_cons_of_mem _ hw)
  have X : cdX p s m _ c cX6_isHead 2 RX6 g := ⟨hx, hb, hml, hown, hts, hK, hdi, hV⟩
  have hS : va_S (cdZ g s.heap.size) s.heap s.heap [] := va_S.rf
  have hl := lv_entry ([.ref (cdA g 19), .int v1]) (n := 2) (Nat.le_of_ble_eq_true rfl)
  rw [lg_entry_eq]
  generalize (lg_sl ([.ref (cdA g 19), .int v1]) ++ List.replicate (2 - (lg_sl ([.ref (cdA g 19), .int v1])).length) Slot.unset).toArray = ls at hl ⊢
  have hl : lv_has ls 2 [(0, .ref (cdA g 19)), (1, .int v1)] := hl
  obtain ⟨Qm, hQm⟩ : ∃ z, z = MQ below (va_Qi (fun r σ' => σ' = σ ∧ Q r) (fun σ' t => va_P (cdD g) vwCl (cdW g σ') t.heap) (cdZ g s.heap.size)) ([.ref (cdA g 19), .int v1] : List Value).toArray s 0 0 (cdZ g s.heap.size) := ⟨_, rfl⟩
  rw [← hQm]
  have hB := hwp
  refine lv_iload_n hx hb dX6_isHead_0 rfl (lv_at hl 1 rfl) ?_
  refine lv_iconst (v := 0) hx hb dX6_isHead_1 (by decide) ?_
  refine lv_aload_n hx hb dX6_isHead_2 rfl (lv_at hl 0 rfl) ?_
  refine cd_get X hP (C := RX6) (T := TX6) (N := 20) (ci := 6) (k := 19) (j := 2) (v := .int (σ.1 19 2)) inX6 (by decide) rfl rfl (by decide) wf_X6_59 rfl rfl dX6_isHead_3 ?_
  refine lv_iconst (v := 1) hx hb dX6_isHead_6 (by decide) ?_
  refine lv_isub hx hb dX6_isHead_7 ?_
  refine cd_ci (cd_runS (As := [.int v1, .int (0 : Int32), .int ((σ.1 19 2) - (1 : Int32))]) (rest := []) (σ := σ) X wm_X6_22 (c_X6_within l g v1 (0 : Int32) ((σ.1 19 2) - (1 : Int32)) σ _ hB _) hP hS rfl rfl hl.1 (Nat.le_of_ble_eq_true rfl) ⟨Nat.le_of_ble_eq_true rfl, Nat.le_of_ble_eq_true rfl⟩ ⟨Nat.zero_le _, Nat.zero_le _⟩ dX6_isHead_8) hS (fun r_1 σ_2 H locs hB hP hS => ?_)
  obtain ⟨eσ_2, hB⟩ := hB
  rw [eσ_2] at hP
  obtain ⟨z_3, hB⟩ := hB
  rw [hQm]
  exact W.zret hx hb hr (cdb_n z_3) (fun t ht hW => ⟨⟨r_1, σ, rfl, ⟨rfl, hB⟩, cd_hp ht hP⟩, hS.F ht⟩) hS.2.2 dX6_isHead_11
def wp_X6_copy (v1 : Int32) (v2 : Int32) (σ : cdS) (Q : cdS → Prop) : Prop :=
  ∀ (P14 : Int32 → cdS → Prop),
    (∀ (x3 : Int32) (σ : cdS), (
    (((49 : Int32) ≤ x3 →
    Q σ) ∧
    (¬ ((49 : Int32) ≤ x3) →
    vp_in (((49 : Int32) * v1) + x3) 245 ∧
    vp_in (((49 : Int32) * v2) + x3) 245 ∧ ∀ σ_7 : cdS, σ_7 = cdU σ 22 ((((49 : Int32) * v2) + x3)).toNatClampNeg (σ.1 22 ((((49 : Int32) * v1) + x3)).toNatClampNeg) →
    ∀ x3_8 : Int32, x3_8 = x3 + 1 →
    P14 x3_8 σ_7))) → P14 x3 σ) →
    
    vp_in v1 5 ∧
    vp_in v2 5 ∧ ∀ σ_3 : cdS, σ_3 = cdU σ 21 (v2).toNatClampNeg (σ.1 21 (v1).toNatClampNeg) →
    P14 (0 : Int32) σ_3
set_option maxHeartbeats 4000000 in
set_option maxRecDepth 100000 in
theorem c_X6_copy (l : Launch) (g : cdG) (v1 : Int32) (v2 : Int32) (σ : cdS) (Q : cdS → Prop) (hwp : wp_X6_copy v1 v2 σ Q) : cdCv l g yX6_copy cX6_copy 4 none 0 0 [.ref (cdA g 19), .int v1, .int v2] σ Q := by
  intro sz
  refine Met.ofW (cc := cX6_copy) (maxL := 4) (ret := none) (by decide) rfl ?_
  intro p e s m args below meth c s₁ B hml hv
  obtain ⟨rfl, hsz, hP, hK, hdi, hV⟩ := hv
  subst hsz
  have hx := B.exec
  have hb := B.bytes
  have hr := B.returns
  have hlocks := B.notSynchronized
  have hown : s.vm.findClass RX6 = some m.cls := findClass_of_methodNamed B.named
  have hts : ∀ w ∈ cdL, w.before _ s = true := fun w hw => atoms_spec (ws := cdWs yX6_copy cX6_copy 4 none) B.pre w (List.mem_cons_of_mem _ hw)
  have X : cdX p s m _ c cX6_copy 4 RX6 g := ⟨hx, hb, hml, hown, hts, hK, hdi, hV⟩
  have hS : va_S (cdZ g s.heap.size) s.heap s.heap [] := va_S.rf
  have hl := lv_entry ([.ref (cdA g 19), .int v1, .int v2]) (n := 4) (Nat.le_of_ble_eq_true rfl)
  rw [lg_entry_eq]
  generalize (lg_sl ([.ref (cdA g 19), .int v1, .int v2]) ++ List.replicate (4 - (lg_sl ([.ref (cdA g 19), .int v1, .int v2])).length) Slot.unset).toArray = ls at hl ⊢
  have hl : lv_has ls 4 [(0, .ref (cdA g 19)), (1, .int v1), (2, .int v2)] := hl
  obtain ⟨Qm, hQm⟩ : ∃ z, z = MQ below (va_Qv Q (fun σ' t => va_P (cdD g) vwCl (cdW g σ') t.heap) (cdZ g s.heap.size)) ([.ref (cdA g 19), .int v1, .int v2] : List Value).toArray s 0 0 (cdZ g s.heap.size) := ⟨_, rfl⟩
  rw [← hQm]
  have hB := hwp (fun (x3 : Int32) (σ : cdS) => cdCut p l e (headSpec (cdWs yX6_copy cX6_copy 4 none) (cdRm 0 0)).room s m ([.ref (cdA g 19), .int v1, .int v2] : List Value).toArray below meth c Qm g 4 14 [(0, .ref (cdA g 19)), (1, .int v1), (2, .int v2), (3, .int x3)] [] σ)
    (by
    intro x3 σ hB H locs ls hP hS hl
    refine lv_iload_n hx hb dX6_copy_14 rfl (lv_at hl 3 rfl) ?_
    refine lv_bipush (v := 49) hx hb dX6_copy_15 (by decide) ?_
    refine lv_icmp_ge (tgt := 48) hx hb dX6_copy_17 (by decide) (fun c_4 => ?_) (fun c_4 => ?_)
    · have hB := hB.1 c_4
      rw [hQm]
      exact W.vret hx hb hr (fun t ht hW => ⟨⟨σ, rfl, hB, cd_hp ht hP⟩, hS.F ht⟩) hS.2.2 dX6_copy_48
    · have hB := hB.2 c_4
      refine lv_aload_n hx hb dX6_copy_20 rfl (lv_at hl 0 rfl) ?_
      refine cd_get X hP (C := RX6) (T := TX6) (N := 20) (ci := 6) (k := 19) (j := 4) (v := .ref (cdA g 22)) inX6 (by decide) rfl rfl (by decide) wf_X6_16 rfl rfl dX6_copy_21 ?_
      refine lv_bipush (v := 49) hx hb dX6_copy_24 (by decide) ?_
      refine lv_iload_n hx hb dX6_copy_26 rfl (lv_at hl 2 rfl) ?_
      refine lv_imul hx hb dX6_copy_27 ?_
      refine lv_iload_n hx hb dX6_copy_28 rfl (lv_at hl 3 rfl) ?_
      refine lv_iadd hx hb dX6_copy_29 ?_
      refine lv_aload_n hx hb dX6_copy_30 rfl (lv_at hl 0 rfl) ?_
      refine cd_get X hP (C := RX6) (T := TX6) (N := 20) (ci := 6) (k := 19) (j := 4) (v := .ref (cdA g 22)) inX6 (by decide) rfl rfl (by decide) wf_X6_16 rfl rfl dX6_copy_31 ?_
      refine lv_bipush (v := 49) hx hb dX6_copy_34 (by decide) ?_
      refine lv_iload_n hx hb dX6_copy_36 rfl (lv_at hl 1 rfl) ?_
      refine lv_imul hx hb dX6_copy_37 ?_
      refine lv_iload_n hx hb dX6_copy_38 rfl (lv_at hl 3 rfl) ?_
      refine lv_iadd hx hb dX6_copy_39 ?_
      obtain ⟨i_5, hB⟩ := hB
      refine cd_ald X hP (k := 22) (N := 245) (by decide) rfl i_5 dX6_copy_40 ?_
      obtain ⟨i_6, hB⟩ := hB
      refine cd_ast X hP hS (k := 22) (N := 245) (by decide) (fun _ => rfl) i_6 dX6_copy_41 (fun H locs hP hS => ?_)
      obtain ⟨σ_7, eσ_7⟩ : ∃ z : cdS, z = cdU σ 22 ((((49 : Int32) * v2) + x3)).toNatClampNeg (σ.1 22 ((((49 : Int32) * v1) + x3)).toNatClampNeg) := ⟨_, rfl⟩
      rw [← eσ_7] at hP
      have hB := hB σ_7 eσ_7
      obtain ⟨x3_8, ex3_8⟩ : ∃ z : Int32, z = x3 + 1 := ⟨_, rfl⟩
      have hB := hB x3_8 ex3_8
      refine lv_iinc (v := x3_8) (lv' := [(3, .int x3_8), (0, .ref (cdA g 19)), (1, .int v1), (2, .int v2)]) hx hb dX6_copy_42 hl (k := 3) rfl (by rw [ex3_8]; rfl) (by decide) rfl (fun ls hl => ?_)
      refine lv_goto (tgt := 14) hx hb dX6_copy_45 (by decide) ?_
      exact hB _ _ _ hP hS (lv_sub hl [1, 2, 3, 0] rfl))
  refine lv_aload_n hx hb dX6_copy_0 rfl (lv_at hl 0 rfl) ?_
  refine cd_get X hP (C := RX6) (T := TX6) (N := 20) (ci := 6) (k := 19) (j := 3) (v := .ref (cdA g 21)) inX6 (by decide) rfl rfl (by decide) wf_X6_13 rfl rfl dX6_copy_1 ?_
  refine lv_iload_n hx hb dX6_copy_4 rfl (lv_at hl 2 rfl) ?_
  refine lv_aload_n hx hb dX6_copy_5 rfl (lv_at hl 0 rfl) ?_
  refine cd_get X hP (C := RX6) (T := TX6) (N := 20) (ci := 6) (k := 19) (j := 3) (v := .ref (cdA g 21)) inX6 (by decide) rfl rfl (by decide) wf_X6_13 rfl rfl dX6_copy_6 ?_
  refine lv_iload_n hx hb dX6_copy_9 rfl (lv_at hl 1 rfl) ?_
  obtain ⟨i_1, hB⟩ := hB
  refine cd_ald X hP (k := 21) (N := 5) (by decide) rfl i_1 dX6_copy_10 ?_
  obtain ⟨i_2, hB⟩ := hB
  refine cd_ast X hP hS (k := 21) (N := 5) (by decide) (fun _ => rfl) i_2 dX6_copy_11 (fun H locs hP hS => ?_)
  obtain ⟨σ_3, eσ_3⟩ : ∃ z : cdS, z = cdU σ 21 (v2).toNatClampNeg (σ.1 21 (v1).toNatClampNeg) := ⟨_, rfl⟩
  rw [← eσ_3] at hP
  have hB := hB σ_3 eσ_3
  refine lv_iconst (v := 0) hx hb dX6_copy_12 (by decide) ?_
  refine lv_istore_n (lv' := [(3, .int (0 : Int32)), (0, .ref (cdA g 19)), (1, .int v1), (2, .int v2)]) hx hb dX6_copy_13 rfl hl (by decide) rfl (fun ls hl => ?_)
  exact hB _ _ _ hP hS (lv_sub hl [1, 2, 3, 0] rfl)
def wp_X6_cell (v0 : Int32) (v1 : Int32) (v2 : Int32) (σ : cdS) (Q : Int32 → Prop) : Prop :=
  
    Q (((((49 : Int32) * v0) + ((7 : Int32) * (v2 + (3 : Int32)))) + v1) + (3 : Int32))
set_option maxHeartbeats 4000000 in
set_option maxRecDepth 100000 in
theorem c_X6_cell (l : Launch) (g : cdG) (v0 : Int32) (v1 : Int32) (v2 : Int32) (σ : cdS) (Q : Int32 → Prop) (hwp : wp_X6_cell v0 v1 v2 σ Q) : cdCi l g yX6_cell cX6_cell 3 (some .int) 0 0 [.int v0, .int v1, .int v2] σ (fun r σ' => σ' = σ ∧ Q r) := by
  intro sz
  refine Met.ofW (cc := cX6_cell) (maxL := 3) (ret := (some .int)) (by decide) rfl ?_
  intro p e s m args below meth c s₁ B hml hv
  obtain ⟨rfl, hsz, hP, hK, hdi, hV⟩ := hv
  subst hsz
  have hx := B.exec
  have hb := B.bytes
  have hr := B.returns
  have hlocks := B.notSynchronized
  have hown : s.vm.findClass RX6 = some m.cls := findClass_of_methodNamed B.named
  have hts : ∀ w ∈ cdL, w.before _ s = true := fun w hw => atoms_spec (ws := cdWs yX6_cell cX6_cell 3 (some .int)) B.pre w (List.mem_cons_of_mem _ hw)
  have X : cdX p s m _ c cX6_cell 3 RX6 g := ⟨hx, hb, hml, hown, hts, hK, hdi, hV⟩
  have hS : va_S (cdZ g s.heap.size) s.heap s.heap [] := va_S.rf
  have hl := lv_entry ([.int v0, .int v1, .int v2]) (n := 3) (Nat.le_of_ble_eq_true rfl)
  rw [lg_entry_eq]
  generalize (lg_sl ([.int v0, .int v1, .int v2]) ++ List.replicate (3 - (lg_sl ([.int v0, .int v1, .int v2])).length) Slot.unset).toArray = ls at hl ⊢
  have hl : lv_has ls 3 [(0, .int v0), (1, .int v1), (2, .int v2)] := hl
  obtain ⟨Qm, hQm⟩ : ∃ z, z = MQ below (va_Qi (fun r σ' => σ' = σ ∧ Q r) (fun σ' t => va_P (cdD g) vwCl (cdW g σ') t.heap) (cdZ g s.heap.size)) ([.int v0, .int v1, .int v2] : List Value).toArray s 0 0 (cdZ g s.heap.size) := ⟨_, rfl⟩
  rw [← hQm]
  have hB := hwp
  refine lv_bipush (v := 49) hx hb dX6_cell_0 (by decide) ?_
  refine lv_iload_n hx hb dX6_cell_2 rfl (lv_at hl 0 rfl) ?_
  refine lv_imul hx hb dX6_cell_3 ?_
  refine lv_bipush (v := 7) hx hb dX6_cell_4 (by decide) ?_
  refine lv_iload_n hx hb dX6_cell_6 rfl (lv_at hl 2 rfl) ?_
  refine lv_iconst (v := 3) hx hb dX6_cell_7 (by decide) ?_
  refine lv_iadd hx hb dX6_cell_8 ?_
  refine lv_imul hx hb dX6_cell_9 ?_
  refine lv_iadd hx hb dX6_cell_10 ?_
  refine lv_iload_n hx hb dX6_cell_11 rfl (lv_at hl 1 rfl) ?_
  refine lv_iadd hx hb dX6_cell_12 ?_
  refine lv_iconst (v := 3) hx hb dX6_cell_13 (by decide) ?_
  refine lv_iadd hx hb dX6_cell_14 ?_
  rw [hQm]
  exact W.iret hx hb hr (fun t ht hW => ⟨⟨(((((49 : Int32) * v0) + ((7 : Int32) * (v2 + (3 : Int32)))) + v1) + (3 : Int32)), σ, rfl, ⟨rfl, hB⟩, cd_hp ht hP⟩, hS.F ht⟩) hS.2.2 dX6_cell_15
def wp_X6_depthAt (v1 : Int32) (v2 : Int32) (v3 : Int32) (σ : cdS) (Q : Int32 → Prop) : Prop :=
  
    wp_X6_within v2 (-3 : Int32) (3 : Int32) σ (fun r_1 => 
    ((r_1 = 0 →
    Q (0 : Int32)) ∧
    (¬ (r_1 = 0) →
    wp_X6_within v3 (-3 : Int32) (3 : Int32) σ (fun r_4 => 
    ((r_4 = 0 →
    Q (0 : Int32)) ∧
    (¬ (r_4 = 0) →
    wp_X6_cell v1 v2 v3 σ (fun r_7 => 
    vp_in r_7 245 ∧
    Q (σ.1 22 (r_7).toNatClampNeg))))))))
set_option maxHeartbeats 4000000 in
set_option maxRecDepth 100000 in
theorem c_X6_depthAt (l : Launch) (g : cdG) (v1 : Int32) (v2 : Int32) (v3 : Int32) (σ : cdS) (Q : Int32 → Prop) (hwp : wp_X6_depthAt v1 v2 v3 σ Q) : cdCi l g yX6_depthAt cX6_depthAt 4 (some .int) 1 22 [.ref (cdA g 19), .int v1, .int v2, .int v3] σ (fun r σ' => σ' = σ ∧ Q r) := by
  intro sz
  refine Met.ofW (cc := cX6_depthAt) (maxL := 4) (ret := (some .int)) (by decide) rfl ?_
  intro p e s m args below meth c s₁ B hml hv
  obtain ⟨rfl, hsz, hP, hK, hdi, hV⟩ := hv
  subst hsz
  have hx := B.exec
  have hb := B.bytes
  have hr := B.returns
  have hlocks := B.notSynchronized
  have hown : s.vm.findClass RX6 = some m.cls := findClass_of_methodNamed B.named
  have hts : ∀ w ∈ cdL, w.before _ s = true := fun w hw => atoms_spec (ws := cdWs yX6_depthAt cX6_depthAt 4 (some .int)) B.pre w (List.mem_cons_of_mem _ hw)
  have X : cdX p s m _ c cX6_depthAt 4 RX6 g := ⟨hx, hb, hml, hown, hts, hK, hdi, hV⟩
  have hS : va_S (cdZ g s.heap.size) s.heap s.heap [] := va_S.rf
  have hl := lv_entry ([.ref (cdA g 19), .int v1, .int v2, .int v3]) (n := 4) (Nat.le_of_ble_eq_true rfl)
  rw [lg_entry_eq]
  generalize (lg_sl ([.ref (cdA g 19), .int v1, .int v2, .int v3]) ++ List.replicate (4 - (lg_sl ([.ref (cdA g 19), .int v1, .int v2, .int v3])).length) Slot.unset).toArray = ls at hl ⊢
  have hl : lv_has ls 4 [(0, .ref (cdA g 19)), (1, .int v1), (2, .int v2), (3, .int v3)] := hl
  obtain ⟨Qm, hQm⟩ : ∃ z, z = MQ below (va_Qi (fun r σ' => σ' = σ ∧ Q r) (fun σ' t => va_P (cdD g) vwCl (cdW g σ') t.heap) (cdZ g s.heap.size)) ([.ref (cdA g 19), .int v1, .int v2, .int v3] : List Value).toArray s 0 0 (cdZ g s.heap.size) := ⟨_, rfl⟩
  rw [← hQm]
  have hB := hwp
  refine lv_iload_n hx hb dX6_depthAt_0 rfl (lv_at hl 2 rfl) ?_
  refine lv_bipush (v := -3) hx hb dX6_depthAt_1 (by decide) ?_
  refine lv_iconst (v := 3) hx hb dX6_depthAt_3 (by decide) ?_
  refine cd_ci (cd_runS (As := [.int v2, .int (-3 : Int32), .int (3 : Int32)]) (rest := []) (σ := σ) X wm_X6_22 (c_X6_within l g v2 (-3 : Int32) (3 : Int32) σ _ hB _) hP hS rfl rfl hl.1 (Nat.le_of_ble_eq_true rfl) ⟨Nat.le_of_ble_eq_true rfl, Nat.le_of_ble_eq_true rfl⟩ ⟨Nat.zero_le _, Nat.zero_le _⟩ dX6_depthAt_4) hS (fun r_1 σ_2 H locs hB hP hS => ?_)
  obtain ⟨eσ_2, hB⟩ := hB
  rw [eσ_2] at hP
  refine lv_if_eq (tgt := 34) hx hb dX6_depthAt_7 (by decide) (fun c_3 => ?_) (fun c_3 => ?_)
  · have hB := hB.1 c_3
    refine lv_iconst (v := 0) hx hb dX6_depthAt_34 (by decide) ?_
    rw [hQm]
    exact W.iret hx hb hr (fun t ht hW => ⟨⟨(0 : Int32), σ, rfl, ⟨rfl, hB⟩, cd_hp ht hP⟩, hS.F ht⟩) hS.2.2 dX6_depthAt_35
  · have hB := hB.2 c_3
    refine lv_iload_n hx hb dX6_depthAt_10 rfl (lv_at hl 3 rfl) ?_
    refine lv_bipush (v := -3) hx hb dX6_depthAt_11 (by decide) ?_
    refine lv_iconst (v := 3) hx hb dX6_depthAt_13 (by decide) ?_
    refine cd_ci (cd_runS (As := [.int v3, .int (-3 : Int32), .int (3 : Int32)]) (rest := []) (σ := σ) X wm_X6_22 (c_X6_within l g v3 (-3 : Int32) (3 : Int32) σ _ hB _) hP hS rfl rfl hl.1 (Nat.le_of_ble_eq_true rfl) ⟨Nat.le_of_ble_eq_true rfl, Nat.le_of_ble_eq_true rfl⟩ ⟨Nat.zero_le _, Nat.zero_le _⟩ dX6_depthAt_14) hS (fun r_4 σ_5 H locs hB hP hS => ?_)
    obtain ⟨eσ_5, hB⟩ := hB
    rw [eσ_5] at hP
    refine lv_if_eq (tgt := 34) hx hb dX6_depthAt_17 (by decide) (fun c_6 => ?_) (fun c_6 => ?_)
    · have hB := hB.1 c_6
      refine lv_iconst (v := 0) hx hb dX6_depthAt_34 (by decide) ?_
      rw [hQm]
      exact W.iret hx hb hr (fun t ht hW => ⟨⟨(0 : Int32), σ, rfl, ⟨rfl, hB⟩, cd_hp ht hP⟩, hS.F ht⟩) hS.2.2 dX6_depthAt_35
    · have hB := hB.2 c_6
      refine lv_aload_n hx hb dX6_depthAt_20 rfl (lv_at hl 0 rfl) ?_
      refine cd_get X hP (C := RX6) (T := TX6) (N := 20) (ci := 6) (k := 19) (j := 4) (v := .ref (cdA g 22)) inX6 (by decide) rfl rfl (by decide) wf_X6_16 rfl rfl dX6_depthAt_21 ?_
      refine lv_iload_n hx hb dX6_depthAt_24 rfl (lv_at hl 1 rfl) ?_
      refine lv_iload_n hx hb dX6_depthAt_25 rfl (lv_at hl 2 rfl) ?_
      refine lv_iload_n hx hb dX6_depthAt_26 rfl (lv_at hl 3 rfl) ?_
      refine cd_ci (cd_runS (As := [.int v1, .int v2, .int v3]) (rest := [.ref (cdA g 22)]) (σ := σ) X wm_X6_54 (c_X6_cell l g v1 v2 v3 σ _ hB _) hP hS rfl rfl hl.1 (Nat.le_of_ble_eq_true rfl) ⟨Nat.le_of_ble_eq_true rfl, Nat.le_of_ble_eq_true rfl⟩ ⟨Nat.zero_le _, Nat.zero_le _⟩ dX6_depthAt_27) hS (fun r_7 σ_8 H locs hB hP hS => ?_)
      obtain ⟨eσ_8, hB⟩ := hB
      rw [eσ_8] at hP
      obtain ⟨i_9, hB⟩ := hB
      refine cd_ald X hP (k := 22) (N := 245) (by decide) rfl i_9 dX6_depthAt_30 ?_
      refine lv_goto (tgt := 35) hx hb dX6_depthAt_31 (by decide) ?_
      rw [hQm]
      exact W.iret hx hb hr (fun t ht hW => ⟨⟨(σ.1 22 (r_7).toNatClampNeg), σ, rfl, ⟨rfl, hB⟩, cd_hp ht hP⟩, hS.F ht⟩) hS.2.2 dX6_depthAt_35
def wp_X6_thrownBy (v1 : Int32) (σ : cdS) (Q : Int32 → Prop) : Prop :=
  ∀ (P4 : Int32 → Int32 → Prop),
    (∀ (x2 : Int32) (x3 : Int32), (
    (((49 : Int32) ≤ x3 →
    Q x2) ∧
    (¬ ((49 : Int32) ≤ x3) →
    vp_in (((49 : Int32) * v1) + x3) 245 ∧
    ∀ x2_3 : Int32, x2_3 = (x2 + (σ.1 22 ((((49 : Int32) * v1) + x3)).toNatClampNeg)) →
    ∀ x3_4 : Int32, x3_4 = x3 + 1 →
    P4 x2_3 x3_4))) → P4 x2 x3) →
    
    P4 (0 : Int32) (0 : Int32)
set_option maxHeartbeats 4000000 in
set_option maxRecDepth 100000 in
theorem c_X6_thrownBy (l : Launch) (g : cdG) (v1 : Int32) (σ : cdS) (Q : Int32 → Prop) (hwp : wp_X6_thrownBy v1 σ Q) : cdCi l g yX6_thrownBy cX6_thrownBy 4 (some .int) 0 0 [.ref (cdA g 19), .int v1] σ (fun r σ' => σ' = σ ∧ Q r) := by
  intro sz
  refine Met.ofW (cc := cX6_thrownBy) (maxL := 4) (ret := (some .int)) (by decide) rfl ?_
  intro p e s m args below meth c s₁ B hml hv
  obtain ⟨rfl, hsz, hP, hK, hdi, hV⟩ := hv
  subst hsz
  have hx := B.exec
  have hb := B.bytes
  have hr := B.returns
  have hlocks := B.notSynchronized
  have hown : s.vm.findClass RX6 = some m.cls := findClass_of_methodNamed B.named
  have hts : ∀ w ∈ cdL, w.before _ s = true := fun w hw => atoms_spec (ws := cdWs yX6_thrownBy cX6_thrownBy 4 (some .int)) B.pre w (List.mem_cons_of_mem _ hw)
  have X : cdX p s m _ c cX6_thrownBy 4 RX6 g := ⟨hx, hb, hml, hown, hts, hK, hdi, hV⟩
  have hS : va_S (cdZ g s.heap.size) s.heap s.heap [] := va_S.rf
  have hl := lv_entry ([.ref (cdA g 19), .int v1]) (n := 4) (Nat.le_of_ble_eq_true rfl)
  rw [lg_entry_eq]
  generalize (lg_sl ([.ref (cdA g 19), .int v1]) ++ List.replicate (4 - (lg_sl ([.ref (cdA g 19), .int v1])).length) Slot.unset).toArray = ls at hl ⊢
  have hl : lv_has ls 4 [(0, .ref (cdA g 19)), (1, .int v1)] := hl
  obtain ⟨Qm, hQm⟩ : ∃ z, z = MQ below (va_Qi (fun r σ' => σ' = σ ∧ Q r) (fun σ' t => va_P (cdD g) vwCl (cdW g σ') t.heap) (cdZ g s.heap.size)) ([.ref (cdA g 19), .int v1] : List Value).toArray s 0 0 (cdZ g s.heap.size) := ⟨_, rfl⟩
  rw [← hQm]
  have hB := hwp (fun (x2 : Int32) (x3 : Int32) => cdCut p l e (headSpec (cdWs yX6_thrownBy cX6_thrownBy 4 (some .int)) (cdRm 0 0)).room s m ([.ref (cdA g 19), .int v1] : List Value).toArray below meth c Qm g 4 4 [(0, .ref (cdA g 19)), (1, .int v1), (2, .int x2), (3, .int x3)] [] σ)
    (by
    intro x2 x3 hB H locs ls hP hS hl
    refine lv_iload_n hx hb dX6_thrownBy_4 rfl (lv_at hl 3 rfl) ?_
    refine lv_bipush (v := 49) hx hb dX6_thrownBy_5 (by decide) ?_
    refine lv_icmp_ge (tgt := 30) hx hb dX6_thrownBy_7 (by decide) (fun c_1 => ?_) (fun c_1 => ?_)
    · have hB := hB.1 c_1
      refine lv_iload_n hx hb dX6_thrownBy_30 rfl (lv_at hl 2 rfl) ?_
      rw [hQm]
      exact W.iret hx hb hr (fun t ht hW => ⟨⟨x2, σ, rfl, ⟨rfl, hB⟩, cd_hp ht hP⟩, hS.F ht⟩) hS.2.2 dX6_thrownBy_31
    · have hB := hB.2 c_1
      refine lv_iload_n hx hb dX6_thrownBy_10 rfl (lv_at hl 2 rfl) ?_
      refine lv_aload_n hx hb dX6_thrownBy_11 rfl (lv_at hl 0 rfl) ?_
      refine cd_get X hP (C := RX6) (T := TX6) (N := 20) (ci := 6) (k := 19) (j := 4) (v := .ref (cdA g 22)) inX6 (by decide) rfl rfl (by decide) wf_X6_16 rfl rfl dX6_thrownBy_12 ?_
      refine lv_bipush (v := 49) hx hb dX6_thrownBy_15 (by decide) ?_
      refine lv_iload_n hx hb dX6_thrownBy_17 rfl (lv_at hl 1 rfl) ?_
      refine lv_imul hx hb dX6_thrownBy_18 ?_
      refine lv_iload_n hx hb dX6_thrownBy_19 rfl (lv_at hl 3 rfl) ?_
      refine lv_iadd hx hb dX6_thrownBy_20 ?_
      obtain ⟨i_2, hB⟩ := hB
      refine cd_ald X hP (k := 22) (N := 245) (by decide) rfl i_2 dX6_thrownBy_21 ?_
      refine lv_iadd hx hb dX6_thrownBy_22 ?_
      refine lv_topi (fun x2_3 ex2_3 => ?_)
      have hB := hB x2_3 ex2_3
      refine lv_istore_n (lv' := [(2, .int x2_3), (0, .ref (cdA g 19)), (1, .int v1), (3, .int x3)]) hx hb dX6_thrownBy_23 rfl hl (by decide) rfl (fun ls hl => ?_)
      obtain ⟨x3_4, ex3_4⟩ : ∃ z : Int32, z = x3 + 1 := ⟨_, rfl⟩
      have hB := hB x3_4 ex3_4
      refine lv_iinc (v := x3_4) (lv' := [(3, .int x3_4), (2, .int x2_3), (0, .ref (cdA g 19)), (1, .int v1)]) hx hb dX6_thrownBy_24 hl (k := 3) rfl (by rw [ex3_4]; rfl) (by decide) rfl (fun ls hl => ?_)
      refine lv_goto (tgt := 4) hx hb dX6_thrownBy_27 (by decide) ?_
      exact hB _ _ _ hP hS (lv_sub hl [2, 3, 1, 0] rfl))
  refine lv_iconst (v := 0) hx hb dX6_thrownBy_0 (by decide) ?_
  refine lv_istore_n (lv' := [(2, .int (0 : Int32)), (0, .ref (cdA g 19)), (1, .int v1)]) hx hb dX6_thrownBy_1 rfl hl (by decide) rfl (fun ls hl => ?_)
  refine lv_iconst (v := 0) hx hb dX6_thrownBy_2 (by decide) ?_
  refine lv_istore_n (lv' := [(3, .int (0 : Int32)), (2, .int (0 : Int32)), (0, .ref (cdA g 19)), (1, .int v1)]) hx hb dX6_thrownBy_3 rfl hl (by decide) rfl (fun ls hl => ?_)
  exact hB _ _ _ hP hS (lv_sub hl [2, 3, 1, 0] rfl)
def wp_X6_bend (v1 : Int32) (v2 : Int32) (v3 : Int32) (σ : cdS) (Q : Int32 → cdS → Prop) : Prop :=
  ∀ (P55 : Int32 → Int32 → cdS → Prop) (P110 : Int32 → Int32 → Int32 → Int32 → cdS → Prop) (P111 : Int32 → Int32 → Int32 → Int32 → Int32 → cdS → Prop) (P146 : Int32 → Int32 → Int32 → Int32 → cdS → Prop),
    (∀ (x4 : Int32) (x5 : Int32) (σ : cdS), (
    (((49 : Int32) ≤ x5 →
    wp_X6_thrownBy v1 σ (fun r_15 => 
    Q r_15 σ)) ∧
    (¬ ((49 : Int32) ≤ x5) →
    ∀ x6_17 : Int32, x6_17 = ((cdm x5 (7 : Int32)) - (3 : Int32)) →
    ∀ x7_18 : Int32, x7_18 = ((x5 / (7 : Int32)) - (3 : Int32)) →
    wp_X6_within x6_17 (-x4) x4 σ (fun r_19 => 
    ((r_19 = 0 →
    P110 x4 x5 x6_17 x7_18 σ) ∧
    (¬ (r_19 = 0) →
    wp_X6_within x7_18 (-x4) x4 σ (fun r_22 => 
    ((r_22 = 0 →
    P110 x4 x5 x6_17 x7_18 σ) ∧
    (¬ (r_22 = 0) →
    P111 x4 x5 x6_17 x7_18 (1 : Int32) σ))))))))) → P55 x4 x5 σ) →
    (∀ (x4 : Int32) (x5 : Int32) (x6 : Int32) (x7 : Int32) (σ : cdS), (
    P111 x4 x5 x6 x7 (0 : Int32) σ) → P110 x4 x5 x6 x7 σ) →
    (∀ (x4 : Int32) (x5 : Int32) (x6 : Int32) (x7 : Int32) (t0 : Int32) (σ : cdS), (
    ((t0 = 0 →
    P146 x4 x5 (0 : Int32) (((49 : Int32) * v1) + x5) σ) ∧
    (¬ (t0 = 0) →
    wp_X6_depthAt (4 : Int32) (x6 - v2) (x7 - v3) σ (fun r_26 => 
    P146 x4 x5 r_26 (((49 : Int32) * v1) + x5) σ)))) → P111 x4 x5 x6 x7 t0 σ) →
    (∀ (x4 : Int32) (x5 : Int32) (t0 : Int32) (t1 : Int32) (σ : cdS), (
    vp_in t1 245 ∧ ∀ σ_29 : cdS, σ_29 = cdU σ 22 (t1).toNatClampNeg t0 →
    ∀ x5_30 : Int32, x5_30 = x5 + 1 →
    P55 x4 x5_30 σ_29) → P146 x4 x5 t0 t1 σ) →
    
    wp_X6_isHead v1 σ (fun r_1 => 
    ((¬ r_1 = 0 →
    wp_X6_within v2 (-2 : Int32) (2 : Int32) σ (fun r_4 => 
    ((r_4 = 0 →
    Q (-1000003 : Int32) σ) ∧
    (¬ (r_4 = 0) →
    wp_X6_within v3 (-2 : Int32) (2 : Int32) σ (fun r_7 => 
    ((¬ r_7 = 0 →
    wp_X6_copy v1 (4 : Int32) σ (fun σ_11 => 
    vp_in v1 5 ∧
    ∀ x4_13 : Int32, x4_13 = (((σ_11.1 21 (v1).toNatClampNeg) - (1 : Int32)) / (2 : Int32)) →
    P55 x4_13 (0 : Int32) σ_11)) ∧
    (r_7 = 0 →
    Q (-1000003 : Int32) σ))))))) ∧
    (r_1 = 0 →
    Q (-1000002 : Int32) σ)))
set_option maxHeartbeats 4000000 in
set_option maxRecDepth 100000 in
theorem c_X6_bend (l : Launch) (g : cdG) (v1 : Int32) (v2 : Int32) (v3 : Int32) (σ : cdS) (Q : Int32 → cdS → Prop) (hwp : wp_X6_bend v1 v2 v3 σ Q) : cdCi l g yX6_bend cX6_bend 9 (some .int) 2 45 [.ref (cdA g 19), .int v1, .int v2, .int v3] σ Q := by
  intro sz
  refine Met.ofW (cc := cX6_bend) (maxL := 9) (ret := (some .int)) (by decide) rfl ?_
  intro p e s m args below meth c s₁ B hml hv
  obtain ⟨rfl, hsz, hP, hK, hdi, hV⟩ := hv
  subst hsz
  have hx := B.exec
  have hb := B.bytes
  have hr := B.returns
  have hlocks := B.notSynchronized
  have hown : s.vm.findClass RX6 = some m.cls := findClass_of_methodNamed B.named
  have hts : ∀ w ∈ cdL, w.before _ s = true := fun w hw => atoms_spec (ws := cdWs yX6_bend cX6_bend 9 (some .int)) B.pre w (List.mem_cons_of_mem _ hw)
  have X : cdX p s m _ c cX6_bend 9 RX6 g := ⟨hx, hb, hml, hown, hts, hK, hdi, hV⟩
  have hS : va_S (cdZ g s.heap.size) s.heap s.heap [] := va_S.rf
  have hl := lv_entry ([.ref (cdA g 19), .int v1, .int v2, .int v3]) (n := 9) (Nat.le_of_ble_eq_true rfl)
  rw [lg_entry_eq]
  generalize (lg_sl ([.ref (cdA g 19), .int v1, .int v2, .int v3]) ++ List.replicate (9 - (lg_sl ([.ref (cdA g 19), .int v1, .int v2, .int v3])).length) Slot.unset).toArray = ls at hl ⊢
  have hl : lv_has ls 9 [(0, .ref (cdA g 19)), (1, .int v1), (2, .int v2), (3, .int v3)] := hl
  obtain ⟨Qm, hQm⟩ : ∃ z, z = MQ below (va_Qi Q (fun σ' t => va_P (cdD g) vwCl (cdW g σ') t.heap) (cdZ g s.heap.size)) ([.ref (cdA g 19), .int v1, .int v2, .int v3] : List Value).toArray s 0 0 (cdZ g s.heap.size) := ⟨_, rfl⟩
  rw [← hQm]
  have hB := hwp (fun (x4 : Int32) (x5 : Int32) (σ : cdS) => cdCut p l e (headSpec (cdWs yX6_bend cX6_bend 9 (some .int)) (cdRm 2 45)).room s m ([.ref (cdA g 19), .int v1, .int v2, .int v3] : List Value).toArray below meth c Qm g 9 55 [(0, .ref (cdA g 19)), (1, .int v1), (2, .int v2), (3, .int v3), (4, .int x4), (5, .int x5)] [] σ)
    (fun (x4 : Int32) (x5 : Int32) (x6 : Int32) (x7 : Int32) (σ : cdS) => cdCut p l e (headSpec (cdWs yX6_bend cX6_bend 9 (some .int)) (cdRm 2 45)).room s m ([.ref (cdA g 19), .int v1, .int v2, .int v3] : List Value).toArray below meth c Qm g 9 110 [(0, .ref (cdA g 19)), (1, .int v1), (2, .int v2), (3, .int v3), (4, .int x4), (5, .int x5), (6, .int x6), (7, .int x7)] [] σ)
    (fun (x4 : Int32) (x5 : Int32) (x6 : Int32) (x7 : Int32) (t0 : Int32) (σ : cdS) => cdCut p l e (headSpec (cdWs yX6_bend cX6_bend 9 (some .int)) (cdRm 2 45)).room s m ([.ref (cdA g 19), .int v1, .int v2, .int v3] : List Value).toArray below meth c Qm g 9 111 [(0, .ref (cdA g 19)), (1, .int v1), (2, .int v2), (3, .int v3), (4, .int x4), (5, .int x5), (6, .int x6), (7, .int x7)] [.int t0] σ)
    (fun (x4 : Int32) (x5 : Int32) (t0 : Int32) (t1 : Int32) (σ : cdS) => cdCut p l e (headSpec (cdWs yX6_bend cX6_bend 9 (some .int)) (cdRm 2 45)).room s m ([.ref (cdA g 19), .int v1, .int v2, .int v3] : List Value).toArray below meth c Qm g 9 146 [(0, .ref (cdA g 19)), (1, .int v1), (2, .int v2), (3, .int v3), (4, .int x4), (5, .int x5)] [.int t0, .int t1, .ref (cdA g 22)] σ)
    (by
    intro x4 x5 σ hB H locs ls hP hS hl
    refine lv_iload hx hb dX6_bend_55 (lv_at hl 5 rfl) ?_
    refine lv_bipush (v := 49) hx hb dX6_bend_57 (by decide) ?_
    refine lv_icmp_ge (tgt := 153) hx hb dX6_bend_59 (by decide) (fun c_14 => ?_) (fun c_14 => ?_)
    · have hB := hB.1 c_14
      refine lv_aload_n hx hb dX6_bend_153 rfl (lv_at hl 0 rfl) ?_
      refine lv_iload_n hx hb dX6_bend_154 rfl (lv_at hl 1 rfl) ?_
      refine cd_ci (cd_runV (As := [.int v1]) (rest := []) (σ := σ) (k := 19) (ci := 6) X wm_X6_86 (by decide) rfl rfl rfl (c_X6_thrownBy l g v1 σ _ hB _) hP hS rfl rfl hl.1 (Nat.le_of_ble_eq_true rfl) ⟨Nat.le_of_ble_eq_true rfl, Nat.le_of_ble_eq_true rfl⟩ ⟨Nat.zero_le _, Nat.zero_le _⟩ dX6_bend_155) hS (fun r_15 σ_16 H locs hB hP hS => ?_)
      obtain ⟨eσ_16, hB⟩ := hB
      rw [eσ_16] at hP
      rw [hQm]
      exact W.iret hx hb hr (fun t ht hW => ⟨⟨r_15, σ, rfl, hB, cd_hp ht hP⟩, hS.F ht⟩) hS.2.2 dX6_bend_158
    · have hB := hB.2 c_14
      refine lv_iload hx hb dX6_bend_62 (lv_at hl 5 rfl) ?_
      refine lv_bipush (v := 7) hx hb dX6_bend_64 (by decide) ?_
      refine lv_irem hx hb dX6_bend_66 (by decide) ?_
      refine lv_iconst (v := 3) hx hb dX6_bend_67 (by decide) ?_
      refine lv_isub hx hb dX6_bend_68 ?_
      refine lv_topi (fun x6_17 ex6_17 => ?_)
      have hB := hB x6_17 ex6_17
      refine lv_istore (lv' := [(6, .int x6_17), (0, .ref (cdA g 19)), (1, .int v1), (2, .int v2), (3, .int v3), (4, .int x4), (5, .int x5)]) hx hb dX6_bend_69 hl (by decide) rfl (fun ls hl => ?_)
      refine lv_iload hx hb dX6_bend_71 (lv_at hl 6 rfl) ?_
      refine lv_bipush (v := 7) hx hb dX6_bend_73 (by decide) ?_
      refine lv_idiv hx hb dX6_bend_75 (by decide) ?_
      refine lv_iconst (v := 3) hx hb dX6_bend_76 (by decide) ?_
      refine lv_isub hx hb dX6_bend_77 ?_
      refine lv_topi (fun x7_18 ex7_18 => ?_)
      have hB := hB x7_18 ex7_18
      refine lv_istore (lv' := [(7, .int x7_18), (6, .int x6_17), (0, .ref (cdA g 19)), (1, .int v1), (2, .int v2), (3, .int v3), (4, .int x4), (5, .int x5)]) hx hb dX6_bend_78 hl (by decide) rfl (fun ls hl => ?_)
      refine lv_iload hx hb dX6_bend_80 (lv_at hl 1 rfl) ?_
      refine lv_iload hx hb dX6_bend_82 (lv_at hl 6 rfl) ?_
      refine lv_ineg hx hb dX6_bend_84 ?_
      refine lv_iload hx hb dX6_bend_85 (lv_at hl 6 rfl) ?_
      refine cd_ci (cd_runS (As := [.int x6_17, .int (-x4), .int x4]) (rest := []) (σ := σ) X wm_X6_22 (c_X6_within l g x6_17 (-x4) x4 σ _ hB _) hP hS rfl rfl hl.1 (Nat.le_of_ble_eq_true rfl) ⟨Nat.le_of_ble_eq_true rfl, Nat.le_of_ble_eq_true rfl⟩ ⟨Nat.zero_le _, Nat.zero_le _⟩ dX6_bend_87) hS (fun r_19 σ_20 H locs hB hP hS => ?_)
      obtain ⟨eσ_20, hB⟩ := hB
      rw [eσ_20] at hP
      refine lv_if_eq (tgt := 110) hx hb dX6_bend_90 (by decide) (fun c_21 => ?_) (fun c_21 => ?_)
      · have hB := hB.1 c_21
        exact hB _ _ _ hP hS (lv_sub hl [2, 3, 4, 5, 6, 7, 1, 0] rfl)
      · have hB := hB.2 c_21
        refine lv_iload hx hb dX6_bend_93 (lv_at hl 0 rfl) ?_
        refine lv_iload hx hb dX6_bend_95 (lv_at hl 6 rfl) ?_
        refine lv_ineg hx hb dX6_bend_97 ?_
        refine lv_iload hx hb dX6_bend_98 (lv_at hl 6 rfl) ?_
        refine cd_ci (cd_runS (As := [.int x7_18, .int (-x4), .int x4]) (rest := []) (σ := σ) X wm_X6_22 (c_X6_within l g x7_18 (-x4) x4 σ _ hB _) hP hS rfl rfl hl.1 (Nat.le_of_ble_eq_true rfl) ⟨Nat.le_of_ble_eq_true rfl, Nat.le_of_ble_eq_true rfl⟩ ⟨Nat.zero_le _, Nat.zero_le _⟩ dX6_bend_100) hS (fun r_22 σ_23 H locs hB hP hS => ?_)
        obtain ⟨eσ_23, hB⟩ := hB
        rw [eσ_23] at hP
        refine lv_if_eq (tgt := 110) hx hb dX6_bend_103 (by decide) (fun c_24 => ?_) (fun c_24 => ?_)
        · have hB := hB.1 c_24
          exact hB _ _ _ hP hS (lv_sub hl [2, 3, 4, 5, 6, 7, 1, 0] rfl)
        · have hB := hB.2 c_24
          refine lv_iconst (v := 1) hx hb dX6_bend_106 (by decide) ?_
          refine lv_goto (tgt := 111) hx hb dX6_bend_107 (by decide) ?_
          exact hB _ _ _ hP hS (lv_sub hl [2, 3, 4, 5, 6, 7, 1, 0] rfl))
    (by
    intro x4 x5 x6 x7 σ hB H locs ls hP hS hl
    refine lv_iconst (v := 0) hx hb dX6_bend_110 (by decide) ?_
    exact hB _ _ _ hP hS (lv_sub hl [0, 1, 2, 3, 4, 5, 6, 7] rfl))
    (by
    intro x4 x5 x6 x7 t0 σ hB H locs ls hP hS hl
    refine lv_istore (lv' := [(8, .int t0), (0, .ref (cdA g 19)), (1, .int v1), (2, .int v2), (3, .int v3), (4, .int x4), (5, .int x5), (6, .int x6), (7, .int x7)]) hx hb dX6_bend_111 hl (by decide) rfl (fun ls hl => ?_)
    refine lv_aload_n hx hb dX6_bend_113 rfl (lv_at hl 1 rfl) ?_
    refine cd_get X hP (C := RX6) (T := TX6) (N := 20) (ci := 6) (k := 19) (j := 4) (v := .ref (cdA g 22)) inX6 (by decide) rfl rfl (by decide) wf_X6_16 rfl rfl dX6_bend_114 ?_
    refine lv_bipush (v := 49) hx hb dX6_bend_117 (by decide) ?_
    refine lv_iload_n hx hb dX6_bend_119 rfl (lv_at hl 2 rfl) ?_
    refine lv_imul hx hb dX6_bend_120 ?_
    refine lv_iload hx hb dX6_bend_121 (lv_at hl 6 rfl) ?_
    refine lv_iadd hx hb dX6_bend_123 ?_
    refine lv_iload hx hb dX6_bend_124 (lv_at hl 0 rfl) ?_
    refine lv_if_eq (tgt := 145) hx hb dX6_bend_126 (by decide) (fun c_25 => ?_) (fun c_25 => ?_)
    · have hB := hB.1 c_25
      refine lv_iconst (v := 0) hx hb dX6_bend_145 (by decide) ?_
      exact hB _ _ _ hP hS (lv_sub hl [1, 2, 3, 4, 5, 6] rfl)
    · have hB := hB.2 c_25
      refine lv_aload_n hx hb dX6_bend_129 rfl (lv_at hl 1 rfl) ?_
      refine lv_iconst (v := 4) hx hb dX6_bend_130 (by decide) ?_
      refine lv_iload hx hb dX6_bend_131 (lv_at hl 7 rfl) ?_
      refine lv_iload_n hx hb dX6_bend_133 rfl (lv_at hl 3 rfl) ?_
      refine lv_isub hx hb dX6_bend_134 ?_
      refine lv_iload hx hb dX6_bend_135 (lv_at hl 8 rfl) ?_
      refine lv_iload_n hx hb dX6_bend_137 rfl (lv_at hl 4 rfl) ?_
      refine lv_isub hx hb dX6_bend_138 ?_
      refine cd_ci (cd_runV (As := [.int (4 : Int32), .int (x6 - v2), .int (x7 - v3)]) (rest := [.int (((49 : Int32) * v1) + x5), .ref (cdA g 22)]) (σ := σ) (k := 19) (ci := 6) X wm_X6_76 (by decide) rfl rfl rfl (c_X6_depthAt l g (4 : Int32) (x6 - v2) (x7 - v3) σ _ hB _) hP hS rfl rfl hl.1 (Nat.le_of_ble_eq_true rfl) ⟨Nat.le_of_ble_eq_true rfl, Nat.le_of_ble_eq_true rfl⟩ ⟨Nat.zero_le _, Nat.zero_le _⟩ dX6_bend_139) hS (fun r_26 σ_27 H locs hB hP hS => ?_)
      obtain ⟨eσ_27, hB⟩ := hB
      rw [eσ_27] at hP
      refine lv_goto (tgt := 146) hx hb dX6_bend_142 (by decide) ?_
      exact hB _ _ _ hP hS (lv_sub hl [1, 2, 3, 4, 5, 6] rfl))
    (by
    intro x4 x5 t0 t1 σ hB H locs ls hP hS hl
    obtain ⟨i_28, hB⟩ := hB
    refine cd_ast X hP hS (k := 22) (N := 245) (by decide) (fun _ => rfl) i_28 dX6_bend_146 (fun H locs hP hS => ?_)
    obtain ⟨σ_29, eσ_29⟩ : ∃ z : cdS, z = cdU σ 22 (t1).toNatClampNeg t0 := ⟨_, rfl⟩
    rw [← eσ_29] at hP
    have hB := hB σ_29 eσ_29
    obtain ⟨x5_30, ex5_30⟩ : ∃ z : Int32, z = x5 + 1 := ⟨_, rfl⟩
    have hB := hB x5_30 ex5_30
    refine lv_iinc (v := x5_30) (lv' := [(5, .int x5_30), (0, .ref (cdA g 19)), (1, .int v1), (2, .int v2), (3, .int v3), (4, .int x4)]) hx hb dX6_bend_147 hl (k := 5) rfl (by rw [ex5_30]; rfl) (by decide) rfl (fun ls hl => ?_)
    refine lv_goto (tgt := 55) hx hb dX6_bend_150 (by decide) ?_
    exact hB _ _ _ hP hS (lv_sub hl [1, 2, 3, 4, 5, 0] rfl))
  refine lv_aload_n hx hb dX6_bend_0 rfl (lv_at hl 0 rfl) ?_
  refine lv_iload_n hx hb dX6_bend_1 rfl (lv_at hl 1 rfl) ?_
  refine cd_ci (cd_runV (As := [.int v1]) (rest := []) (σ := σ) (k := 19) (ci := 6) X wm_X6_65 (by decide) rfl rfl rfl (c_X6_isHead l g v1 σ _ hB _) hP hS rfl rfl hl.1 (Nat.le_of_ble_eq_true rfl) ⟨Nat.le_of_ble_eq_true rfl, Nat.le_of_ble_eq_true rfl⟩ ⟨Nat.zero_le _, Nat.zero_le _⟩ dX6_bend_2) hS (fun r_1 σ_2 H locs hB hP hS => ?_)
  obtain ⟨eσ_2, hB⟩ := hB
  rw [eσ_2] at hP
  refine lv_if_ne (tgt := 11) hx hb dX6_bend_5 (by decide) (fun c_3 => ?_) (fun c_3 => ?_)
  · have hB := hB.1 c_3
    refine lv_iload_n hx hb dX6_bend_11 rfl (lv_at hl 2 rfl) ?_
    refine lv_bipush (v := -2) hx hb dX6_bend_12 (by decide) ?_
    refine lv_iconst (v := 2) hx hb dX6_bend_14 (by decide) ?_
    refine cd_ci (cd_runS (As := [.int v2, .int (-2 : Int32), .int (2 : Int32)]) (rest := []) (σ := σ) X wm_X6_22 (c_X6_within l g v2 (-2 : Int32) (2 : Int32) σ _ hB _) hP hS rfl rfl hl.1 (Nat.le_of_ble_eq_true rfl) ⟨Nat.le_of_ble_eq_true rfl, Nat.le_of_ble_eq_true rfl⟩ ⟨Nat.zero_le _, Nat.zero_le _⟩ dX6_bend_15) hS (fun r_4 σ_5 H locs hB hP hS => ?_)
    obtain ⟨eσ_5, hB⟩ := hB
    rw [eσ_5] at hP
    refine lv_if_eq (tgt := 31) hx hb dX6_bend_18 (by decide) (fun c_6 => ?_) (fun c_6 => ?_)
    · have hB := hB.1 c_6
      refine lv_ldc (v := -1000003) hx hb hown (hts _ wc_X6_26) dX6_bend_31 ?_
      rw [hQm]
      exact W.iret hx hb hr (fun t ht hW => ⟨⟨(-1000003 : Int32), σ, rfl, hB, cd_hp ht hP⟩, hS.F ht⟩) hS.2.2 dX6_bend_33
    · have hB := hB.2 c_6
      refine lv_iload_n hx hb dX6_bend_21 rfl (lv_at hl 3 rfl) ?_
      refine lv_bipush (v := -2) hx hb dX6_bend_22 (by decide) ?_
      refine lv_iconst (v := 2) hx hb dX6_bend_24 (by decide) ?_
      refine cd_ci (cd_runS (As := [.int v3, .int (-2 : Int32), .int (2 : Int32)]) (rest := []) (σ := σ) X wm_X6_22 (c_X6_within l g v3 (-2 : Int32) (2 : Int32) σ _ hB _) hP hS rfl rfl hl.1 (Nat.le_of_ble_eq_true rfl) ⟨Nat.le_of_ble_eq_true rfl, Nat.le_of_ble_eq_true rfl⟩ ⟨Nat.zero_le _, Nat.zero_le _⟩ dX6_bend_25) hS (fun r_7 σ_8 H locs hB hP hS => ?_)
      obtain ⟨eσ_8, hB⟩ := hB
      rw [eσ_8] at hP
      refine lv_if_ne (tgt := 34) hx hb dX6_bend_28 (by decide) (fun c_9 => ?_) (fun c_9 => ?_)
      · have hB := hB.1 c_9
        refine lv_aload_n hx hb dX6_bend_34 rfl (lv_at hl 0 rfl) ?_
        refine lv_iload_n hx hb dX6_bend_35 rfl (lv_at hl 1 rfl) ?_
        refine lv_iconst (v := 4) hx hb dX6_bend_36 (by decide) ?_
        refine cd_cv (cd_runV (As := [.int v1, .int (4 : Int32)]) (rest := []) (σ := σ) (k := 19) (ci := 6) X wm_X6_72 (by decide) rfl rfl rfl (c_X6_copy l g v1 (4 : Int32) σ _ hB _) hP hS rfl rfl hl.1 (Nat.le_of_ble_eq_true rfl) ⟨Nat.le_of_ble_eq_true rfl, Nat.le_of_ble_eq_true rfl⟩ ⟨Nat.zero_le _, Nat.zero_le _⟩ dX6_bend_37) hS (fun σ_11 H locs hB hP hS => ?_)
        refine lv_aload_n hx hb dX6_bend_40 rfl (lv_at hl 0 rfl) ?_
        refine cd_get X hP (C := RX6) (T := TX6) (N := 20) (ci := 6) (k := 19) (j := 3) (v := .ref (cdA g 21)) inX6 (by decide) rfl rfl (by decide) wf_X6_13 rfl rfl dX6_bend_41 ?_
        refine lv_iload_n hx hb dX6_bend_44 rfl (lv_at hl 1 rfl) ?_
        obtain ⟨i_12, hB⟩ := hB
        refine cd_ald X hP (k := 21) (N := 5) (by decide) rfl i_12 dX6_bend_45 ?_
        refine lv_iconst (v := 1) hx hb dX6_bend_46 (by decide) ?_
        refine lv_isub hx hb dX6_bend_47 ?_
        refine lv_iconst (v := 2) hx hb dX6_bend_48 (by decide) ?_
        refine lv_idiv hx hb dX6_bend_49 (by decide) ?_
        refine lv_topi (fun x4_13 ex4_13 => ?_)
        have hB := hB x4_13 ex4_13
        refine lv_istore (lv' := [(4, .int x4_13), (0, .ref (cdA g 19)), (1, .int v1), (2, .int v2), (3, .int v3)]) hx hb dX6_bend_50 hl (by decide) rfl (fun ls hl => ?_)
        refine lv_iconst (v := 0) hx hb dX6_bend_52 (by decide) ?_
        refine lv_istore (lv' := [(5, .int (0 : Int32)), (4, .int x4_13), (0, .ref (cdA g 19)), (1, .int v1), (2, .int v2), (3, .int v3)]) hx hb dX6_bend_53 hl (by decide) rfl (fun ls hl => ?_)
        exact hB _ _ _ hP hS (lv_sub hl [2, 3, 4, 5, 1, 0] rfl)
      · have hB := hB.2 c_9
        refine lv_ldc (v := -1000003) hx hb hown (hts _ wc_X6_26) dX6_bend_31 ?_
        rw [hQm]
        exact W.iret hx hb hr (fun t ht hW => ⟨⟨(-1000003 : Int32), σ, rfl, hB, cd_hp ht hP⟩, hS.F ht⟩) hS.2.2 dX6_bend_33
  · have hB := hB.2 c_3
    refine lv_ldc (v := -1000002) hx hb hown (hts _ wc_X6_68) dX6_bend_8 ?_
    rw [hQm]
    exact W.iret hx hb hr (fun t ht hW => ⟨⟨(-1000002 : Int32), σ, rfl, hB, cd_hp ht hP⟩, hS.F ht⟩) hS.2.2 dX6_bend_10
def wp_X6_rowGround (v1 : Int32) (v2 : Int32) (v3 : Int32) (v4 : Int32) (v5 : Int32) (v6 : Int32) (σ : cdS) (Q : Int32 → Prop) : Prop :=
  ∀ (P7 : Int32 → Int32 → Prop) (P47 : Int32 → Int32 → Int32 → Prop) (P57 : Int32 → Int32 → Prop),
    (∀ (x7 : Int32) (x8 : Int32), (
    (((3 : Int32) < x8 →
    Q x7) ∧
    (¬ ((3 : Int32) < x8) →
    ∀ x9_2 : Int32, x9_2 = ((v5 - x8) - v4) →
    ¬ v3 = 0 ∧
    ((¬ (cdm x9_2 v3) = 0 →
    P57 x7 x8) ∧
    ((cdm x9_2 v3) = 0 →
    ¬ v3 = 0 ∧
    ((¬ (cdm (x9_2 / v3) (2 : Int32)) = 0 →
    P47 x8 v2 x7) ∧
    ((cdm (x9_2 / v3) (2 : Int32)) = 0 →
    P47 x8 v1 x7))))))) → P7 x7 x8) →
    (∀ (x8 : Int32) (t0 : Int32) (t2 : Int32), (
    wp_X6_depthAt t0 x8 v6 σ (fun r_8 => 
    ∀ x7_10 : Int32, x7_10 = (t2 + r_8) →
    P57 x7_10 x8)) → P47 x8 t0 t2) →
    (∀ (x7 : Int32) (x8 : Int32), (
    ∀ x8_7 : Int32, x8_7 = x8 + 1 →
    P7 x7 x8_7) → P57 x7 x8) →
    
    P7 (0 : Int32) (-3 : Int32)
set_option maxHeartbeats 4000000 in
set_option maxRecDepth 100000 in
theorem c_X6_rowGround (l : Launch) (g : cdG) (v1 : Int32) (v2 : Int32) (v3 : Int32) (v4 : Int32) (v5 : Int32) (v6 : Int32) (σ : cdS) (Q : Int32 → Prop) (hwp : wp_X6_rowGround v1 v2 v3 v4 v5 v6 σ Q) : cdCi l g yX6_rowGround cX6_rowGround 10 (some .int) 2 45 [.ref (cdA g 19), .int v1, .int v2, .int v3, .int v4, .int v5, .int v6] σ (fun r σ' => σ' = σ ∧ Q r) := by
  intro sz
  refine Met.ofW (cc := cX6_rowGround) (maxL := 10) (ret := (some .int)) (by decide) rfl ?_
  intro p e s m args below meth c s₁ B hml hv
  obtain ⟨rfl, hsz, hP, hK, hdi, hV⟩ := hv
  subst hsz
  have hx := B.exec
  have hb := B.bytes
  have hr := B.returns
  have hlocks := B.notSynchronized
  have hown : s.vm.findClass RX6 = some m.cls := findClass_of_methodNamed B.named
  have hts : ∀ w ∈ cdL, w.before _ s = true := fun w hw => atoms_spec (ws := cdWs yX6_rowGround cX6_rowGround 10 (some .int)) B.pre w (List.mem_cons_of_mem _ hw)
  have X : cdX p s m _ c cX6_rowGround 10 RX6 g := ⟨hx, hb, hml, hown, hts, hK, hdi, hV⟩
  have hS : va_S (cdZ g s.heap.size) s.heap s.heap [] := va_S.rf
  have hl := lv_entry ([.ref (cdA g 19), .int v1, .int v2, .int v3, .int v4, .int v5, .int v6]) (n := 10) (Nat.le_of_ble_eq_true rfl)
  rw [lg_entry_eq]
  generalize (lg_sl ([.ref (cdA g 19), .int v1, .int v2, .int v3, .int v4, .int v5, .int v6]) ++ List.replicate (10 - (lg_sl ([.ref (cdA g 19), .int v1, .int v2, .int v3, .int v4, .int v5, .int v6])).length) Slot.unset).toArray = ls at hl ⊢
  have hl : lv_has ls 10 [(0, .ref (cdA g 19)), (1, .int v1), (2, .int v2), (3, .int v3), (4, .int v4), (5, .int v5), (6, .int v6)] := hl
  obtain ⟨Qm, hQm⟩ : ∃ z, z = MQ below (va_Qi (fun r σ' => σ' = σ ∧ Q r) (fun σ' t => va_P (cdD g) vwCl (cdW g σ') t.heap) (cdZ g s.heap.size)) ([.ref (cdA g 19), .int v1, .int v2, .int v3, .int v4, .int v5, .int v6] : List Value).toArray s 0 0 (cdZ g s.heap.size) := ⟨_, rfl⟩
  rw [← hQm]
  have hB := hwp (fun (x7 : Int32) (x8 : Int32) => cdCut p l e (headSpec (cdWs yX6_rowGround cX6_rowGround 10 (some .int)) (cdRm 2 45)).room s m ([.ref (cdA g 19), .int v1, .int v2, .int v3, .int v4, .int v5, .int v6] : List Value).toArray below meth c Qm g 10 7 [(0, .ref (cdA g 19)), (1, .int v1), (2, .int v2), (3, .int v3), (4, .int v4), (5, .int v5), (6, .int v6), (7, .int x7), (8, .int x8)] [] σ)
    (fun (x8 : Int32) (t0 : Int32) (t2 : Int32) => cdCut p l e (headSpec (cdWs yX6_rowGround cX6_rowGround 10 (some .int)) (cdRm 2 45)).room s m ([.ref (cdA g 19), .int v1, .int v2, .int v3, .int v4, .int v5, .int v6] : List Value).toArray below meth c Qm g 10 47 [(0, .ref (cdA g 19)), (1, .int v1), (2, .int v2), (3, .int v3), (4, .int v4), (5, .int v5), (6, .int v6), (8, .int x8)] [.int t0, .ref (cdA g 19), .int t2] σ)
    (fun (x7 : Int32) (x8 : Int32) => cdCut p l e (headSpec (cdWs yX6_rowGround cX6_rowGround 10 (some .int)) (cdRm 2 45)).room s m ([.ref (cdA g 19), .int v1, .int v2, .int v3, .int v4, .int v5, .int v6] : List Value).toArray below meth c Qm g 10 57 [(0, .ref (cdA g 19)), (1, .int v1), (2, .int v2), (3, .int v3), (4, .int v4), (5, .int v5), (6, .int v6), (7, .int x7), (8, .int x8)] [] σ)
    (by
    intro x7 x8 hB H locs ls hP hS hl
    refine lv_iload hx hb dX6_rowGround_7 (lv_at hl 8 rfl) ?_
    refine lv_iconst (v := 3) hx hb dX6_rowGround_9 (by decide) ?_
    refine lv_icmp_gt (tgt := 63) hx hb dX6_rowGround_10 (by decide) (fun c_1 => ?_) (fun c_1 => ?_)
    · have hB := hB.1 c_1
      refine lv_iload hx hb dX6_rowGround_63 (lv_at hl 7 rfl) ?_
      rw [hQm]
      exact W.iret hx hb hr (fun t ht hW => ⟨⟨x7, σ, rfl, ⟨rfl, hB⟩, cd_hp ht hP⟩, hS.F ht⟩) hS.2.2 dX6_rowGround_65
    · have hB := hB.2 c_1
      refine lv_iload hx hb dX6_rowGround_13 (lv_at hl 5 rfl) ?_
      refine lv_iload hx hb dX6_rowGround_15 (lv_at hl 8 rfl) ?_
      refine lv_isub hx hb dX6_rowGround_17 ?_
      refine lv_iload hx hb dX6_rowGround_18 (lv_at hl 4 rfl) ?_
      refine lv_isub hx hb dX6_rowGround_20 ?_
      refine lv_topi (fun x9_2 ex9_2 => ?_)
      have hB := hB x9_2 ex9_2
      refine lv_istore (lv' := [(9, .int x9_2), (0, .ref (cdA g 19)), (1, .int v1), (2, .int v2), (3, .int v3), (4, .int v4), (5, .int v5), (6, .int v6), (7, .int x7), (8, .int x8)]) hx hb dX6_rowGround_21 hl (by decide) rfl (fun ls hl => ?_)
      refine lv_iload hx hb dX6_rowGround_23 (lv_at hl 0 rfl) ?_
      refine lv_iload_n hx hb dX6_rowGround_25 rfl (lv_at hl 4 rfl) ?_
      obtain ⟨z_3, hB⟩ := hB
      refine lv_irem hx hb dX6_rowGround_26 z_3 ?_
      refine lv_if_ne (tgt := 57) hx hb dX6_rowGround_27 (by decide) (fun c_4 => ?_) (fun c_4 => ?_)
      · have hB := hB.1 c_4
        exact hB _ _ _ hP hS (lv_sub hl [1, 2, 3, 4, 5, 6, 7, 8, 9] rfl)
      · have hB := hB.2 c_4
        refine lv_iload hx hb dX6_rowGround_30 (lv_at hl 8 rfl) ?_
        refine lv_aload_n hx hb dX6_rowGround_32 rfl (lv_at hl 1 rfl) ?_
        refine lv_iload hx hb dX6_rowGround_33 (lv_at hl 0 rfl) ?_
        refine lv_iload_n hx hb dX6_rowGround_35 rfl (lv_at hl 4 rfl) ?_
        obtain ⟨z_5, hB⟩ := hB
        refine lv_idiv hx hb dX6_rowGround_36 z_5 ?_
        refine lv_iconst (v := 2) hx hb dX6_rowGround_37 (by decide) ?_
        refine lv_irem hx hb dX6_rowGround_38 (by decide) ?_
        refine lv_if_ne (tgt := 46) hx hb dX6_rowGround_39 (by decide) (fun c_6 => ?_) (fun c_6 => ?_)
        · have hB := hB.1 c_6
          refine lv_iload_n hx hb dX6_rowGround_46 rfl (lv_at hl 3 rfl) ?_
          exact hB _ _ _ hP hS (lv_sub hl [1, 2, 3, 4, 5, 6, 7, 9] rfl)
        · have hB := hB.2 c_6
          refine lv_iload_n hx hb dX6_rowGround_42 rfl (lv_at hl 2 rfl) ?_
          refine lv_goto (tgt := 47) hx hb dX6_rowGround_43 (by decide) ?_
          exact hB _ _ _ hP hS (lv_sub hl [1, 2, 3, 4, 5, 6, 7, 9] rfl))
    (by
    intro x8 t0 t2 hB H locs ls hP hS hl
    refine lv_iload hx hb dX6_rowGround_47 (lv_at hl 7 rfl) ?_
    refine lv_iload hx hb dX6_rowGround_49 (lv_at hl 6 rfl) ?_
    refine cd_ci (cd_runV (As := [.int t0, .int x8, .int v6]) (rest := [.int t2]) (σ := σ) (k := 19) (ci := 6) X wm_X6_76 (by decide) rfl rfl rfl (c_X6_depthAt l g t0 x8 v6 σ _ hB _) hP hS rfl rfl hl.1 (Nat.le_of_ble_eq_true rfl) ⟨Nat.le_of_ble_eq_true rfl, Nat.le_of_ble_eq_true rfl⟩ ⟨Nat.zero_le _, Nat.zero_le _⟩ dX6_rowGround_51) hS (fun r_8 σ_9 H locs hB hP hS => ?_)
    obtain ⟨eσ_9, hB⟩ := hB
    rw [eσ_9] at hP
    refine lv_iadd hx hb dX6_rowGround_54 ?_
    refine lv_topi (fun x7_10 ex7_10 => ?_)
    have hB := hB x7_10 ex7_10
    refine lv_istore (lv' := [(7, .int x7_10), (0, .ref (cdA g 19)), (1, .int v1), (2, .int v2), (3, .int v3), (4, .int v4), (5, .int v5), (6, .int v6), (8, .int x8)]) hx hb dX6_rowGround_55 hl (by decide) rfl (fun ls hl => ?_)
    exact hB _ _ _ hP hS (lv_sub hl [1, 2, 3, 4, 5, 6, 7, 0, 8] rfl))
    (by
    intro x7 x8 hB H locs ls hP hS hl
    obtain ⟨x8_7, ex8_7⟩ : ∃ z : Int32, z = x8 + 1 := ⟨_, rfl⟩
    have hB := hB x8_7 ex8_7
    refine lv_iinc (v := x8_7) (lv' := [(8, .int x8_7), (0, .ref (cdA g 19)), (1, .int v1), (2, .int v2), (3, .int v3), (4, .int v4), (5, .int v5), (6, .int v6), (7, .int x7)]) hx hb dX6_rowGround_57 hl (k := 8) rfl (by rw [ex8_7]; rfl) (by decide) rfl (fun ls hl => ?_)
    refine lv_goto (tgt := 7) hx hb dX6_rowGround_60 (by decide) ?_
    exact hB _ _ _ hP hS (lv_sub hl [1, 2, 3, 4, 5, 6, 7, 8, 0] rfl))
  refine lv_iconst (v := 0) hx hb dX6_rowGround_0 (by decide) ?_
  refine lv_istore (lv' := [(7, .int (0 : Int32)), (0, .ref (cdA g 19)), (1, .int v1), (2, .int v2), (3, .int v3), (4, .int v4), (5, .int v5), (6, .int v6)]) hx hb dX6_rowGround_1 hl (by decide) rfl (fun ls hl => ?_)
  refine lv_bipush (v := -3) hx hb dX6_rowGround_3 (by decide) ?_
  refine lv_istore (lv' := [(8, .int (-3 : Int32)), (7, .int (0 : Int32)), (0, .ref (cdA g 19)), (1, .int v1), (2, .int v2), (3, .int v3), (4, .int v4), (5, .int v5), (6, .int v6)]) hx hb dX6_rowGround_5 hl (by decide) rfl (fun ls hl => ?_)
  exact hB _ _ _ hP hS (lv_sub hl [2, 3, 4, 5, 6, 7, 8, 1, 0] rfl)
def wp_X6_groundAt (v1 : Int32) (v2 : Int32) (v3 : Int32) (v4 : Int32) (v5 : Int32) (v6 : Int32) (v7 : Int32) (σ : cdS) (Q : Int32 → Prop) : Prop :=
  ∀ (P7 : Int32 → Int32 → Prop) (P42 : Int32 → Int32 → Int32 → Prop) (P61 : Int32 → Int32 → Int32 → Prop) (P62 : Int32 → Int32 → Int32 → Int32 → Prop) (P77 : Int32 → Int32 → Int32 → Int32 → Int32 → Prop) (P87 : Int32 → Int32 → Int32 → Int32 → Int32 → Prop) (P101 : Int32 → Int32 → Prop),
    (∀ (x8 : Int32) (x9 : Int32), (
    (((3 : Int32) < x9 →
    Q x8) ∧
    (¬ ((3 : Int32) < x9) →
    ¬ v5 = 0 ∧
    ((¬ (cdm (v7 - x9) v5) = 0 →
    P101 x8 x9) ∧
    ((cdm (v7 - x9) v5) = 0 →
    ¬ v5 = 0 ∧
    (((cdm ((v7 - x9) / v5) (2 : Int32)) = 0 →
    P42 x8 x9 (0 : Int32)) ∧
    (¬ ((cdm ((v7 - x9) / v5) (2 : Int32)) = 0) →
    P42 x8 x9 (1 : Int32)))))))) → P7 x8 x9) →
    (∀ (x8 : Int32) (x9 : Int32) (t0 : Int32), (
    ((¬ v3 = (1 : Int32) →
    P61 x8 x9 t0) ∧
    (v3 = (1 : Int32) →
    ((t0 = 0 →
    P61 x8 x9 t0) ∧
    (¬ (t0 = 0) →
    P62 x8 x9 t0 (v4 / (2 : Int32))))))) → P42 x8 x9 t0) →
    (∀ (x8 : Int32) (x9 : Int32) (x10 : Int32), (
    P62 x8 x9 x10 (0 : Int32)) → P61 x8 x9 x10) →
    (∀ (x8 : Int32) (x9 : Int32) (x10 : Int32) (t0 : Int32), (
    ((x10 = 0 →
    P77 x9 x10 t0 v1 x8) ∧
    (¬ (x10 = 0) →
    P77 x9 x10 t0 v2 x8))) → P62 x8 x9 x10 t0) →
    (∀ (x9 : Int32) (x10 : Int32) (x11 : Int32) (t0 : Int32) (t2 : Int32), (
    ((x10 = 0 →
    P87 x9 x11 v2 t0 t2) ∧
    (¬ (x10 = 0) →
    P87 x9 x11 v1 t0 t2))) → P77 x9 x10 x11 t0 t2) →
    (∀ (x9 : Int32) (x11 : Int32) (t0 : Int32) (t1 : Int32) (t3 : Int32), (
    wp_X6_rowGround t1 t0 v4 x11 v6 x9 σ (fun r_11 => 
    ∀ x8_13 : Int32, x8_13 = (t3 + r_11) →
    P101 x8_13 x9)) → P87 x9 x11 t0 t1 t3) →
    (∀ (x8 : Int32) (x9 : Int32), (
    ∀ x9_6 : Int32, x9_6 = x9 + 1 →
    P7 x8 x9_6) → P101 x8 x9) →
    
    P7 (0 : Int32) (-3 : Int32)
set_option maxHeartbeats 4000000 in
set_option maxRecDepth 100000 in
theorem c_X6_groundAt (l : Launch) (g : cdG) (v1 : Int32) (v2 : Int32) (v3 : Int32) (v4 : Int32) (v5 : Int32) (v6 : Int32) (v7 : Int32) (σ : cdS) (Q : Int32 → Prop) (hwp : wp_X6_groundAt v1 v2 v3 v4 v5 v6 v7 σ Q) : cdCi l g yX6_groundAt cX6_groundAt 12 (some .int) 3 74 [.ref (cdA g 19), .int v1, .int v2, .int v3, .int v4, .int v5, .int v6, .int v7] σ (fun r σ' => σ' = σ ∧ Q r) := by
  intro sz
  refine Met.ofW (cc := cX6_groundAt) (maxL := 12) (ret := (some .int)) (by decide) rfl ?_
  intro p e s m args below meth c s₁ B hml hv
  obtain ⟨rfl, hsz, hP, hK, hdi, hV⟩ := hv
  subst hsz
  have hx := B.exec
  have hb := B.bytes
  have hr := B.returns
  have hlocks := B.notSynchronized
  have hown : s.vm.findClass RX6 = some m.cls := findClass_of_methodNamed B.named
  have hts : ∀ w ∈ cdL, w.before _ s = true := fun w hw => atoms_spec (ws := cdWs yX6_groundAt cX6_groundAt 12 (some .int)) B.pre w (List.mem_cons_of_mem _ hw)
  have X : cdX p s m _ c cX6_groundAt 12 RX6 g := ⟨hx, hb, hml, hown, hts, hK, hdi, hV⟩
  have hS : va_S (cdZ g s.heap.size) s.heap s.heap [] := va_S.rf
  have hl := lv_entry ([.ref (cdA g 19), .int v1, .int v2, .int v3, .int v4, .int v5, .int v6, .int v7]) (n := 12) (Nat.le_of_ble_eq_true rfl)
  rw [lg_entry_eq]
  generalize (lg_sl ([.ref (cdA g 19), .int v1, .int v2, .int v3, .int v4, .int v5, .int v6, .int v7]) ++ List.replicate (12 - (lg_sl ([.ref (cdA g 19), .int v1, .int v2, .int v3, .int v4, .int v5, .int v6, .int v7])).length) Slot.unset).toArray = ls at hl ⊢
  have hl : lv_has ls 12 [(0, .ref (cdA g 19)), (1, .int v1), (2, .int v2), (3, .int v3), (4, .int v4), (5, .int v5), (6, .int v6), (7, .int v7)] := hl
  obtain ⟨Qm, hQm⟩ : ∃ z, z = MQ below (va_Qi (fun r σ' => σ' = σ ∧ Q r) (fun σ' t => va_P (cdD g) vwCl (cdW g σ') t.heap) (cdZ g s.heap.size)) ([.ref (cdA g 19), .int v1, .int v2, .int v3, .int v4, .int v5, .int v6, .int v7] : List Value).toArray s 0 0 (cdZ g s.heap.size) := ⟨_, rfl⟩
  rw [← hQm]
  have hB := hwp (fun (x8 : Int32) (x9 : Int32) => cdCut p l e (headSpec (cdWs yX6_groundAt cX6_groundAt 12 (some .int)) (cdRm 3 74)).room s m ([.ref (cdA g 19), .int v1, .int v2, .int v3, .int v4, .int v5, .int v6, .int v7] : List Value).toArray below meth c Qm g 12 7 [(0, .ref (cdA g 19)), (1, .int v1), (2, .int v2), (3, .int v3), (4, .int v4), (5, .int v5), (6, .int v6), (7, .int v7), (8, .int x8), (9, .int x9)] [] σ)
    (fun (x8 : Int32) (x9 : Int32) (t0 : Int32) => cdCut p l e (headSpec (cdWs yX6_groundAt cX6_groundAt 12 (some .int)) (cdRm 3 74)).room s m ([.ref (cdA g 19), .int v1, .int v2, .int v3, .int v4, .int v5, .int v6, .int v7] : List Value).toArray below meth c Qm g 12 42 [(0, .ref (cdA g 19)), (1, .int v1), (2, .int v2), (3, .int v3), (4, .int v4), (5, .int v5), (6, .int v6), (7, .int v7), (8, .int x8), (9, .int x9)] [.int t0] σ)
    (fun (x8 : Int32) (x9 : Int32) (x10 : Int32) => cdCut p l e (headSpec (cdWs yX6_groundAt cX6_groundAt 12 (some .int)) (cdRm 3 74)).room s m ([.ref (cdA g 19), .int v1, .int v2, .int v3, .int v4, .int v5, .int v6, .int v7] : List Value).toArray below meth c Qm g 12 61 [(0, .ref (cdA g 19)), (1, .int v1), (2, .int v2), (3, .int v3), (4, .int v4), (5, .int v5), (6, .int v6), (7, .int v7), (8, .int x8), (9, .int x9), (10, .int x10)] [] σ)
    (fun (x8 : Int32) (x9 : Int32) (x10 : Int32) (t0 : Int32) => cdCut p l e (headSpec (cdWs yX6_groundAt cX6_groundAt 12 (some .int)) (cdRm 3 74)).room s m ([.ref (cdA g 19), .int v1, .int v2, .int v3, .int v4, .int v5, .int v6, .int v7] : List Value).toArray below meth c Qm g 12 62 [(0, .ref (cdA g 19)), (1, .int v1), (2, .int v2), (3, .int v3), (4, .int v4), (5, .int v5), (6, .int v6), (7, .int v7), (8, .int x8), (9, .int x9), (10, .int x10)] [.int t0] σ)
    (fun (x9 : Int32) (x10 : Int32) (x11 : Int32) (t0 : Int32) (t2 : Int32) => cdCut p l e (headSpec (cdWs yX6_groundAt cX6_groundAt 12 (some .int)) (cdRm 3 74)).room s m ([.ref (cdA g 19), .int v1, .int v2, .int v3, .int v4, .int v5, .int v6, .int v7] : List Value).toArray below meth c Qm g 12 77 [(0, .ref (cdA g 19)), (1, .int v1), (2, .int v2), (3, .int v3), (4, .int v4), (5, .int v5), (6, .int v6), (7, .int v7), (9, .int x9), (10, .int x10), (11, .int x11)] [.int t0, .ref (cdA g 19), .int t2] σ)
    (fun (x9 : Int32) (x11 : Int32) (t0 : Int32) (t1 : Int32) (t3 : Int32) => cdCut p l e (headSpec (cdWs yX6_groundAt cX6_groundAt 12 (some .int)) (cdRm 3 74)).room s m ([.ref (cdA g 19), .int v1, .int v2, .int v3, .int v4, .int v5, .int v6, .int v7] : List Value).toArray below meth c Qm g 12 87 [(0, .ref (cdA g 19)), (1, .int v1), (2, .int v2), (3, .int v3), (4, .int v4), (5, .int v5), (6, .int v6), (7, .int v7), (9, .int x9), (11, .int x11)] [.int t0, .int t1, .ref (cdA g 19), .int t3] σ)
    (fun (x8 : Int32) (x9 : Int32) => cdCut p l e (headSpec (cdWs yX6_groundAt cX6_groundAt 12 (some .int)) (cdRm 3 74)).room s m ([.ref (cdA g 19), .int v1, .int v2, .int v3, .int v4, .int v5, .int v6, .int v7] : List Value).toArray below meth c Qm g 12 101 [(0, .ref (cdA g 19)), (1, .int v1), (2, .int v2), (3, .int v3), (4, .int v4), (5, .int v5), (6, .int v6), (7, .int v7), (8, .int x8), (9, .int x9)] [] σ)
    (by
    intro x8 x9 hB H locs ls hP hS hl
    refine lv_iload hx hb dX6_groundAt_7 (lv_at hl 9 rfl) ?_
    refine lv_iconst (v := 3) hx hb dX6_groundAt_9 (by decide) ?_
    refine lv_icmp_gt (tgt := 107) hx hb dX6_groundAt_10 (by decide) (fun c_1 => ?_) (fun c_1 => ?_)
    · have hB := hB.1 c_1
      refine lv_iload hx hb dX6_groundAt_107 (lv_at hl 8 rfl) ?_
      rw [hQm]
      exact W.iret hx hb hr (fun t ht hW => ⟨⟨x8, σ, rfl, ⟨rfl, hB⟩, cd_hp ht hP⟩, hS.F ht⟩) hS.2.2 dX6_groundAt_109
    · have hB := hB.2 c_1
      refine lv_iload hx hb dX6_groundAt_13 (lv_at hl 7 rfl) ?_
      refine lv_iload hx hb dX6_groundAt_15 (lv_at hl 9 rfl) ?_
      refine lv_isub hx hb dX6_groundAt_17 ?_
      refine lv_iload hx hb dX6_groundAt_18 (lv_at hl 5 rfl) ?_
      obtain ⟨z_2, hB⟩ := hB
      refine lv_irem hx hb dX6_groundAt_20 z_2 ?_
      refine lv_if_ne (tgt := 101) hx hb dX6_groundAt_21 (by decide) (fun c_3 => ?_) (fun c_3 => ?_)
      · have hB := hB.1 c_3
        exact hB _ _ _ hP hS (lv_sub hl [0, 1, 2, 3, 4, 5, 6, 7, 8, 9] rfl)
      · have hB := hB.2 c_3
        refine lv_iload hx hb dX6_groundAt_24 (lv_at hl 7 rfl) ?_
        refine lv_iload hx hb dX6_groundAt_26 (lv_at hl 9 rfl) ?_
        refine lv_isub hx hb dX6_groundAt_28 ?_
        refine lv_iload hx hb dX6_groundAt_29 (lv_at hl 5 rfl) ?_
        obtain ⟨z_4, hB⟩ := hB
        refine lv_idiv hx hb dX6_groundAt_31 z_4 ?_
        refine lv_iconst (v := 2) hx hb dX6_groundAt_32 (by decide) ?_
        refine lv_irem hx hb dX6_groundAt_33 (by decide) ?_
        refine lv_if_eq (tgt := 41) hx hb dX6_groundAt_34 (by decide) (fun c_5 => ?_) (fun c_5 => ?_)
        · have hB := hB.1 c_5
          refine lv_iconst (v := 0) hx hb dX6_groundAt_41 (by decide) ?_
          exact hB _ _ _ hP hS (lv_sub hl [0, 1, 2, 3, 4, 5, 6, 7, 8, 9] rfl)
        · have hB := hB.2 c_5
          refine lv_iconst (v := 1) hx hb dX6_groundAt_37 (by decide) ?_
          refine lv_goto (tgt := 42) hx hb dX6_groundAt_38 (by decide) ?_
          exact hB _ _ _ hP hS (lv_sub hl [0, 1, 2, 3, 4, 5, 6, 7, 8, 9] rfl))
    (by
    intro x8 x9 t0 hB H locs ls hP hS hl
    refine lv_istore (lv' := [(10, .int t0), (0, .ref (cdA g 19)), (1, .int v1), (2, .int v2), (3, .int v3), (4, .int v4), (5, .int v5), (6, .int v6), (7, .int v7), (8, .int x8), (9, .int x9)]) hx hb dX6_groundAt_42 hl (by decide) rfl (fun ls hl => ?_)
    refine lv_iload_n hx hb dX6_groundAt_44 rfl (lv_at hl 4 rfl) ?_
    refine lv_iconst (v := 1) hx hb dX6_groundAt_45 (by decide) ?_
    refine lv_icmp_ne (tgt := 61) hx hb dX6_groundAt_46 (by decide) (fun c_7 => ?_) (fun c_7 => ?_)
    · have hB := hB.1 c_7
      exact hB _ _ _ hP hS (lv_sub hl [1, 2, 3, 4, 5, 6, 7, 8, 9, 10, 0] rfl)
    · have hB := hB.2 c_7
      refine lv_iload hx hb dX6_groundAt_49 (lv_at hl 0 rfl) ?_
      refine lv_if_eq (tgt := 61) hx hb dX6_groundAt_51 (by decide) (fun c_8 => ?_) (fun c_8 => ?_)
      · have hB := hB.1 c_8
        exact hB _ _ _ hP hS (lv_sub hl [1, 2, 3, 4, 5, 6, 7, 8, 9, 10, 0] rfl)
      · have hB := hB.2 c_8
        refine lv_iload hx hb dX6_groundAt_54 (lv_at hl 5 rfl) ?_
        refine lv_iconst (v := 2) hx hb dX6_groundAt_56 (by decide) ?_
        refine lv_idiv hx hb dX6_groundAt_57 (by decide) ?_
        refine lv_goto (tgt := 62) hx hb dX6_groundAt_58 (by decide) ?_
        exact hB _ _ _ hP hS (lv_sub hl [1, 2, 3, 4, 5, 6, 7, 8, 9, 10, 0] rfl))
    (by
    intro x8 x9 x10 hB H locs ls hP hS hl
    refine lv_iconst (v := 0) hx hb dX6_groundAt_61 (by decide) ?_
    exact hB _ _ _ hP hS (lv_sub hl [0, 1, 2, 3, 4, 5, 6, 7, 8, 9, 10] rfl))
    (by
    intro x8 x9 x10 t0 hB H locs ls hP hS hl
    refine lv_istore (lv' := [(11, .int t0), (0, .ref (cdA g 19)), (1, .int v1), (2, .int v2), (3, .int v3), (4, .int v4), (5, .int v5), (6, .int v6), (7, .int v7), (8, .int x8), (9, .int x9), (10, .int x10)]) hx hb dX6_groundAt_62 hl (by decide) rfl (fun ls hl => ?_)
    refine lv_iload hx hb dX6_groundAt_64 (lv_at hl 9 rfl) ?_
    refine lv_aload_n hx hb dX6_groundAt_66 rfl (lv_at hl 1 rfl) ?_
    refine lv_iload hx hb dX6_groundAt_67 (lv_at hl 11 rfl) ?_
    refine lv_if_eq (tgt := 76) hx hb dX6_groundAt_69 (by decide) (fun c_9 => ?_) (fun c_9 => ?_)
    · have hB := hB.1 c_9
      refine lv_iload_n hx hb dX6_groundAt_76 rfl (lv_at hl 2 rfl) ?_
      exact hB _ _ _ hP hS (lv_sub hl [1, 2, 3, 4, 5, 6, 7, 8, 10, 11, 0] rfl)
    · have hB := hB.2 c_9
      refine lv_iload_n hx hb dX6_groundAt_72 rfl (lv_at hl 3 rfl) ?_
      refine lv_goto (tgt := 77) hx hb dX6_groundAt_73 (by decide) ?_
      exact hB _ _ _ hP hS (lv_sub hl [1, 2, 3, 4, 5, 6, 7, 8, 10, 11, 0] rfl))
    (by
    intro x9 x10 x11 t0 t2 hB H locs ls hP hS hl
    refine lv_iload hx hb dX6_groundAt_77 (lv_at hl 9 rfl) ?_
    refine lv_if_eq (tgt := 86) hx hb dX6_groundAt_79 (by decide) (fun c_10 => ?_) (fun c_10 => ?_)
    · have hB := hB.1 c_10
      refine lv_iload_n hx hb dX6_groundAt_86 rfl (lv_at hl 2 rfl) ?_
      exact hB _ _ _ hP hS (lv_sub hl [0, 1, 2, 3, 4, 5, 6, 7, 8, 10] rfl)
    · have hB := hB.2 c_10
      refine lv_iload_n hx hb dX6_groundAt_82 rfl (lv_at hl 1 rfl) ?_
      refine lv_goto (tgt := 87) hx hb dX6_groundAt_83 (by decide) ?_
      exact hB _ _ _ hP hS (lv_sub hl [0, 1, 2, 3, 4, 5, 6, 7, 8, 10] rfl))
    (by
    intro x9 x11 t0 t1 t3 hB H locs ls hP hS hl
    refine lv_iload hx hb dX6_groundAt_87 (lv_at hl 4 rfl) ?_
    refine lv_iload hx hb dX6_groundAt_89 (lv_at hl 9 rfl) ?_
    refine lv_iload hx hb dX6_groundAt_91 (lv_at hl 6 rfl) ?_
    refine lv_iload hx hb dX6_groundAt_93 (lv_at hl 8 rfl) ?_
    refine cd_ci (cd_runV (As := [.int t1, .int t0, .int v4, .int x11, .int v6, .int x9]) (rest := [.int t3]) (σ := σ) (k := 19) (ci := 6) X wm_X6_106 (by decide) rfl rfl rfl (c_X6_rowGround l g t1 t0 v4 x11 v6 x9 σ _ hB _) hP hS rfl rfl hl.1 (Nat.le_of_ble_eq_true rfl) ⟨Nat.le_of_ble_eq_true rfl, Nat.le_of_ble_eq_true rfl⟩ ⟨Nat.zero_le _, Nat.zero_le _⟩ dX6_groundAt_95) hS (fun r_11 σ_12 H locs hB hP hS => ?_)
    obtain ⟨eσ_12, hB⟩ := hB
    rw [eσ_12] at hP
    refine lv_iadd hx hb dX6_groundAt_98 ?_
    refine lv_topi (fun x8_13 ex8_13 => ?_)
    have hB := hB x8_13 ex8_13
    refine lv_istore (lv' := [(8, .int x8_13), (0, .ref (cdA g 19)), (1, .int v1), (2, .int v2), (3, .int v3), (4, .int v4), (5, .int v5), (6, .int v6), (7, .int v7), (9, .int x9), (11, .int x11)]) hx hb dX6_groundAt_99 hl (by decide) rfl (fun ls hl => ?_)
    exact hB _ _ _ hP hS (lv_sub hl [1, 2, 3, 4, 5, 6, 7, 8, 0, 9] rfl))
    (by
    intro x8 x9 hB H locs ls hP hS hl
    obtain ⟨x9_6, ex9_6⟩ : ∃ z : Int32, z = x9 + 1 := ⟨_, rfl⟩
    have hB := hB x9_6 ex9_6
    refine lv_iinc (v := x9_6) (lv' := [(9, .int x9_6), (0, .ref (cdA g 19)), (1, .int v1), (2, .int v2), (3, .int v3), (4, .int v4), (5, .int v5), (6, .int v6), (7, .int v7), (8, .int x8)]) hx hb dX6_groundAt_101 hl (k := 9) rfl (by rw [ex9_6]; rfl) (by decide) rfl (fun ls hl => ?_)
    refine lv_goto (tgt := 7) hx hb dX6_groundAt_104 (by decide) ?_
    exact hB _ _ _ hP hS (lv_sub hl [1, 2, 3, 4, 5, 6, 7, 8, 9, 0] rfl))
  refine lv_iconst (v := 0) hx hb dX6_groundAt_0 (by decide) ?_
  refine lv_istore (lv' := [(8, .int (0 : Int32)), (0, .ref (cdA g 19)), (1, .int v1), (2, .int v2), (3, .int v3), (4, .int v4), (5, .int v5), (6, .int v6), (7, .int v7)]) hx hb dX6_groundAt_1 hl (by decide) rfl (fun ls hl => ?_)
  refine lv_bipush (v := -3) hx hb dX6_groundAt_3 (by decide) ?_
  refine lv_istore (lv' := [(9, .int (-3 : Int32)), (8, .int (0 : Int32)), (0, .ref (cdA g 19)), (1, .int v1), (2, .int v2), (3, .int v3), (4, .int v4), (5, .int v5), (6, .int v6), (7, .int v7)]) hx hb dX6_groundAt_5 hl (by decide) rfl (fun ls hl => ?_)
  exact hB _ _ _ hP hS (lv_sub hl [2, 3, 4, 5, 6, 7, 8, 9, 1, 0] rfl)
def wp_X6_lay (v1 : Int32) (σ : cdS) (Q : cdS → Prop) : Prop :=
  
    vp_in (σ.1 19 11) 361 ∧ ∀ σ_2 : cdS, σ_2 = cdU σ 23 ((σ.1 19 11)).toNatClampNeg v1 →
    ∀ σ_3 : cdS, σ_3 = cdU σ_2 19 11 ((σ_2.1 19 11) + (1 : Int32)) →
    ∀ σ_4 : cdS, σ_4 = cdU σ_3 19 12 ((σ_3.1 19 12) + v1) →
    Q σ_4
set_option maxHeartbeats 4000000 in
set_option maxRecDepth 100000 in
theorem c_X6_lay (l : Launch) (g : cdG) (v1 : Int32) (σ : cdS) (Q : cdS → Prop) (hwp : wp_X6_lay v1 σ Q) : cdCv l g yX6_lay cX6_lay 2 none 0 0 [.ref (cdA g 19), .int v1] σ Q := by
  intro sz
  refine Met.ofW (cc := cX6_lay) (maxL := 2) (ret := none) (by decide) rfl ?_
  intro p e s m args below meth c s₁ B hml hv
  obtain ⟨rfl, hsz, hP, hK, hdi, hV⟩ := hv
  subst hsz
  have hx := B.exec
  have hb := B.bytes
  have hr := B.returns
  have hlocks := B.notSynchronized
  have hown : s.vm.findClass RX6 = some m.cls := findClass_of_methodNamed B.named
  have hts : ∀ w ∈ cdL, w.before _ s = true := fun w hw => atoms_spec (ws := cdWs yX6_lay cX6_lay 2 none) B.pre w (List.mem_cons_of_mem _ hw)
  have X : cdX p s m _ c cX6_lay 2 RX6 g := ⟨hx, hb, hml, hown, hts, hK, hdi, hV⟩
  have hS : va_S (cdZ g s.heap.size) s.heap s.heap [] := va_S.rf
  have hl := lv_entry ([.ref (cdA g 19), .int v1]) (n := 2) (Nat.le_of_ble_eq_true rfl)
  rw [lg_entry_eq]
  generalize (lg_sl ([.ref (cdA g 19), .int v1]) ++ List.replicate (2 - (lg_sl ([.ref (cdA g 19), .int v1])).length) Slot.unset).toArray = ls at hl ⊢
  have hl : lv_has ls 2 [(0, .ref (cdA g 19)), (1, .int v1)] := hl
  obtain ⟨Qm, hQm⟩ : ∃ z, z = MQ below (va_Qv Q (fun σ' t => va_P (cdD g) vwCl (cdW g σ') t.heap) (cdZ g s.heap.size)) ([.ref (cdA g 19), .int v1] : List Value).toArray s 0 0 (cdZ g s.heap.size) := ⟨_, rfl⟩
  rw [← hQm]
  have hB := hwp
  refine lv_aload_n hx hb dX6_lay_0 rfl (lv_at hl 0 rfl) ?_
  refine cd_get X hP (C := RX6) (T := TX6) (N := 20) (ci := 6) (k := 19) (j := 13) (v := .ref (cdA g 23)) inX6 (by decide) rfl rfl (by decide) wf_X6_19 rfl rfl dX6_lay_1 ?_
  refine lv_aload_n hx hb dX6_lay_4 rfl (lv_at hl 0 rfl) ?_
  refine cd_get X hP (C := RX6) (T := TX6) (N := 20) (ci := 6) (k := 19) (j := 11) (v := .int (σ.1 19 11)) inX6 (by decide) rfl rfl (by decide) wf_X6_117 rfl rfl dX6_lay_5 ?_
  refine lv_iload_n hx hb dX6_lay_8 rfl (lv_at hl 1 rfl) ?_
  obtain ⟨i_1, hB⟩ := hB
  refine cd_ast X hP hS (k := 23) (N := 361) (by decide) (fun _ => rfl) i_1 dX6_lay_9 (fun H locs hP hS => ?_)
  obtain ⟨σ_2, eσ_2⟩ : ∃ z : cdS, z = cdU σ 23 ((σ.1 19 11)).toNatClampNeg v1 := ⟨_, rfl⟩
  rw [← eσ_2] at hP
  have hB := hB σ_2 eσ_2
  refine lv_aload_n hx hb dX6_lay_10 rfl (lv_at hl 0 rfl) ?_
  refine lv_dup hx hb dX6_lay_11 rfl ?_
  refine cd_get X hP (C := RX6) (T := TX6) (N := 20) (ci := 6) (k := 19) (j := 11) (v := .int (σ_2.1 19 11)) inX6 (by decide) rfl rfl (by decide) wf_X6_117 rfl rfl dX6_lay_12 ?_
  refine lv_iconst (v := 1) hx hb dX6_lay_15 (by decide) ?_
  refine lv_iadd hx hb dX6_lay_16 ?_
  refine cd_put X hP hS (C := RX6) (T := TX6) (N := 20) (ci := 6) (k := 19) (j := 11) (v := .int ((σ_2.1 19 11) + (1 : Int32))) (σ' := cdU σ_2 19 11 ((σ_2.1 19 11) + (1 : Int32))) inX6 tyX6 tyX6_ok nmX6 (by decide) rfl rfl (by decide) wf_X6_117 rfl rfl (tyX6_ok 11 (by decide)) rfl rfl (Nat.le_of_ble_eq_true rfl) (cdW_U (by decide) rfl) dX6_lay_17 (fun H locs hP hS => ?_)
  obtain ⟨σ_3, eσ_3⟩ : ∃ z : cdS, z = cdU σ_2 19 11 ((σ_2.1 19 11) + (1 : Int32)) := ⟨_, rfl⟩
  rw [← eσ_3] at hP
  have hB := hB σ_3 eσ_3
  refine lv_aload_n hx hb dX6_lay_20 rfl (lv_at hl 0 rfl) ?_
  refine lv_dup hx hb dX6_lay_21 rfl ?_
  refine cd_get X hP (C := RX6) (T := TX6) (N := 20) (ci := 6) (k := 19) (j := 12) (v := .int (σ_3.1 19 12)) inX6 (by decide) rfl rfl (by decide) wf_X6_120 rfl rfl dX6_lay_22 ?_
  refine lv_iload_n hx hb dX6_lay_25 rfl (lv_at hl 1 rfl) ?_
  refine lv_iadd hx hb dX6_lay_26 ?_
  refine cd_put X hP hS (C := RX6) (T := TX6) (N := 20) (ci := 6) (k := 19) (j := 12) (v := .int ((σ_3.1 19 12) + v1)) (σ' := cdU σ_3 19 12 ((σ_3.1 19 12) + v1)) inX6 tyX6 tyX6_ok nmX6 (by decide) rfl rfl (by decide) wf_X6_120 rfl rfl (tyX6_ok 12 (by decide)) rfl rfl (Nat.le_of_ble_eq_true rfl) (cdW_U (by decide) rfl) dX6_lay_27 (fun H locs hP hS => ?_)
  obtain ⟨σ_4, eσ_4⟩ : ∃ z : cdS, z = cdU σ_3 19 12 ((σ_3.1 19 12) + v1) := ⟨_, rfl⟩
  rw [← eσ_4] at hP
  have hB := hB σ_4 eσ_4
  rw [hQm]
  exact W.vret hx hb hr (fun t ht hW => ⟨⟨σ_4, rfl, hB, cd_hp ht hP⟩, hS.F ht⟩) hS.2.2 dX6_lay_30
def wp_X6_layTile (v1 : Int32) (v2 : Int32) (v3 : Int32) (v4 : Int32) (v5 : Int32) (v6 : Int32) (v7 : Int32) (σ : cdS) (Q : cdS → Prop) : Prop :=
  ∀ (P7 : Int32 → cdS → Prop) (P17 : Int32 → Int32 → cdS → Prop),
    (∀ (x8 : Int32) (σ : cdS), (
    ((v7 ≤ x8 →
    Q σ) ∧
    (¬ (v7 ≤ x8) →
    P17 x8 (0 : Int32) σ))) → P7 x8 σ) →
    (∀ (x8 : Int32) (x9 : Int32) (σ : cdS), (
    ((v6 ≤ x9 →
    ∀ x8_5 : Int32, x8_5 = x8 + 1 →
    P7 x8_5 σ) ∧
    (¬ (v6 ≤ x9) →
    wp_X6_groundAt v1 v2 v3 v4 v5 x9 x8 σ (fun r_6 => 
    wp_X6_lay r_6 σ (fun σ_9 => 
    ∀ x9_10 : Int32, x9_10 = x9 + 1 →
    P17 x8 x9_10 σ_9))))) → P17 x8 x9 σ) →
    
    wp_X6_begins σ (fun σ_2 => 
    P7 (0 : Int32) σ_2)
set_option maxHeartbeats 4000000 in
set_option maxRecDepth 100000 in
theorem c_X6_layTile (l : Launch) (g : cdG) (v1 : Int32) (v2 : Int32) (v3 : Int32) (v4 : Int32) (v5 : Int32) (v6 : Int32) (v7 : Int32) (σ : cdS) (Q : cdS → Prop) (hwp : wp_X6_layTile v1 v2 v3 v4 v5 v6 v7 σ Q) : cdCv l g yX6_layTile cX6_layTile 10 none 4 105 [.ref (cdA g 19), .int v1, .int v2, .int v3, .int v4, .int v5, .int v6, .int v7] σ Q := by
  intro sz
  refine Met.ofW (cc := cX6_layTile) (maxL := 10) (ret := none) (by decide) rfl ?_
  intro p e s m args below meth c s₁ B hml hv
  obtain ⟨rfl, hsz, hP, hK, hdi, hV⟩ := hv
  subst hsz
  have hx := B.exec
  have hb := B.bytes
  have hr := B.returns
  have hlocks := B.notSynchronized
  have hown : s.vm.findClass RX6 = some m.cls := findClass_of_methodNamed B.named
  have hts : ∀ w ∈ cdL, w.before _ s = true := fun w hw => atoms_spec (ws := cdWs yX6_layTile cX6_layTile 10 none) B.pre w (List.mem_cons_of_mem _ hw)
  have X : cdX p s m _ c cX6_layTile 10 RX6 g := ⟨hx, hb, hml, hown, hts, hK, hdi, hV⟩
  have hS : va_S (cdZ g s.heap.size) s.heap s.heap [] := va_S.rf
  have hl := lv_entry ([.ref (cdA g 19), .int v1, .int v2, .int v3, .int v4, .int v5, .int v6, .int v7]) (n := 10) (Nat.le_of_ble_eq_true rfl)
  rw [lg_entry_eq]
  generalize (lg_sl ([.ref (cdA g 19), .int v1, .int v2, .int v3, .int v4, .int v5, .int v6, .int v7]) ++ List.replicate (10 - (lg_sl ([.ref (cdA g 19), .int v1, .int v2, .int v3, .int v4, .int v5, .int v6, .int v7])).length) Slot.unset).toArray = ls at hl ⊢
  have hl : lv_has ls 10 [(0, .ref (cdA g 19)), (1, .int v1), (2, .int v2), (3, .int v3), (4, .int v4), (5, .int v5), (6, .int v6), (7, .int v7)] := hl
  obtain ⟨Qm, hQm⟩ : ∃ z, z = MQ below (va_Qv Q (fun σ' t => va_P (cdD g) vwCl (cdW g σ') t.heap) (cdZ g s.heap.size)) ([.ref (cdA g 19), .int v1, .int v2, .int v3, .int v4, .int v5, .int v6, .int v7] : List Value).toArray s 0 0 (cdZ g s.heap.size) := ⟨_, rfl⟩
  rw [← hQm]
  have hB := hwp (fun (x8 : Int32) (σ : cdS) => cdCut p l e (headSpec (cdWs yX6_layTile cX6_layTile 10 none) (cdRm 4 105)).room s m ([.ref (cdA g 19), .int v1, .int v2, .int v3, .int v4, .int v5, .int v6, .int v7] : List Value).toArray below meth c Qm g 10 7 [(0, .ref (cdA g 19)), (1, .int v1), (2, .int v2), (3, .int v3), (4, .int v4), (5, .int v5), (6, .int v6), (7, .int v7), (8, .int x8)] [] σ)
    (fun (x8 : Int32) (x9 : Int32) (σ : cdS) => cdCut p l e (headSpec (cdWs yX6_layTile cX6_layTile 10 none) (cdRm 4 105)).room s m ([.ref (cdA g 19), .int v1, .int v2, .int v3, .int v4, .int v5, .int v6, .int v7] : List Value).toArray below meth c Qm g 10 17 [(0, .ref (cdA g 19)), (1, .int v1), (2, .int v2), (3, .int v3), (4, .int v4), (5, .int v5), (6, .int v6), (7, .int v7), (8, .int x8), (9, .int x9)] [] σ)
    (by
    intro x8 σ hB H locs ls hP hS hl
    refine lv_iload hx hb dX6_layTile_7 (lv_at hl 8 rfl) ?_
    refine lv_iload hx hb dX6_layTile_9 (lv_at hl 7 rfl) ?_
    refine lv_icmp_ge (tgt := 55) hx hb dX6_layTile_11 (by decide) (fun c_3 => ?_) (fun c_3 => ?_)
    · have hB := hB.1 c_3
      rw [hQm]
      exact W.vret hx hb hr (fun t ht hW => ⟨⟨σ, rfl, hB, cd_hp ht hP⟩, hS.F ht⟩) hS.2.2 dX6_layTile_55
    · have hB := hB.2 c_3
      refine lv_iconst (v := 0) hx hb dX6_layTile_14 (by decide) ?_
      refine lv_istore (lv' := [(9, .int (0 : Int32)), (0, .ref (cdA g 19)), (1, .int v1), (2, .int v2), (3, .int v3), (4, .int v4), (5, .int v5), (6, .int v6), (7, .int v7), (8, .int x8)]) hx hb dX6_layTile_15 hl (by decide) rfl (fun ls hl => ?_)
      exact hB _ _ _ hP hS (lv_sub hl [1, 2, 3, 4, 5, 6, 7, 8, 9, 0] rfl))
    (by
    intro x8 x9 σ hB H locs ls hP hS hl
    refine lv_iload hx hb dX6_layTile_17 (lv_at hl 9 rfl) ?_
    refine lv_iload hx hb dX6_layTile_19 (lv_at hl 6 rfl) ?_
    refine lv_icmp_ge (tgt := 49) hx hb dX6_layTile_21 (by decide) (fun c_4 => ?_) (fun c_4 => ?_)
    · have hB := hB.1 c_4
      obtain ⟨x8_5, ex8_5⟩ : ∃ z : Int32, z = x8 + 1 := ⟨_, rfl⟩
      have hB := hB x8_5 ex8_5
      refine lv_iinc (v := x8_5) (lv' := [(8, .int x8_5), (0, .ref (cdA g 19)), (1, .int v1), (2, .int v2), (3, .int v3), (4, .int v4), (5, .int v5), (6, .int v6), (7, .int v7), (9, .int x9)]) hx hb dX6_layTile_49 hl (k := 8) rfl (by rw [ex8_5]; rfl) (by decide) rfl (fun ls hl => ?_)
      refine lv_goto (tgt := 7) hx hb dX6_layTile_52 (by decide) ?_
      exact hB _ _ _ hP hS (lv_sub hl [1, 2, 3, 4, 5, 6, 7, 8, 0] rfl)
    · have hB := hB.2 c_4
      refine lv_aload_n hx hb dX6_layTile_24 rfl (lv_at hl 0 rfl) ?_
      refine lv_aload_n hx hb dX6_layTile_25 rfl (lv_at hl 0 rfl) ?_
      refine lv_iload_n hx hb dX6_layTile_26 rfl (lv_at hl 1 rfl) ?_
      refine lv_iload_n hx hb dX6_layTile_27 rfl (lv_at hl 2 rfl) ?_
      refine lv_iload_n hx hb dX6_layTile_28 rfl (lv_at hl 3 rfl) ?_
      refine lv_iload hx hb dX6_layTile_29 (lv_at hl 4 rfl) ?_
      refine lv_iload hx hb dX6_layTile_31 (lv_at hl 5 rfl) ?_
      refine lv_iload hx hb dX6_layTile_33 (lv_at hl 9 rfl) ?_
      refine lv_iload hx hb dX6_layTile_35 (lv_at hl 8 rfl) ?_
      refine cd_ci (cd_runV (As := [.int v1, .int v2, .int v3, .int v4, .int v5, .int x9, .int x8]) (rest := [.ref (cdA g 19)]) (σ := σ) (k := 19) (ci := 6) X wm_X6_113 (by decide) rfl rfl rfl (c_X6_groundAt l g v1 v2 v3 v4 v5 x9 x8 σ _ hB _) hP hS rfl rfl hl.1 (Nat.le_of_ble_eq_true rfl) ⟨Nat.le_of_ble_eq_true rfl, Nat.le_of_ble_eq_true rfl⟩ ⟨Nat.zero_le _, Nat.zero_le _⟩ dX6_layTile_37) hS (fun r_6 σ_7 H locs hB hP hS => ?_)
      obtain ⟨eσ_7, hB⟩ := hB
      rw [eσ_7] at hP
      refine cd_cv (cd_runV (As := [.int r_6]) (rest := []) (σ := σ) (k := 19) (ci := 6) X wm_X6_126 (by decide) rfl rfl rfl (c_X6_lay l g r_6 σ _ hB _) hP hS rfl rfl hl.1 (Nat.le_of_ble_eq_true rfl) ⟨Nat.le_of_ble_eq_true rfl, Nat.le_of_ble_eq_true rfl⟩ ⟨Nat.zero_le _, Nat.zero_le _⟩ dX6_layTile_40) hS (fun σ_9 H locs hB hP hS => ?_)
      obtain ⟨x9_10, ex9_10⟩ : ∃ z : Int32, z = x9 + 1 := ⟨_, rfl⟩
      have hB := hB x9_10 ex9_10
      refine lv_iinc (v := x9_10) (lv' := [(9, .int x9_10), (0, .ref (cdA g 19)), (1, .int v1), (2, .int v2), (3, .int v3), (4, .int v4), (5, .int v5), (6, .int v6), (7, .int v7), (8, .int x8)]) hx hb dX6_layTile_43 hl (k := 9) rfl (by rw [ex9_10]; rfl) (by decide) rfl (fun ls hl => ?_)
      refine lv_goto (tgt := 17) hx hb dX6_layTile_46 (by decide) ?_
      exact hB _ _ _ hP hS (lv_sub hl [1, 2, 3, 4, 5, 6, 7, 8, 9, 0] rfl))
  refine lv_aload_n hx hb dX6_layTile_0 rfl (lv_at hl 0 rfl) ?_
  refine cd_cv (cd_runV (As := []) (rest := []) (σ := σ) (k := 19) (ci := 6) X wm_X6_123 (by decide) rfl rfl rfl (c_X6_begins l g  σ _ hB _) hP hS rfl rfl hl.1 (Nat.le_of_ble_eq_true rfl) ⟨Nat.le_of_ble_eq_true rfl, Nat.le_of_ble_eq_true rfl⟩ ⟨Nat.zero_le _, Nat.zero_le _⟩ dX6_layTile_1) hS (fun σ_2 H locs hB hP hS => ?_)
  refine lv_iconst (v := 0) hx hb dX6_layTile_4 (by decide) ?_
  refine lv_istore (lv' := [(8, .int (0 : Int32)), (0, .ref (cdA g 19)), (1, .int v1), (2, .int v2), (3, .int v3), (4, .int v4), (5, .int v5), (6, .int v6), (7, .int v7)]) hx hb dX6_layTile_5 hl (by decide) rfl (fun ls hl => ?_)
  exact hB _ _ _ hP hS (lv_sub hl [1, 2, 3, 4, 5, 6, 7, 8, 0] rfl)
def wp_X6_layLayout (v1 : Int32) (v2 : Int32) (v3 : Int32) (v4 : Int32) (σ : cdS) (Q : cdS → Prop) : Prop :=
  ∀ (P22 : Int32 → Int32 → Int32 → Int32 → Int32 → Int32 → Int32 → cdS → Prop),
    (∀ (t0 : Int32) (t1 : Int32) (t2 : Int32) (t3 : Int32) (t4 : Int32) (t5 : Int32) (t6 : Int32) (σ : cdS), (
    wp_X6_layTile t6 t5 t4 t3 t2 t1 t0 σ (fun σ_3 => 
    Q σ_3)) → P22 t0 t1 t2 t3 t4 t5 t6 σ) →
    
    ((¬ v2 = (1 : Int32) →
    P22 v4 v3 v4 v3 v2 v1 v1 σ) ∧
    (v2 = (1 : Int32) →
    P22 ((2 : Int32) * v4) v3 v4 v3 v2 v1 v1 σ))
set_option maxHeartbeats 4000000 in
set_option maxRecDepth 100000 in
theorem c_X6_layLayout (l : Launch) (g : cdG) (v1 : Int32) (v2 : Int32) (v3 : Int32) (v4 : Int32) (σ : cdS) (Q : cdS → Prop) (hwp : wp_X6_layLayout v1 v2 v3 v4 σ Q) : cdCv l g yX6_layLayout cX6_layLayout 5 none 5 134 [.ref (cdA g 19), .int v1, .int v2, .int v3, .int v4] σ Q := by
  intro sz
  refine Met.ofW (cc := cX6_layLayout) (maxL := 5) (ret := none) (by decide) rfl ?_
  intro p e s m args below meth c s₁ B hml hv
  obtain ⟨rfl, hsz, hP, hK, hdi, hV⟩ := hv
  subst hsz
  have hx := B.exec
  have hb := B.bytes
  have hr := B.returns
  have hlocks := B.notSynchronized
  have hown : s.vm.findClass RX6 = some m.cls := findClass_of_methodNamed B.named
  have hts : ∀ w ∈ cdL, w.before _ s = true := fun w hw => atoms_spec (ws := cdWs yX6_layLayout cX6_layLayout 5 none) B.pre w (List.mem_cons_of_mem _ hw)
  have X : cdX p s m _ c cX6_layLayout 5 RX6 g := ⟨hx, hb, hml, hown, hts, hK, hdi, hV⟩
  have hS : va_S (cdZ g s.heap.size) s.heap s.heap [] := va_S.rf
  have hl := lv_entry ([.ref (cdA g 19), .int v1, .int v2, .int v3, .int v4]) (n := 5) (Nat.le_of_ble_eq_true rfl)
  rw [lg_entry_eq]
  generalize (lg_sl ([.ref (cdA g 19), .int v1, .int v2, .int v3, .int v4]) ++ List.replicate (5 - (lg_sl ([.ref (cdA g 19), .int v1, .int v2, .int v3, .int v4])).length) Slot.unset).toArray = ls at hl ⊢
  have hl : lv_has ls 5 [(0, .ref (cdA g 19)), (1, .int v1), (2, .int v2), (3, .int v3), (4, .int v4)] := hl
  obtain ⟨Qm, hQm⟩ : ∃ z, z = MQ below (va_Qv Q (fun σ' t => va_P (cdD g) vwCl (cdW g σ') t.heap) (cdZ g s.heap.size)) ([.ref (cdA g 19), .int v1, .int v2, .int v3, .int v4] : List Value).toArray s 0 0 (cdZ g s.heap.size) := ⟨_, rfl⟩
  rw [← hQm]
  have hB := hwp (fun (t0 : Int32) (t1 : Int32) (t2 : Int32) (t3 : Int32) (t4 : Int32) (t5 : Int32) (t6 : Int32) (σ : cdS) => cdCut p l e (headSpec (cdWs yX6_layLayout cX6_layLayout 5 none) (cdRm 5 134)).room s m ([.ref (cdA g 19), .int v1, .int v2, .int v3, .int v4] : List Value).toArray below meth c Qm g 5 22 [] [.int t0, .int t1, .int t2, .int t3, .int t4, .int t5, .int t6, .ref (cdA g 19)] σ)
    (by
    intro t0 t1 t2 t3 t4 t5 t6 σ hB H locs ls hP hS hl
    refine cd_cv (cd_runV (As := [.int t6, .int t5, .int t4, .int t3, .int t2, .int t1, .int t0]) (rest := []) (σ := σ) (k := 19) (ci := 6) X wm_X6_130 (by decide) rfl rfl rfl (c_X6_layTile l g t6 t5 t4 t3 t2 t1 t0 σ _ hB _) hP hS rfl rfl hl.1 (Nat.le_of_ble_eq_true rfl) ⟨Nat.le_of_ble_eq_true rfl, Nat.le_of_ble_eq_true rfl⟩ ⟨Nat.zero_le _, Nat.zero_le _⟩ dX6_layLayout_22) hS (fun σ_3 H locs hB hP hS => ?_)
    rw [hQm]
    exact W.vret hx hb hr (fun t ht hW => ⟨⟨σ_3, rfl, hB, cd_hp ht hP⟩, hS.F ht⟩) hS.2.2 dX6_layLayout_25)
  refine lv_aload_n hx hb dX6_layLayout_0 rfl (lv_at hl 0 rfl) ?_
  refine lv_iload_n hx hb dX6_layLayout_1 rfl (lv_at hl 1 rfl) ?_
  refine lv_iload_n hx hb dX6_layLayout_2 rfl (lv_at hl 1 rfl) ?_
  refine lv_iload_n hx hb dX6_layLayout_3 rfl (lv_at hl 2 rfl) ?_
  refine lv_iload_n hx hb dX6_layLayout_4 rfl (lv_at hl 3 rfl) ?_
  refine lv_iload hx hb dX6_layLayout_5 (lv_at hl 4 rfl) ?_
  refine lv_iload_n hx hb dX6_layLayout_7 rfl (lv_at hl 3 rfl) ?_
  refine lv_iload_n hx hb dX6_layLayout_8 rfl (lv_at hl 2 rfl) ?_
  refine lv_iconst (v := 1) hx hb dX6_layLayout_9 (by decide) ?_
  refine lv_icmp_ne (tgt := 20) hx hb dX6_layLayout_10 (by decide) (fun c_1 => ?_) (fun c_1 => ?_)
  · have hB := hB.1 c_1
    refine lv_iload hx hb dX6_layLayout_20 (lv_at hl 4 rfl) ?_
    exact hB _ _ _ hP hS (lv_sub hl [] rfl)
  · have hB := hB.2 c_1
    refine lv_iconst (v := 2) hx hb dX6_layLayout_13 (by decide) ?_
    refine lv_iload hx hb dX6_layLayout_14 (lv_at hl 4 rfl) ?_
    refine lv_imul hx hb dX6_layLayout_16 ?_
    refine lv_goto (tgt := 22) hx hb dX6_layLayout_17 (by decide) ?_
    exact hB _ _ _ hP hS (lv_sub hl [] rfl)
def wp_X6_evenAbove  (σ : cdS) (Q : Int64 → Prop) : Prop :=
  ∀ (P4 : Int64 → Int32 → Prop) (P49 : Int32 → Int64 → Int64 → Prop),
    (∀ (x1 : Int64) (x3 : Int32), (
    (((σ.1 19 11) ≤ x3 →
    Q (((((σ.1 19 11)).toInt64) * (((σ.1 19 12)).toInt64)) - x1)) ∧
    (¬ ((σ.1 19 11) ≤ x3) →
    vp_in x3 361 ∧
    ∀ x4_3 : Int64, x4_3 = (((((σ.1 19 11)).toInt64) * (((σ.1 23 (x3).toNatClampNeg)).toInt64)) - (((σ.1 19 12)).toInt64)) →
    ((0 ≤ (lg_cmp x4_3 (0 : Int64)) →
    P49 x3 x4_3 x1) ∧
    (¬ (0 ≤ (lg_cmp x4_3 (0 : Int64))) →
    P49 x3 (-x4_3) x1))))) → P4 x1 x3) →
    (∀ (x3 : Int32) (t0 : Int64) (t1 : Int64), (
    ∀ x1_5 : Int64, x1_5 = (t1 + t0) →
    ∀ x3_6 : Int32, x3_6 = x3 + 1 →
    P4 x1_5 x3_6) → P49 x3 t0 t1) →
    
    P4 (0 : Int64) (0 : Int32)
set_option maxHeartbeats 4000000 in
set_option maxRecDepth 100000 in
theorem c_X6_evenAbove (l : Launch) (g : cdG)  (σ : cdS) (Q : Int64 → Prop) (hwp : wp_X6_evenAbove  σ Q) : cdCl l g yX6_evenAbove cX6_evenAbove 6 (some .long) 0 0 [.ref (cdA g 19)] σ (fun r σ' => σ' = σ ∧ Q r) := by
  intro sz
  refine Met.ofW (cc := cX6_evenAbove) (maxL := 6) (ret := (some .long)) (by decide) rfl ?_
  intro p e s m args below meth c s₁ B hml hv
  obtain ⟨rfl, hsz, hP, hK, hdi, hV⟩ := hv
  subst hsz
  have hx := B.exec
  have hb := B.bytes
  have hr := B.returns
  have hlocks := B.notSynchronized
  have hown : s.vm.findClass RX6 = some m.cls := findClass_of_methodNamed B.named
  have hts : ∀ w ∈ cdL, w.before _ s = true := fun w hw => atoms_spec (ws := cdWs yX6_evenAbove cX6_evenAbove 6 (some .long)) B.pre w (List.mem_cons_of_mem _ hw)
  have X : cdX p s m _ c cX6_evenAbove 6 RX6 g := ⟨hx, hb, hml, hown, hts, hK, hdi, hV⟩
  have hS : va_S (cdZ g s.heap.size) s.heap s.heap [] := va_S.rf
  have hl := lv_entry ([.ref (cdA g 19)]) (n := 6) (Nat.le_of_ble_eq_true rfl)
  rw [lg_entry_eq]
  generalize (lg_sl ([.ref (cdA g 19)]) ++ List.replicate (6 - (lg_sl ([.ref (cdA g 19)])).length) Slot.unset).toArray = ls at hl ⊢
  have hl : lv_has ls 6 [(0, .ref (cdA g 19))] := hl
  obtain ⟨Qm, hQm⟩ : ∃ z, z = MQ below (va_Ql (fun r σ' => σ' = σ ∧ Q r) (fun σ' t => va_P (cdD g) vwCl (cdW g σ') t.heap) (cdZ g s.heap.size)) ([.ref (cdA g 19)] : List Value).toArray s 0 0 (cdZ g s.heap.size) := ⟨_, rfl⟩
  rw [← hQm]
  have hB := hwp (fun (x1 : Int64) (x3 : Int32) => cdCut p l e (headSpec (cdWs yX6_evenAbove cX6_evenAbove 6 (some .long)) (cdRm 0 0)).room s m ([.ref (cdA g 19)] : List Value).toArray below meth c Qm g 6 4 [(0, .ref (cdA g 19)), (1, .long x1), (3, .int x3)] [] σ)
    (fun (x3 : Int32) (t0 : Int64) (t1 : Int64) => cdCut p l e (headSpec (cdWs yX6_evenAbove cX6_evenAbove 6 (some .long)) (cdRm 0 0)).room s m ([.ref (cdA g 19)] : List Value).toArray below meth c Qm g 6 49 [(0, .ref (cdA g 19)), (3, .int x3)] [.long t0, .long t1] σ)
    (by
    intro x1 x3 hB H locs ls hP hS hl
    refine lv_iload_n hx hb dX6_evenAbove_4 rfl (lv_at hl 2 rfl) ?_
    refine lv_aload_n hx hb dX6_evenAbove_5 rfl (lv_at hl 0 rfl) ?_
    refine cd_get X hP (C := RX6) (T := TX6) (N := 20) (ci := 6) (k := 19) (j := 11) (v := .int (σ.1 19 11)) inX6 (by decide) rfl rfl (by decide) wf_X6_117 rfl rfl dX6_evenAbove_6 ?_
    refine lv_icmp_ge (tgt := 57) hx hb dX6_evenAbove_9 (by decide) (fun c_1 => ?_) (fun c_1 => ?_)
    · have hB := hB.1 c_1
      refine lv_aload_n hx hb dX6_evenAbove_57 rfl (lv_at hl 0 rfl) ?_
      refine cd_get X hP (C := RX6) (T := TX6) (N := 20) (ci := 6) (k := 19) (j := 11) (v := .int (σ.1 19 11)) inX6 (by decide) rfl rfl (by decide) wf_X6_117 rfl rfl dX6_evenAbove_58 ?_
      refine lv_i2l hx hb dX6_evenAbove_61 rfl ?_
      refine lv_aload_n hx hb dX6_evenAbove_62 rfl (lv_at hl 0 rfl) ?_
      refine cd_get X hP (C := RX6) (T := TX6) (N := 20) (ci := 6) (k := 19) (j := 12) (v := .int (σ.1 19 12)) inX6 (by decide) rfl rfl (by decide) wf_X6_120 rfl rfl dX6_evenAbove_63 ?_
      refine lv_i2l hx hb dX6_evenAbove_66 rfl ?_
      refine lv_lmul hx hb dX6_evenAbove_67 ?_
      refine lv_lload_n hx hb dX6_evenAbove_68 rfl (lv_at hl 1 rfl) ?_
      refine lv_lsub hx hb dX6_evenAbove_69 ?_
      rw [hQm]
      exact W.lret hx hb hr (fun t ht hW => ⟨⟨(((((σ.1 19 11)).toInt64) * (((σ.1 19 12)).toInt64)) - x1), σ, rfl, ⟨rfl, hB⟩, cd_hp ht hP⟩, hS.F ht⟩) hS.2.2 dX6_evenAbove_70
    · have hB := hB.2 c_1
      refine lv_aload_n hx hb dX6_evenAbove_12 rfl (lv_at hl 0 rfl) ?_
      refine cd_get X hP (C := RX6) (T := TX6) (N := 20) (ci := 6) (k := 19) (j := 11) (v := .int (σ.1 19 11)) inX6 (by decide) rfl rfl (by decide) wf_X6_117 rfl rfl dX6_evenAbove_13 ?_
      refine lv_i2l hx hb dX6_evenAbove_16 rfl ?_
      refine lv_aload_n hx hb dX6_evenAbove_17 rfl (lv_at hl 0 rfl) ?_
      refine cd_get X hP (C := RX6) (T := TX6) (N := 20) (ci := 6) (k := 19) (j := 13) (v := .ref (cdA g 23)) inX6 (by decide) rfl rfl (by decide) wf_X6_19 rfl rfl dX6_evenAbove_18 ?_
      refine lv_iload_n hx hb dX6_evenAbove_21 rfl (lv_at hl 2 rfl) ?_
      obtain ⟨i_2, hB⟩ := hB
      refine cd_ald X hP (k := 23) (N := 361) (by decide) rfl i_2 dX6_evenAbove_22 ?_
      refine lv_i2l hx hb dX6_evenAbove_23 rfl ?_
      refine lv_lmul hx hb dX6_evenAbove_24 ?_
      refine lv_aload_n hx hb dX6_evenAbove_25 rfl (lv_at hl 0 rfl) ?_
      refine cd_get X hP (C := RX6) (T := TX6) (N := 20) (ci := 6) (k := 19) (j := 12) (v := .int (σ.1 19 12)) inX6 (by decide) rfl rfl (by decide) wf_X6_120 rfl rfl dX6_evenAbove_26 ?_
      refine lv_i2l hx hb dX6_evenAbove_29 rfl ?_
      refine lv_lsub hx hb dX6_evenAbove_30 ?_
      refine lv_topl (fun x4_3 ex4_3 => ?_)
      have hB := hB x4_3 ex4_3
      refine lv_lstore (lv' := [(4, .long x4_3), (0, .ref (cdA g 19)), (1, .long x1), (3, .int x3)]) hx hb dX6_evenAbove_31 hl (by decide) rfl (fun ls hl => ?_)
      refine lv_lload_n hx hb dX6_evenAbove_33 rfl (lv_at hl 2 rfl) ?_
      refine lv_lload hx hb dX6_evenAbove_34 (lv_at hl 0 rfl) ?_
      refine lv_lconst (v := 0) hx hb dX6_evenAbove_36 (by decide) ?_
      refine W.lcmp hx hb dX6_evenAbove_37 ?_
      refine lv_if_ge (tgt := 47) hx hb dX6_evenAbove_38 (by decide) (fun c_4 => ?_) (fun c_4 => ?_)
      · have hB := hB.1 c_4
        refine lv_lload hx hb dX6_evenAbove_47 (lv_at hl 0 rfl) ?_
        exact hB _ _ _ hP hS (lv_sub hl [1, 3] rfl)
      · have hB := hB.2 c_4
        refine lv_lload hx hb dX6_evenAbove_41 (lv_at hl 0 rfl) ?_
        refine lv_lneg hx hb dX6_evenAbove_43 ?_
        refine lv_goto (tgt := 49) hx hb dX6_evenAbove_44 (by decide) ?_
        exact hB _ _ _ hP hS (lv_sub hl [1, 3] rfl))
    (by
    intro x3 t0 t1 hB H locs ls hP hS hl
    refine lv_ladd hx hb dX6_evenAbove_49 ?_
    refine lv_topl (fun x1_5 ex1_5 => ?_)
    have hB := hB x1_5 ex1_5
    refine lv_lstore_n (lv' := [(1, .long x1_5), (0, .ref (cdA g 19)), (3, .int x3)]) hx hb dX6_evenAbove_50 rfl hl (by decide) rfl (fun ls hl => ?_)
    obtain ⟨x3_6, ex3_6⟩ : ∃ z : Int32, z = x3 + 1 := ⟨_, rfl⟩
    have hB := hB x3_6 ex3_6
    refine lv_iinc (v := x3_6) (lv' := [(3, .int x3_6), (1, .long x1_5), (0, .ref (cdA g 19))]) hx hb dX6_evenAbove_51 hl (k := 2) rfl (by rw [ex3_6]; rfl) (by decide) rfl (fun ls hl => ?_)
    refine lv_goto (tgt := 4) hx hb dX6_evenAbove_54 (by decide) ?_
    exact hB _ _ _ hP hS (lv_sub hl [2, 1, 0] rfl))
  refine lv_lconst (v := 0) hx hb dX6_evenAbove_0 (by decide) ?_
  refine lv_lstore_n (lv' := [(1, .long (0 : Int64)), (0, .ref (cdA g 19))]) hx hb dX6_evenAbove_1 rfl hl (by decide) rfl (fun ls hl => ?_)
  refine lv_iconst (v := 0) hx hb dX6_evenAbove_2 (by decide) ?_
  refine lv_istore_n (lv' := [(3, .int (0 : Int32)), (1, .long (0 : Int64)), (0, .ref (cdA g 19))]) hx hb dX6_evenAbove_3 rfl hl (by decide) rfl (fun ls hl => ?_)
  exact hB _ _ _ hP hS (lv_sub hl [2, 1, 0] rfl)
def wp_X6_isBetter (v1 : Int32) (v2 : Int32) (σ : cdS) (Q : Int32 → Prop) : Prop :=
  ∀ (P59 : Int64 → Prop),
    (∀ (x3 : Int64), (
    ((0 < (lg_cmp x3 (0 : Int64)) →
    Q (1 : Int32)) ∧
    (¬ (0 < (lg_cmp x3 (0 : Int64))) →
    ((¬ (lg_cmp x3 (0 : Int64)) = 0 →
    Q (0 : Int32)) ∧
    ((lg_cmp x3 (0 : Int64)) = 0 →
    (((v1 * v2) ≤ ((σ.1 19 15) * (σ.1 19 16)) →
    Q (0 : Int32)) ∧
    (¬ ((v1 * v2) ≤ ((σ.1 19 15) * (σ.1 19 16))) →
    Q (1 : Int32)))))))) → P59 x3) →
    
    ((¬ (σ.1 19 14) = (-1000001 : Int32) →
    wp_X6_evenAbove σ (fun r_2 => 
    ∀ x3_4 : Int64, x3_4 = ((r_2 * (σ.2 18)) - ((σ.2 17) * ((((σ.1 19 11)).toInt64) * (((σ.1 19 12)).toInt64)))) →
    ((¬ (lg_cmp x3_4 (0 : Int64)) = 0 →
    P59 x3_4) ∧
    ((lg_cmp x3_4 (0 : Int64)) = 0 →
    (((v1 * v2) = ((σ.1 19 15) * (σ.1 19 16)) →
    (((σ.1 19 15) ≤ v1 →
    Q (0 : Int32)) ∧
    (¬ ((σ.1 19 15) ≤ v1) →
    Q (1 : Int32)))) ∧
    (¬ ((v1 * v2) = ((σ.1 19 15) * (σ.1 19 16))) →
    P59 x3_4)))))) ∧
    ((σ.1 19 14) = (-1000001 : Int32) →
    Q (1 : Int32)))
set_option maxHeartbeats 4000000 in
set_option maxRecDepth 100000 in
theorem c_X6_isBetter (l : Launch) (g : cdG) (v1 : Int32) (v2 : Int32) (σ : cdS) (Q : Int32 → Prop) (hwp : wp_X6_isBetter v1 v2 σ Q) : cdCi l g yX6_isBetter cX6_isBetter 5 (some .boolean) 1 25 [.ref (cdA g 19), .int v1, .int v2] σ (fun r σ' => σ' = σ ∧ Q r) := by
  intro sz
  refine Met.ofW (cc := cX6_isBetter) (maxL := 5) (ret := (some .boolean)) (by decide) rfl ?_
  intro p e s m args below meth c s₁ B hml hv
  obtain ⟨rfl, hsz, hP, hK, hdi, hV⟩ := hv
  subst hsz
  have hx := B.exec
  have hb := B.bytes
  have hr := B.returns
  have hlocks := B.notSynchronized
  have hown : s.vm.findClass RX6 = some m.cls := findClass_of_methodNamed B.named
  have hts : ∀ w ∈ cdL, w.before _ s = true := fun w hw => atoms_spec (ws := cdWs yX6_isBetter cX6_isBetter 5 (some .boolean)) B.pre w (List.mem_cons_of_mem _ hw)
  have X : cdX p s m _ c cX6_isBetter 5 RX6 g := ⟨hx, hb, hml, hown, hts, hK, hdi, hV⟩
  have hS : va_S (cdZ g s.heap.size) s.heap s.heap [] := va_S.rf
  have hl := lv_entry ([.ref (cdA g 19), .int v1, .int v2]) (n := 5) (Nat.le_of_ble_eq_true rfl)
  rw [lg_entry_eq]
  generalize (lg_sl ([.ref (cdA g 19), .int v1, .int v2]) ++ List.replicate (5 - (lg_sl ([.ref (cdA g 19), .int v1, .int v2])).length) Slot.unset).toArray = ls at hl ⊢
  have hl : lv_has ls 5 [(0, .ref (cdA g 19)), (1, .int v1), (2, .int v2)] := hl
  obtain ⟨Qm, hQm⟩ : ∃ z, z = MQ below (va_Qi (fun r σ' => σ' = σ ∧ Q r) (fun σ' t => va_P (cdD g) vwCl (cdW g σ') t.heap) (cdZ g s.heap.size)) ([.ref (cdA g 19), .int v1, .int v2] : List Value).toArray s 0 0 (cdZ g s.heap.size) := ⟨_, rfl⟩
  rw [← hQm]
  have hB := hwp (fun (x3 : Int64) => cdCut p l e (headSpec (cdWs yX6_isBetter cX6_isBetter 5 (some .boolean)) (cdRm 1 25)).room s m ([.ref (cdA g 19), .int v1, .int v2] : List Value).toArray below meth c Qm g 5 59 [(0, .ref (cdA g 19)), (1, .int v1), (2, .int v2), (3, .long x3)] [] σ)
    (by
    intro x3 hB H locs ls hP hS hl
    refine lv_lload_n hx hb dX6_isBetter_59 rfl (lv_at hl 3 rfl) ?_
    refine lv_lconst (v := 0) hx hb dX6_isBetter_60 (by decide) ?_
    refine W.lcmp hx hb dX6_isBetter_61 ?_
    refine lv_if_gt (tgt := 86) hx hb dX6_isBetter_62 (by decide) (fun c_8 => ?_) (fun c_8 => ?_)
    · have hB := hB.1 c_8
      refine lv_iconst (v := 1) hx hb dX6_isBetter_86 (by decide) ?_
      refine lv_goto (tgt := 91) hx hb dX6_isBetter_87 (by decide) ?_
      rw [hQm]
      exact W.zret hx hb hr rfl (fun t ht hW => ⟨⟨(1 : Int32), σ, rfl, ⟨rfl, hB⟩, cd_hp ht hP⟩, hS.F ht⟩) hS.2.2 dX6_isBetter_91
    · have hB := hB.2 c_8
      refine lv_lload_n hx hb dX6_isBetter_65 rfl (lv_at hl 3 rfl) ?_
      refine lv_lconst (v := 0) hx hb dX6_isBetter_66 (by decide) ?_
      refine W.lcmp hx hb dX6_isBetter_67 ?_
      refine lv_if_ne (tgt := 90) hx hb dX6_isBetter_68 (by decide) (fun c_9 => ?_) (fun c_9 => ?_)
      · have hB := hB.1 c_9
        refine lv_iconst (v := 0) hx hb dX6_isBetter_90 (by decide) ?_
        rw [hQm]
        exact W.zret hx hb hr rfl (fun t ht hW => ⟨⟨(0 : Int32), σ, rfl, ⟨rfl, hB⟩, cd_hp ht hP⟩, hS.F ht⟩) hS.2.2 dX6_isBetter_91
      · have hB := hB.2 c_9
        refine lv_iload_n hx hb dX6_isBetter_71 rfl (lv_at hl 1 rfl) ?_
        refine lv_iload_n hx hb dX6_isBetter_72 rfl (lv_at hl 2 rfl) ?_
        refine lv_imul hx hb dX6_isBetter_73 ?_
        refine lv_aload_n hx hb dX6_isBetter_74 rfl (lv_at hl 0 rfl) ?_
        refine cd_get X hP (C := RX6) (T := TX6) (N := 20) (ci := 6) (k := 19) (j := 15) (v := .int (σ.1 19 15)) inX6 (by decide) rfl rfl (by decide) wf_X6_182 rfl rfl dX6_isBetter_75 ?_
        refine lv_aload_n hx hb dX6_isBetter_78 rfl (lv_at hl 0 rfl) ?_
        refine cd_get X hP (C := RX6) (T := TX6) (N := 20) (ci := 6) (k := 19) (j := 16) (v := .int (σ.1 19 16)) inX6 (by decide) rfl rfl (by decide) wf_X6_185 rfl rfl dX6_isBetter_79 ?_
        refine lv_imul hx hb dX6_isBetter_82 ?_
        refine lv_icmp_le (tgt := 90) hx hb dX6_isBetter_83 (by decide) (fun c_10 => ?_) (fun c_10 => ?_)
        · have hB := hB.1 c_10
          refine lv_iconst (v := 0) hx hb dX6_isBetter_90 (by decide) ?_
          rw [hQm]
          exact W.zret hx hb hr rfl (fun t ht hW => ⟨⟨(0 : Int32), σ, rfl, ⟨rfl, hB⟩, cd_hp ht hP⟩, hS.F ht⟩) hS.2.2 dX6_isBetter_91
        · have hB := hB.2 c_10
          refine lv_iconst (v := 1) hx hb dX6_isBetter_86 (by decide) ?_
          refine lv_goto (tgt := 91) hx hb dX6_isBetter_87 (by decide) ?_
          rw [hQm]
          exact W.zret hx hb hr rfl (fun t ht hW => ⟨⟨(1 : Int32), σ, rfl, ⟨rfl, hB⟩, cd_hp ht hP⟩, hS.F ht⟩) hS.2.2 dX6_isBetter_91)
  refine lv_aload_n hx hb dX6_isBetter_0 rfl (lv_at hl 0 rfl) ?_
  refine cd_get X hP (C := RX6) (T := TX6) (N := 20) (ci := 6) (k := 19) (j := 14) (v := .int (σ.1 19 14)) inX6 (by decide) rfl rfl (by decide) wf_X6_172 rfl rfl dX6_isBetter_1 ?_
  refine lv_ldc (v := -1000001) hx hb hown (hts _ wc_X6_32) dX6_isBetter_4 ?_
  refine lv_icmp_ne (tgt := 11) hx hb dX6_isBetter_6 (by decide) (fun c_1 => ?_) (fun c_1 => ?_)
  · have hB := hB.1 c_1
    refine lv_aload_n hx hb dX6_isBetter_11 rfl (lv_at hl 0 rfl) ?_
    refine cd_cl (cd_runV (As := []) (rest := []) (σ := σ) (k := 19) (ci := 6) X wm_X6_152 (by decide) rfl rfl rfl (c_X6_evenAbove l g  σ _ hB _) hP hS rfl rfl hl.1 (Nat.le_of_ble_eq_true rfl) ⟨Nat.le_of_ble_eq_true rfl, Nat.le_of_ble_eq_true rfl⟩ ⟨Nat.zero_le _, Nat.zero_le _⟩ dX6_isBetter_12) hS (fun r_2 σ_3 H locs hB hP hS => ?_)
    obtain ⟨eσ_3, hB⟩ := hB
    rw [eσ_3] at hP
    refine lv_aload_n hx hb dX6_isBetter_15 rfl (lv_at hl 0 rfl) ?_
    refine cd_get X hP (C := RX6) (T := TX6) (N := 20) (ci := 6) (k := 19) (j := 18) (v := .long (σ.2 18)) inX6 (by decide) rfl rfl (by decide) wf_X6_175 rfl rfl dX6_isBetter_16 ?_
    refine lv_lmul hx hb dX6_isBetter_19 ?_
    refine lv_aload_n hx hb dX6_isBetter_20 rfl (lv_at hl 0 rfl) ?_
    refine cd_get X hP (C := RX6) (T := TX6) (N := 20) (ci := 6) (k := 19) (j := 17) (v := .long (σ.2 17)) inX6 (by decide) rfl rfl (by decide) wf_X6_179 rfl rfl dX6_isBetter_21 ?_
    refine lv_aload_n hx hb dX6_isBetter_24 rfl (lv_at hl 0 rfl) ?_
    refine cd_get X hP (C := RX6) (T := TX6) (N := 20) (ci := 6) (k := 19) (j := 11) (v := .int (σ.1 19 11)) inX6 (by decide) rfl rfl (by decide) wf_X6_117 rfl rfl dX6_isBetter_25 ?_
    refine lv_i2l hx hb dX6_isBetter_28 rfl ?_
    refine lv_aload_n hx hb dX6_isBetter_29 rfl (lv_at hl 0 rfl) ?_
    refine cd_get X hP (C := RX6) (T := TX6) (N := 20) (ci := 6) (k := 19) (j := 12) (v := .int (σ.1 19 12)) inX6 (by decide) rfl rfl (by decide) wf_X6_120 rfl rfl dX6_isBetter_30 ?_
    refine lv_i2l hx hb dX6_isBetter_33 rfl ?_
    refine lv_lmul hx hb dX6_isBetter_34 ?_
    refine lv_lmul hx hb dX6_isBetter_35 ?_
    refine lv_lsub hx hb dX6_isBetter_36 ?_
    refine lv_topl (fun x3_4 ex3_4 => ?_)
    have hB := hB x3_4 ex3_4
    refine lv_lstore_n (lv' := [(3, .long x3_4), (0, .ref (cdA g 19)), (1, .int v1), (2, .int v2)]) hx hb dX6_isBetter_37 rfl hl (by decide) rfl (fun ls hl => ?_)
    refine lv_lload_n hx hb dX6_isBetter_38 rfl (lv_at hl 0 rfl) ?_
    refine lv_lconst (v := 0) hx hb dX6_isBetter_39 (by decide) ?_
    refine W.lcmp hx hb dX6_isBetter_40 ?_
    refine lv_if_ne (tgt := 59) hx hb dX6_isBetter_41 (by decide) (fun c_5 => ?_) (fun c_5 => ?_)
    · have hB := hB.1 c_5
      exact hB _ _ _ hP hS (lv_sub hl [1, 2, 3, 0] rfl)
    · have hB := hB.2 c_5
      refine lv_iload_n hx hb dX6_isBetter_44 rfl (lv_at hl 2 rfl) ?_
      refine lv_iload_n hx hb dX6_isBetter_45 rfl (lv_at hl 3 rfl) ?_
      refine lv_imul hx hb dX6_isBetter_46 ?_
      refine lv_aload_n hx hb dX6_isBetter_47 rfl (lv_at hl 1 rfl) ?_
      refine cd_get X hP (C := RX6) (T := TX6) (N := 20) (ci := 6) (k := 19) (j := 15) (v := .int (σ.1 19 15)) inX6 (by decide) rfl rfl (by decide) wf_X6_182 rfl rfl dX6_isBetter_48 ?_
      refine lv_aload_n hx hb dX6_isBetter_51 rfl (lv_at hl 1 rfl) ?_
      refine cd_get X hP (C := RX6) (T := TX6) (N := 20) (ci := 6) (k := 19) (j := 16) (v := .int (σ.1 19 16)) inX6 (by decide) rfl rfl (by decide) wf_X6_185 rfl rfl dX6_isBetter_52 ?_
      refine lv_imul hx hb dX6_isBetter_55 ?_
      refine lv_icmp_eq (tgt := 92) hx hb dX6_isBetter_56 (by decide) (fun c_6 => ?_) (fun c_6 => ?_)
      · have hB := hB.1 c_6
        refine lv_iload_n hx hb dX6_isBetter_92 rfl (lv_at hl 2 rfl) ?_
        refine lv_aload_n hx hb dX6_isBetter_93 rfl (lv_at hl 1 rfl) ?_
        refine cd_get X hP (C := RX6) (T := TX6) (N := 20) (ci := 6) (k := 19) (j := 15) (v := .int (σ.1 19 15)) inX6 (by decide) rfl rfl (by decide) wf_X6_182 rfl rfl dX6_isBetter_94 ?_
        refine lv_icmp_ge (tgt := 104) hx hb dX6_isBetter_97 (by decide) (fun c_7 => ?_) (fun c_7 => ?_)
        · have hB := hB.1 c_7
          refine lv_iconst (v := 0) hx hb dX6_isBetter_104 (by decide) ?_
          rw [hQm]
          exact W.zret hx hb hr rfl (fun t ht hW => ⟨⟨(0 : Int32), σ, rfl, ⟨rfl, hB⟩, cd_hp ht hP⟩, hS.F ht⟩) hS.2.2 dX6_isBetter_105
        · have hB := hB.2 c_7
          refine lv_iconst (v := 1) hx hb dX6_isBetter_100 (by decide) ?_
          refine lv_goto (tgt := 105) hx hb dX6_isBetter_101 (by decide) ?_
          rw [hQm]
          exact W.zret hx hb hr rfl (fun t ht hW => ⟨⟨(1 : Int32), σ, rfl, ⟨rfl, hB⟩, cd_hp ht hP⟩, hS.F ht⟩) hS.2.2 dX6_isBetter_105
      · have hB := hB.2 c_6
        exact hB _ _ _ hP hS (lv_sub hl [1, 2, 3, 0] rfl)
  · have hB := hB.2 c_1
    refine lv_iconst (v := 1) hx hb dX6_isBetter_9 (by decide) ?_
    rw [hQm]
    exact W.zret hx hb hr rfl (fun t ht hW => ⟨⟨(1 : Int32), σ, rfl, ⟨rfl, hB⟩, cd_hp ht hP⟩, hS.F ht⟩) hS.2.2 dX6_isBetter_10
def wp_X6_layBest (v1 : Int32) (v2 : Int32) (σ : cdS) (Q : cdS → Prop) : Prop :=
  ∀ (P8 : Int32 → cdS → Prop) (P123 : Int32 → cdS → Prop),
    (∀ (x3 : Int32) (σ : cdS), (
    (((128 : Int32) ≤ x3 →
    Q σ) ∧
    (¬ ((128 : Int32) ≤ x3) →
    ∀ x4_3 : Int32, x4_3 = (x3 / (64 : Int32)) →
    ∀ x5_4 : Int32, x5_4 = ((2 : Int32) + (cdm (x3 / (8 : Int32)) (8 : Int32))) →
    ∀ x6_5 : Int32, x6_5 = ((2 : Int32) + (cdm x3 (8 : Int32))) →
    wp_X6_layLayout v1 x4_3 x5_4 x6_5 σ (fun σ_7 => 
    (((σ_7.1 19 12) ≤ 0 →
    P123 x3 σ_7) ∧
    (¬ ((σ_7.1 19 12) ≤ 0) →
    (((σ_7.1 19 12) < (v2 * (σ_7.1 19 11)) →
    P123 x3 σ_7) ∧
    (¬ ((σ_7.1 19 12) < (v2 * (σ_7.1 19 11))) →
    wp_X6_isBetter x5_4 x6_5 σ_7 (fun r_10 => 
    ((r_10 = 0 →
    P123 x3 σ_7) ∧
    (¬ (r_10 = 0) →
    ∀ σ_13 : cdS, σ_13 = cdU σ_7 19 14 x4_3 →
    ∀ σ_14 : cdS, σ_14 = cdU σ_13 19 15 x5_4 →
    ∀ σ_15 : cdS, σ_15 = cdU σ_14 19 16 x6_5 →
    wp_X6_evenAbove σ_15 (fun r_16 => 
    ∀ σ_18 : cdS, σ_18 = cdJ σ_15 17 r_16 →
    ∀ σ_19 : cdS, σ_19 = cdJ σ_18 18 ((((σ_18.1 19 11)).toInt64) * (((σ_18.1 19 12)).toInt64)) →
    P123 x3 σ_19)))))))))))) → P8 x3 σ) →
    (∀ (x3 : Int32) (σ : cdS), (
    ∀ x3_20 : Int32, x3_20 = x3 + 1 →
    P8 x3_20 σ) → P123 x3 σ) →
    
    ∀ σ_1 : cdS, σ_1 = cdU σ 19 14 (-1000001 : Int32) →
    P8 (0 : Int32) σ_1
set_option maxHeartbeats 4000000 in
set_option maxRecDepth 100000 in
theorem c_X6_layBest (l : Launch) (g : cdG) (v1 : Int32) (v2 : Int32) (σ : cdS) (Q : cdS → Prop) (hwp : wp_X6_layBest v1 v2 σ Q) : cdCv l g yX6_layBest cX6_layBest 7 none 6 158 [.ref (cdA g 19), .int v1, .int v2] σ Q := by
  intro sz
  refine Met.ofW (cc := cX6_layBest) (maxL := 7) (ret := none) (by decide) rfl ?_
  intro p e s m args below meth c s₁ B hml hv
  obtain ⟨rfl, hsz, hP, hK, hdi, hV⟩ := hv
  subst hsz
  have hx := B.exec
  have hb := B.bytes
  have hr := B.returns
  have hlocks := B.notSynchronized
  have hown : s.vm.findClass RX6 = some m.cls := findClass_of_methodNamed B.named
  have hts : ∀ w ∈ cdL, w.before _ s = true := fun w hw => atoms_spec (ws := cdWs yX6_layBest cX6_layBest 7 none) B.pre w (List.mem_cons_of_mem _ hw)
  have X : cdX p s m _ c cX6_layBest 7 RX6 g := ⟨hx, hb, hml, hown, hts, hK, hdi, hV⟩
  have hS : va_S (cdZ g s.heap.size) s.heap s.heap [] := va_S.rf
  have hl := lv_entry ([.ref (cdA g 19), .int v1, .int v2]) (n := 7) (Nat.le_of_ble_eq_true rfl)
  rw [lg_entry_eq]
  generalize (lg_sl ([.ref (cdA g 19), .int v1, .int v2]) ++ List.replicate (7 - (lg_sl ([.ref (cdA g 19), .int v1, .int v2])).length) Slot.unset).toArray = ls at hl ⊢
  have hl : lv_has ls 7 [(0, .ref (cdA g 19)), (1, .int v1), (2, .int v2)] := hl
  obtain ⟨Qm, hQm⟩ : ∃ z, z = MQ below (va_Qv Q (fun σ' t => va_P (cdD g) vwCl (cdW g σ') t.heap) (cdZ g s.heap.size)) ([.ref (cdA g 19), .int v1, .int v2] : List Value).toArray s 0 0 (cdZ g s.heap.size) := ⟨_, rfl⟩
  rw [← hQm]
  have hB := hwp (fun (x3 : Int32) (σ : cdS) => cdCut p l e (headSpec (cdWs yX6_layBest cX6_layBest 7 none) (cdRm 6 158)).room s m ([.ref (cdA g 19), .int v1, .int v2] : List Value).toArray below meth c Qm g 7 8 [(0, .ref (cdA g 19)), (1, .int v1), (2, .int v2), (3, .int x3)] [] σ)
    (fun (x3 : Int32) (σ : cdS) => cdCut p l e (headSpec (cdWs yX6_layBest cX6_layBest 7 none) (cdRm 6 158)).room s m ([.ref (cdA g 19), .int v1, .int v2] : List Value).toArray below meth c Qm g 7 123 [(0, .ref (cdA g 19)), (1, .int v1), (2, .int v2), (3, .int x3)] [] σ)
    (by
    intro x3 σ hB H locs ls hP hS hl
    refine lv_iload_n hx hb dX6_layBest_8 rfl (lv_at hl 3 rfl) ?_
    refine lv_sipush (v := 128) hx hb dX6_layBest_9 (by decide) ?_
    refine lv_icmp_ge (tgt := 129) hx hb dX6_layBest_12 (by decide) (fun c_2 => ?_) (fun c_2 => ?_)
    · have hB := hB.1 c_2
      rw [hQm]
      exact W.vret hx hb hr (fun t ht hW => ⟨⟨σ, rfl, hB, cd_hp ht hP⟩, hS.F ht⟩) hS.2.2 dX6_layBest_129
    · have hB := hB.2 c_2
      refine lv_iload_n hx hb dX6_layBest_15 rfl (lv_at hl 3 rfl) ?_
      refine lv_bipush (v := 64) hx hb dX6_layBest_16 (by decide) ?_
      refine lv_idiv hx hb dX6_layBest_18 (by decide) ?_
      refine lv_topi (fun x4_3 ex4_3 => ?_)
      have hB := hB x4_3 ex4_3
      refine lv_istore (lv' := [(4, .int x4_3), (0, .ref (cdA g 19)), (1, .int v1), (2, .int v2), (3, .int x3)]) hx hb dX6_layBest_19 hl (by decide) rfl (fun ls hl => ?_)
      refine lv_iconst (v := 2) hx hb dX6_layBest_21 (by decide) ?_
      refine lv_iload_n hx hb dX6_layBest_22 rfl (lv_at hl 4 rfl) ?_
      refine lv_bipush (v := 8) hx hb dX6_layBest_23 (by decide) ?_
      refine lv_idiv hx hb dX6_layBest_25 (by decide) ?_
      refine lv_bipush (v := 8) hx hb dX6_layBest_26 (by decide) ?_
      refine lv_irem hx hb dX6_layBest_28 (by decide) ?_
      refine lv_iadd hx hb dX6_layBest_29 ?_
      refine lv_topi (fun x5_4 ex5_4 => ?_)
      have hB := hB x5_4 ex5_4
      refine lv_istore (lv' := [(5, .int x5_4), (4, .int x4_3), (0, .ref (cdA g 19)), (1, .int v1), (2, .int v2), (3, .int x3)]) hx hb dX6_layBest_30 hl (by decide) rfl (fun ls hl => ?_)
      refine lv_iconst (v := 2) hx hb dX6_layBest_32 (by decide) ?_
      refine lv_iload_n hx hb dX6_layBest_33 rfl (lv_at hl 5 rfl) ?_
      refine lv_bipush (v := 8) hx hb dX6_layBest_34 (by decide) ?_
      refine lv_irem hx hb dX6_layBest_36 (by decide) ?_
      refine lv_iadd hx hb dX6_layBest_37 ?_
      refine lv_topi (fun x6_5 ex6_5 => ?_)
      have hB := hB x6_5 ex6_5
      refine lv_istore (lv' := [(6, .int x6_5), (5, .int x5_4), (4, .int x4_3), (0, .ref (cdA g 19)), (1, .int v1), (2, .int v2), (3, .int x3)]) hx hb dX6_layBest_38 hl (by decide) rfl (fun ls hl => ?_)
      refine lv_aload_n hx hb dX6_layBest_40 rfl (lv_at hl 3 rfl) ?_
      refine lv_iload_n hx hb dX6_layBest_41 rfl (lv_at hl 4 rfl) ?_
      refine lv_iload hx hb dX6_layBest_42 (lv_at hl 2 rfl) ?_
      refine lv_iload hx hb dX6_layBest_44 (lv_at hl 1 rfl) ?_
      refine lv_iload hx hb dX6_layBest_46 (lv_at hl 0 rfl) ?_
      refine cd_cv (cd_runV (As := [.int v1, .int x4_3, .int x5_4, .int x6_5]) (rest := []) (σ := σ) (k := 19) (ci := 6) X wm_X6_158 (by decide) rfl rfl rfl (c_X6_layLayout l g v1 x4_3 x5_4 x6_5 σ _ hB _) hP hS rfl rfl hl.1 (Nat.le_of_ble_eq_true rfl) ⟨Nat.le_of_ble_eq_true rfl, Nat.le_of_ble_eq_true rfl⟩ ⟨Nat.zero_le _, Nat.zero_le _⟩ dX6_layBest_48) hS (fun σ_7 H locs hB hP hS => ?_)
      refine lv_aload_n hx hb dX6_layBest_51 rfl (lv_at hl 3 rfl) ?_
      refine cd_get X hP (C := RX6) (T := TX6) (N := 20) (ci := 6) (k := 19) (j := 12) (v := .int (σ_7.1 19 12)) inX6 (by decide) rfl rfl (by decide) wf_X6_120 rfl rfl dX6_layBest_52 ?_
      refine lv_if_le (tgt := 123) hx hb dX6_layBest_55 (by decide) (fun c_8 => ?_) (fun c_8 => ?_)
      · have hB := hB.1 c_8
        exact hB _ _ _ hP hS (lv_sub hl [3, 4, 5, 6] rfl)
      · have hB := hB.2 c_8
        refine lv_aload_n hx hb dX6_layBest_58 rfl (lv_at hl 3 rfl) ?_
        refine cd_get X hP (C := RX6) (T := TX6) (N := 20) (ci := 6) (k := 19) (j := 12) (v := .int (σ_7.1 19 12)) inX6 (by decide) rfl rfl (by decide) wf_X6_120 rfl rfl dX6_layBest_59 ?_
        refine lv_iload_n hx hb dX6_layBest_62 rfl (lv_at hl 5 rfl) ?_
        refine lv_aload_n hx hb dX6_layBest_63 rfl (lv_at hl 3 rfl) ?_
        refine cd_get X hP (C := RX6) (T := TX6) (N := 20) (ci := 6) (k := 19) (j := 11) (v := .int (σ_7.1 19 11)) inX6 (by decide) rfl rfl (by decide) wf_X6_117 rfl rfl dX6_layBest_64 ?_
        refine lv_imul hx hb dX6_layBest_67 ?_
        refine lv_icmp_lt (tgt := 123) hx hb dX6_layBest_68 (by decide) (fun c_9 => ?_) (fun c_9 => ?_)
        · have hB := hB.1 c_9
          exact hB _ _ _ hP hS (lv_sub hl [3, 4, 5, 6] rfl)
        · have hB := hB.2 c_9
          refine lv_aload_n hx hb dX6_layBest_71 rfl (lv_at hl 3 rfl) ?_
          refine lv_iload hx hb dX6_layBest_72 (lv_at hl 1 rfl) ?_
          refine lv_iload hx hb dX6_layBest_74 (lv_at hl 0 rfl) ?_
          refine cd_ci (cd_runV (As := [.int x5_4, .int x6_5]) (rest := []) (σ := σ_7) (k := 19) (ci := 6) X wm_X6_188 (by decide) rfl rfl rfl (c_X6_isBetter l g x5_4 x6_5 σ_7 _ hB _) hP hS rfl rfl hl.1 (Nat.le_of_ble_eq_true rfl) ⟨Nat.le_of_ble_eq_true rfl, Nat.le_of_ble_eq_true rfl⟩ ⟨Nat.zero_le _, Nat.zero_le _⟩ dX6_layBest_76) hS (fun r_10 σ_11 H locs hB hP hS => ?_)
          obtain ⟨eσ_11, hB⟩ := hB
          rw [eσ_11] at hP
          refine lv_if_eq (tgt := 123) hx hb dX6_layBest_79 (by decide) (fun c_12 => ?_) (fun c_12 => ?_)
          · have hB := hB.1 c_12
            exact hB _ _ _ hP hS (lv_sub hl [3, 4, 5, 6] rfl)
          · have hB := hB.2 c_12
            refine lv_aload_n hx hb dX6_layBest_82 rfl (lv_at hl 3 rfl) ?_
            refine lv_iload hx hb dX6_layBest_83 (lv_at hl 2 rfl) ?_
            refine cd_put X hP hS (C := RX6) (T := TX6) (N := 20) (ci := 6) (k := 19) (j := 14) (v := .int x4_3) (σ' := cdU σ_7 19 14 x4_3) inX6 tyX6 tyX6_ok nmX6 (by decide) rfl rfl (by decide) wf_X6_172 rfl rfl (tyX6_ok 14 (by decide)) rfl rfl (Nat.le_of_ble_eq_true rfl) (cdW_U (by decide) rfl) dX6_layBest_85 (fun H locs hP hS => ?_)
            obtain ⟨σ_13, eσ_13⟩ : ∃ z : cdS, z = cdU σ_7 19 14 x4_3 := ⟨_, rfl⟩
            rw [← eσ_13] at hP
            have hB := hB σ_13 eσ_13
            refine lv_aload_n hx hb dX6_layBest_88 rfl (lv_at hl 3 rfl) ?_
            refine lv_iload hx hb dX6_layBest_89 (lv_at hl 1 rfl) ?_
            refine cd_put X hP hS (C := RX6) (T := TX6) (N := 20) (ci := 6) (k := 19) (j := 15) (v := .int x5_4) (σ' := cdU σ_13 19 15 x5_4) inX6 tyX6 tyX6_ok nmX6 (by decide) rfl rfl (by decide) wf_X6_182 rfl rfl (tyX6_ok 15 (by decide)) rfl rfl (Nat.le_of_ble_eq_true rfl) (cdW_U (by decide) rfl) dX6_layBest_91 (fun H locs hP hS => ?_)
            obtain ⟨σ_14, eσ_14⟩ : ∃ z : cdS, z = cdU σ_13 19 15 x5_4 := ⟨_, rfl⟩
            rw [← eσ_14] at hP
            have hB := hB σ_14 eσ_14
            refine lv_aload_n hx hb dX6_layBest_94 rfl (lv_at hl 3 rfl) ?_
            refine lv_iload hx hb dX6_layBest_95 (lv_at hl 0 rfl) ?_
            refine cd_put X hP hS (C := RX6) (T := TX6) (N := 20) (ci := 6) (k := 19) (j := 16) (v := .int x6_5) (σ' := cdU σ_14 19 16 x6_5) inX6 tyX6 tyX6_ok nmX6 (by decide) rfl rfl (by decide) wf_X6_185 rfl rfl (tyX6_ok 16 (by decide)) rfl rfl (Nat.le_of_ble_eq_true rfl) (cdW_U (by decide) rfl) dX6_layBest_97 (fun H locs hP hS => ?_)
            obtain ⟨σ_15, eσ_15⟩ : ∃ z : cdS, z = cdU σ_14 19 16 x6_5 := ⟨_, rfl⟩
            rw [← eσ_15] at hP
            have hB := hB σ_15 eσ_15
            refine lv_aload_n hx hb dX6_layBest_100 rfl (lv_at hl 3 rfl) ?_
            refine lv_aload_n hx hb dX6_layBest_101 rfl (lv_at hl 3 rfl) ?_
            refine cd_cl (cd_runV (As := []) (rest := [.ref (cdA g 19)]) (σ := σ_15) (k := 19) (ci := 6) X wm_X6_152 (by decide) rfl rfl rfl (c_X6_evenAbove l g  σ_15 _ hB _) hP hS rfl rfl hl.1 (Nat.le_of_ble_eq_true rfl) ⟨Nat.le_of_ble_eq_true rfl, Nat.le_of_ble_eq_true rfl⟩ ⟨Nat.zero_le _, Nat.zero_le _⟩ dX6_layBest_102) hS (fun r_16 σ_17 H locs hB hP hS => ?_)
            obtain ⟨eσ_17, hB⟩ := hB
            rw [eσ_17] at hP
            refine cd_put X hP hS (C := RX6) (T := TX6) (N := 20) (ci := 6) (k := 19) (j := 17) (v := .long r_16) (σ' := cdJ σ_15 17 r_16) inX6 tyX6 tyX6_ok nmX6 (by decide) rfl rfl (by decide) wf_X6_179 rfl rfl (tyX6_ok 17 (by decide)) rfl rfl (Nat.le_of_ble_eq_true rfl) (cdW_J rfl) dX6_layBest_105 (fun H locs hP hS => ?_)
            obtain ⟨σ_18, eσ_18⟩ : ∃ z : cdS, z = cdJ σ_15 17 r_16 := ⟨_, rfl⟩
            rw [← eσ_18] at hP
            have hB := hB σ_18 eσ_18
            refine lv_aload_n hx hb dX6_layBest_108 rfl (lv_at hl 3 rfl) ?_
            refine lv_aload_n hx hb dX6_layBest_109 rfl (lv_at hl 3 rfl) ?_
            refine cd_get X hP (C := RX6) (T := TX6) (N := 20) (ci := 6) (k := 19) (j := 11) (v := .int (σ_18.1 19 11)) inX6 (by decide) rfl rfl (by decide) wf_X6_117 rfl rfl dX6_layBest_110 ?_
            refine lv_i2l hx hb dX6_layBest_113 rfl ?_
            refine lv_aload_n hx hb dX6_layBest_114 rfl (lv_at hl 3 rfl) ?_
            refine cd_get X hP (C := RX6) (T := TX6) (N := 20) (ci := 6) (k := 19) (j := 12) (v := .int (σ_18.1 19 12)) inX6 (by decide) rfl rfl (by decide) wf_X6_120 rfl rfl dX6_layBest_115 ?_
            refine lv_i2l hx hb dX6_layBest_118 rfl ?_
            refine lv_lmul hx hb dX6_layBest_119 ?_
            refine cd_put X hP hS (C := RX6) (T := TX6) (N := 20) (ci := 6) (k := 19) (j := 18) (v := .long ((((σ_18.1 19 11)).toInt64) * (((σ_18.1 19 12)).toInt64))) (σ' := cdJ σ_18 18 ((((σ_18.1 19 11)).toInt64) * (((σ_18.1 19 12)).toInt64))) inX6 tyX6 tyX6_ok nmX6 (by decide) rfl rfl (by decide) wf_X6_175 rfl rfl (tyX6_ok 18 (by decide)) rfl rfl (Nat.le_of_ble_eq_true rfl) (cdW_J rfl) dX6_layBest_120 (fun H locs hP hS => ?_)
            obtain ⟨σ_19, eσ_19⟩ : ∃ z : cdS, z = cdJ σ_18 18 ((((σ_18.1 19 11)).toInt64) * (((σ_18.1 19 12)).toInt64)) := ⟨_, rfl⟩
            rw [← eσ_19] at hP
            have hB := hB σ_19 eσ_19
            exact hB _ _ _ hP hS (lv_sub hl [3, 4, 5, 6] rfl))
    (by
    intro x3 σ hB H locs ls hP hS hl
    obtain ⟨x3_20, ex3_20⟩ : ∃ z : Int32, z = x3 + 1 := ⟨_, rfl⟩
    have hB := hB x3_20 ex3_20
    refine lv_iinc (v := x3_20) (lv' := [(3, .int x3_20), (0, .ref (cdA g 19)), (1, .int v1), (2, .int v2)]) hx hb dX6_layBest_123 hl (k := 3) rfl (by rw [ex3_20]; rfl) (by decide) rfl (fun ls hl => ?_)
    refine lv_goto (tgt := 8) hx hb dX6_layBest_126 (by decide) ?_
    exact hB _ _ _ hP hS (lv_sub hl [1, 2, 3, 0] rfl))
  refine lv_aload_n hx hb dX6_layBest_0 rfl (lv_at hl 0 rfl) ?_
  refine lv_ldc (v := -1000001) hx hb hown (hts _ wc_X6_32) dX6_layBest_1 ?_
  refine cd_put X hP hS (C := RX6) (T := TX6) (N := 20) (ci := 6) (k := 19) (j := 14) (v := .int (-1000001 : Int32)) (σ' := cdU σ 19 14 (-1000001 : Int32)) inX6 tyX6 tyX6_ok nmX6 (by decide) rfl rfl (by decide) wf_X6_172 rfl rfl (tyX6_ok 14 (by decide)) rfl rfl (Nat.le_of_ble_eq_true rfl) (cdW_U (by decide) rfl) dX6_layBest_3 (fun H locs hP hS => ?_)
  obtain ⟨σ_1, eσ_1⟩ : ∃ z : cdS, z = cdU σ 19 14 (-1000001 : Int32) := ⟨_, rfl⟩
  rw [← eσ_1] at hP
  have hB := hB σ_1 eσ_1
  refine lv_iconst (v := 0) hx hb dX6_layBest_6 (by decide) ?_
  refine lv_istore_n (lv' := [(3, .int (0 : Int32)), (0, .ref (cdA g 19)), (1, .int v1), (2, .int v2)]) hx hb dX6_layBest_7 rfl hl (by decide) rfl (fun ls hl => ?_)
  exact hB _ _ _ hP hS (lv_sub hl [1, 2, 3, 0] rfl)
def wp_X6_common (v0 : Int64) (v2 : Int64) (σ : cdS) (Q : Int64 → Prop) : Prop :=
  ∀ (P12 : Int64 → Prop) (P17 : Int64 → Int64 → Prop),
    (∀ (t0 : Int64), (
    P17 t0 v2) → P12 t0) →
    (∀ (x4 : Int64) (x6 : Int64), (
    (((lg_cmp x6 (0 : Int64)) = 0 →
    Q x4) ∧
    (¬ ((lg_cmp x6 (0 : Int64)) = 0) →
    ¬ x6 = 0 ∧
    ∀ x8_4 : Int64, x8_4 = (cdmL x4 x6) →
    P17 x6 x8_4))) → P17 x4 x6) →
    
    ((0 ≤ (lg_cmp v0 (0 : Int64)) →
    P12 v0) ∧
    (¬ (0 ≤ (lg_cmp v0 (0 : Int64))) →
    P12 (-v0)))
set_option maxHeartbeats 4000000 in
set_option maxRecDepth 100000 in
theorem c_X6_common (l : Launch) (g : cdG) (v0 : Int64) (v2 : Int64) (σ : cdS) (Q : Int64 → Prop) (hwp : wp_X6_common v0 v2 σ Q) : cdCl l g yX6_common cX6_common 10 (some .long) 0 0 [.long v0, .long v2] σ (fun r σ' => σ' = σ ∧ Q r) := by
  intro sz
  refine Met.ofW (cc := cX6_common) (maxL := 10) (ret := (some .long)) (by decide) rfl ?_
  intro p e s m args below meth c s₁ B hml hv
  obtain ⟨rfl, hsz, hP, hK, hdi, hV⟩ := hv
  subst hsz
  have hx := B.exec
  have hb := B.bytes
  have hr := B.returns
  have hlocks := B.notSynchronized
  have hown : s.vm.findClass RX6 = some m.cls := findClass_of_methodNamed B.named
  have hts : ∀ w ∈ cdL, w.before _ s = true := fun w hw => atoms_spec (ws := cdWs yX6_common cX6_common 10 (some .long)) B.pre w (List.mem_cons_of_mem _ hw)
  have X : cdX p s m _ c cX6_common 10 RX6 g := ⟨hx, hb, hml, hown, hts, hK, hdi, hV⟩
  have hS : va_S (cdZ g s.heap.size) s.heap s.heap [] := va_S.rf
  have hl := lv_entry ([.long v0, .long v2]) (n := 10) (Nat.le_of_ble_eq_true rfl)
  rw [lg_entry_eq]
  generalize (lg_sl ([.long v0, .long v2]) ++ List.replicate (10 - (lg_sl ([.long v0, .long v2])).length) Slot.unset).toArray = ls at hl ⊢
  have hl : lv_has ls 10 [(0, .long v0), (2, .long v2)] := hl
  obtain ⟨Qm, hQm⟩ : ∃ z, z = MQ below (va_Ql (fun r σ' => σ' = σ ∧ Q r) (fun σ' t => va_P (cdD g) vwCl (cdW g σ') t.heap) (cdZ g s.heap.size)) ([.long v0, .long v2] : List Value).toArray s 0 0 (cdZ g s.heap.size) := ⟨_, rfl⟩
  rw [← hQm]
  have hB := hwp (fun (t0 : Int64) => cdCut p l e (headSpec (cdWs yX6_common cX6_common 10 (some .long)) (cdRm 0 0)).room s m ([.long v0, .long v2] : List Value).toArray below meth c Qm g 10 12 [(2, .long v2)] [.long t0] σ)
    (fun (x4 : Int64) (x6 : Int64) => cdCut p l e (headSpec (cdWs yX6_common cX6_common 10 (some .long)) (cdRm 0 0)).room s m ([.long v0, .long v2] : List Value).toArray below meth c Qm g 10 17 [(4, .long x4), (6, .long x6)] [] σ)
    (by
    intro t0 hB H locs ls hP hS hl
    refine lv_lstore (lv' := [(4, .long t0), (2, .long v2)]) hx hb dX6_common_12 hl (by decide) rfl (fun ls hl => ?_)
    refine lv_lload_n hx hb dX6_common_14 rfl (lv_at hl 1 rfl) ?_
    refine lv_lstore (lv' := [(6, .long v2), (4, .long t0), (2, .long v2)]) hx hb dX6_common_15 hl (by decide) rfl (fun ls hl => ?_)
    exact hB _ _ _ hP hS (lv_sub hl [1, 0] rfl))
    (by
    intro x4 x6 hB H locs ls hP hS hl
    refine lv_lload hx hb dX6_common_17 (lv_at hl 1 rfl) ?_
    refine lv_lconst (v := 0) hx hb dX6_common_19 (by decide) ?_
    refine W.lcmp hx hb dX6_common_20 ?_
    refine lv_if_eq (tgt := 42) hx hb dX6_common_21 (by decide) (fun c_2 => ?_) (fun c_2 => ?_)
    · have hB := hB.1 c_2
      refine lv_lload hx hb dX6_common_42 (lv_at hl 0 rfl) ?_
      rw [hQm]
      exact W.lret hx hb hr (fun t ht hW => ⟨⟨x4, σ, rfl, ⟨rfl, hB⟩, cd_hp ht hP⟩, hS.F ht⟩) hS.2.2 dX6_common_44
    · have hB := hB.2 c_2
      refine lv_lload hx hb dX6_common_24 (lv_at hl 0 rfl) ?_
      refine lv_lload hx hb dX6_common_26 (lv_at hl 1 rfl) ?_
      obtain ⟨z_3, hB⟩ := hB
      refine lv_lrem hx hb dX6_common_28 z_3 ?_
      refine lv_topl (fun x8_4 ex8_4 => ?_)
      have hB := hB x8_4 ex8_4
      refine lv_lstore (lv' := [(8, .long x8_4), (4, .long x4), (6, .long x6)]) hx hb dX6_common_29 hl (by decide) rfl (fun ls hl => ?_)
      refine lv_lload hx hb dX6_common_31 (lv_at hl 2 rfl) ?_
      refine lv_lstore (lv' := [(4, .long x6), (8, .long x8_4), (6, .long x6)]) hx hb dX6_common_33 hl (by decide) rfl (fun ls hl => ?_)
      refine lv_lload hx hb dX6_common_35 (lv_at hl 1 rfl) ?_
      refine lv_lstore (lv' := [(6, .long x8_4), (4, .long x6), (8, .long x8_4)]) hx hb dX6_common_37 hl (by decide) rfl (fun ls hl => ?_)
      refine lv_goto (tgt := 17) hx hb dX6_common_39 (by decide) ?_
      exact hB _ _ _ hP hS (lv_sub hl [1, 0] rfl))
  refine lv_lload_n hx hb dX6_common_0 rfl (lv_at hl 0 rfl) ?_
  refine lv_lconst (v := 0) hx hb dX6_common_1 (by decide) ?_
  refine W.lcmp hx hb dX6_common_2 ?_
  refine lv_if_ge (tgt := 11) hx hb dX6_common_3 (by decide) (fun c_1 => ?_) (fun c_1 => ?_)
  · have hB := hB.1 c_1
    refine lv_lload_n hx hb dX6_common_11 rfl (lv_at hl 0 rfl) ?_
    exact hB _ _ _ hP hS (lv_sub hl [1] rfl)
  · have hB := hB.2 c_1
    refine lv_lload_n hx hb dX6_common_6 rfl (lv_at hl 0 rfl) ?_
    refine lv_lneg hx hb dX6_common_7 ?_
    refine lv_goto (tgt := 12) hx hb dX6_common_8 (by decide) ?_
    exact hB _ _ _ hP hS (lv_sub hl [1] rfl)
def wp_X6_lowest (v0 : Int64) (v2 : Int64) (v4 : Int32) (σ : cdS) (Q : Int32 → Prop) : Prop :=
  
    wp_X6_common v0 v2 σ (fun r_1 => 
    ((¬ v4 = 0 →
    ¬ r_1 = 0 ∧
    Q (((v2 / r_1)).toInt32)) ∧
    (v4 = 0 →
    ¬ r_1 = 0 ∧
    Q (((v0 / r_1)).toInt32))))
set_option maxHeartbeats 4000000 in
set_option maxRecDepth 100000 in
theorem c_X6_lowest (l : Launch) (g : cdG) (v0 : Int64) (v2 : Int64) (v4 : Int32) (σ : cdS) (Q : Int32 → Prop) (hwp : wp_X6_lowest v0 v2 v4 σ Q) : cdCi l g yX6_lowest cX6_lowest 7 (some .int) 1 29 [.long v0, .long v2, .int v4] σ (fun r σ' => σ' = σ ∧ Q r) := by
  intro sz
  refine Met.ofW (cc := cX6_lowest) (maxL := 7) (ret := (some .int)) (by decide) rfl ?_
  intro p e s m args below meth c s₁ B hml hv
  obtain ⟨rfl, hsz, hP, hK, hdi, hV⟩ := hv
  subst hsz
  have hx := B.exec
  have hb := B.bytes
  have hr := B.returns
  have hlocks := B.notSynchronized
  have hown : s.vm.findClass RX6 = some m.cls := findClass_of_methodNamed B.named
  have hts : ∀ w ∈ cdL, w.before _ s = true := fun w hw => atoms_spec (ws := cdWs yX6_lowest cX6_lowest 7 (some .int)) B.pre w (List.mem_cons_of_mem _ hw)
  have X : cdX p s m _ c cX6_lowest 7 RX6 g := ⟨hx, hb, hml, hown, hts, hK, hdi, hV⟩
  have hS : va_S (cdZ g s.heap.size) s.heap s.heap [] := va_S.rf
  have hl := lv_entry ([.long v0, .long v2, .int v4]) (n := 7) (Nat.le_of_ble_eq_true rfl)
  rw [lg_entry_eq]
  generalize (lg_sl ([.long v0, .long v2, .int v4]) ++ List.replicate (7 - (lg_sl ([.long v0, .long v2, .int v4])).length) Slot.unset).toArray = ls at hl ⊢
  have hl : lv_has ls 7 [(0, .long v0), (2, .long v2), (4, .int v4)] := hl
  obtain ⟨Qm, hQm⟩ : ∃ z, z = MQ below (va_Qi (fun r σ' => σ' = σ ∧ Q r) (fun σ' t => va_P (cdD g) vwCl (cdW g σ') t.heap) (cdZ g s.heap.size)) ([.long v0, .long v2, .int v4] : List Value).toArray s 0 0 (cdZ g s.heap.size) := ⟨_, rfl⟩
  rw [← hQm]
  have hB := hwp
  refine lv_lload_n hx hb dX6_lowest_0 rfl (lv_at hl 0 rfl) ?_
  refine lv_lload_n hx hb dX6_lowest_1 rfl (lv_at hl 1 rfl) ?_
  refine cd_cl (cd_runS (As := [.long v0, .long v2]) (rest := []) (σ := σ) X wm_X6_134 (c_X6_common l g v0 v2 σ _ hB _) hP hS rfl rfl hl.1 (Nat.le_of_ble_eq_true rfl) ⟨Nat.le_of_ble_eq_true rfl, Nat.le_of_ble_eq_true rfl⟩ ⟨Nat.zero_le _, Nat.zero_le _⟩ dX6_lowest_2) hS (fun r_1 σ_2 H locs hB hP hS => ?_)
  obtain ⟨eσ_2, hB⟩ := hB
  rw [eσ_2] at hP
  refine lv_lstore (lv' := [(5, .long r_1), (0, .long v0), (2, .long v2), (4, .int v4)]) hx hb dX6_lowest_5 hl (by decide) rfl (fun ls hl => ?_)
  refine lv_iload hx hb dX6_lowest_7 (lv_at hl 3 rfl) ?_
  refine lv_if_ne (tgt := 19) hx hb dX6_lowest_9 (by decide) (fun c_3 => ?_) (fun c_3 => ?_)
  · have hB := hB.1 c_3
    refine lv_lload_n hx hb dX6_lowest_19 rfl (lv_at hl 2 rfl) ?_
    refine lv_lload hx hb dX6_lowest_20 (lv_at hl 0 rfl) ?_
    obtain ⟨z_4, hB⟩ := hB
    refine lv_ldiv hx hb dX6_lowest_22 z_4 ?_
    refine lv_l2i hx hb dX6_lowest_23 rfl ?_
    rw [hQm]
    exact W.iret hx hb hr (fun t ht hW => ⟨⟨(((v2 / r_1)).toInt32), σ, rfl, ⟨rfl, hB⟩, cd_hp ht hP⟩, hS.F ht⟩) hS.2.2 dX6_lowest_24
  · have hB := hB.2 c_3
    refine lv_lload_n hx hb dX6_lowest_12 rfl (lv_at hl 1 rfl) ?_
    refine lv_lload hx hb dX6_lowest_13 (lv_at hl 0 rfl) ?_
    obtain ⟨z_5, hB⟩ := hB
    refine lv_ldiv hx hb dX6_lowest_15 z_5 ?_
    refine lv_goto (tgt := 23) hx hb dX6_lowest_16 (by decide) ?_
    refine lv_l2i hx hb dX6_lowest_23 rfl ?_
    rw [hQm]
    exact W.iret hx hb hr (fun t ht hW => ⟨⟨(((v0 / r_1)).toInt32), σ, rfl, ⟨rfl, hB⟩, cd_hp ht hP⟩, hS.F ht⟩) hS.2.2 dX6_lowest_24
def wp_X6_bestNow (v1 : Int32) (σ : cdS) (Q : Int32 → Prop) : Prop :=
  
    ((¬ (σ.1 19 14) = (-1000001 : Int32) →
    ((¬ v1 = 0 →
    ((¬ v1 = (1 : Int32) →
    ((¬ v1 = (2 : Int32) →
    wp_X6_lowest (σ.2 17) (σ.2 18) (v1 - (3 : Int32)) σ (fun r_5 => 
    Q r_5)) ∧
    (v1 = (2 : Int32) →
    Q (σ.1 19 16)))) ∧
    (v1 = (1 : Int32) →
    Q (σ.1 19 15)))) ∧
    (v1 = 0 →
    Q (σ.1 19 14)))) ∧
    ((σ.1 19 14) = (-1000001 : Int32) →
    Q (-1000001 : Int32)))
set_option maxHeartbeats 4000000 in
set_option maxRecDepth 100000 in
theorem c_X6_bestNow (l : Launch) (g : cdG) (v1 : Int32) (σ : cdS) (Q : Int32 → Prop) (hwp : wp_X6_bestNow v1 σ Q) : cdCi l g yX6_bestNow cX6_bestNow 2 (some .int) 2 55 [.ref (cdA g 19), .int v1] σ (fun r σ' => σ' = σ ∧ Q r) := by
  intro sz
  refine Met.ofW (cc := cX6_bestNow) (maxL := 2) (ret := (some .int)) (by decide) rfl ?_
  intro p e s m args below meth c s₁ B hml hv
  obtain ⟨rfl, hsz, hP, hK, hdi, hV⟩ := hv
  subst hsz
  have hx := B.exec
  have hb := B.bytes
  have hr := B.returns
  have hlocks := B.notSynchronized
  have hown : s.vm.findClass RX6 = some m.cls := findClass_of_methodNamed B.named
  have hts : ∀ w ∈ cdL, w.before _ s = true := fun w hw => atoms_spec (ws := cdWs yX6_bestNow cX6_bestNow 2 (some .int)) B.pre w (List.mem_cons_of_mem _ hw)
  have X : cdX p s m _ c cX6_bestNow 2 RX6 g := ⟨hx, hb, hml, hown, hts, hK, hdi, hV⟩
  have hS : va_S (cdZ g s.heap.size) s.heap s.heap [] := va_S.rf
  have hl := lv_entry ([.ref (cdA g 19), .int v1]) (n := 2) (Nat.le_of_ble_eq_true rfl)
  rw [lg_entry_eq]
  generalize (lg_sl ([.ref (cdA g 19), .int v1]) ++ List.replicate (2 - (lg_sl ([.ref (cdA g 19), .int v1])).length) Slot.unset).toArray = ls at hl ⊢
  have hl : lv_has ls 2 [(0, .ref (cdA g 19)), (1, .int v1)] := hl
  obtain ⟨Qm, hQm⟩ : ∃ z, z = MQ below (va_Qi (fun r σ' => σ' = σ ∧ Q r) (fun σ' t => va_P (cdD g) vwCl (cdW g σ') t.heap) (cdZ g s.heap.size)) ([.ref (cdA g 19), .int v1] : List Value).toArray s 0 0 (cdZ g s.heap.size) := ⟨_, rfl⟩
  rw [← hQm]
  have hB := hwp
  refine lv_aload_n hx hb dX6_bestNow_0 rfl (lv_at hl 0 rfl) ?_
  refine cd_get X hP (C := RX6) (T := TX6) (N := 20) (ci := 6) (k := 19) (j := 14) (v := .int (σ.1 19 14)) inX6 (by decide) rfl rfl (by decide) wf_X6_172 rfl rfl dX6_bestNow_1 ?_
  refine lv_ldc (v := -1000001) hx hb hown (hts _ wc_X6_32) dX6_bestNow_4 ?_
  refine lv_icmp_ne (tgt := 12) hx hb dX6_bestNow_6 (by decide) (fun c_1 => ?_) (fun c_1 => ?_)
  · have hB := hB.1 c_1
    refine lv_iload_n hx hb dX6_bestNow_12 rfl (lv_at hl 1 rfl) ?_
    refine lv_if_ne (tgt := 23) hx hb dX6_bestNow_13 (by decide) (fun c_2 => ?_) (fun c_2 => ?_)
    · have hB := hB.1 c_2
      refine lv_iload_n hx hb dX6_bestNow_23 rfl (lv_at hl 1 rfl) ?_
      refine lv_iconst (v := 1) hx hb dX6_bestNow_24 (by decide) ?_
      refine lv_icmp_ne (tgt := 35) hx hb dX6_bestNow_25 (by decide) (fun c_3 => ?_) (fun c_3 => ?_)
      · have hB := hB.1 c_3
        refine lv_iload_n hx hb dX6_bestNow_35 rfl (lv_at hl 1 rfl) ?_
        refine lv_iconst (v := 2) hx hb dX6_bestNow_36 (by decide) ?_
        refine lv_icmp_ne (tgt := 47) hx hb dX6_bestNow_37 (by decide) (fun c_4 => ?_) (fun c_4 => ?_)
        · have hB := hB.1 c_4
          refine lv_aload_n hx hb dX6_bestNow_47 rfl (lv_at hl 0 rfl) ?_
          refine cd_get X hP (C := RX6) (T := TX6) (N := 20) (ci := 6) (k := 19) (j := 17) (v := .long (σ.2 17)) inX6 (by decide) rfl rfl (by decide) wf_X6_179 rfl rfl dX6_bestNow_48 ?_
          refine lv_aload_n hx hb dX6_bestNow_51 rfl (lv_at hl 0 rfl) ?_
          refine cd_get X hP (C := RX6) (T := TX6) (N := 20) (ci := 6) (k := 19) (j := 18) (v := .long (σ.2 18)) inX6 (by decide) rfl rfl (by decide) wf_X6_175 rfl rfl dX6_bestNow_52 ?_
          refine lv_iload_n hx hb dX6_bestNow_55 rfl (lv_at hl 1 rfl) ?_
          refine lv_iconst (v := 3) hx hb dX6_bestNow_56 (by decide) ?_
          refine lv_isub hx hb dX6_bestNow_57 ?_
          refine cd_ci (cd_runS (As := [.long (σ.2 17), .long (σ.2 18), .int (v1 - (3 : Int32))]) (rest := []) (σ := σ) X wm_X6_145 (c_X6_lowest l g (σ.2 17) (σ.2 18) (v1 - (3 : Int32)) σ _ hB _) hP hS rfl rfl hl.1 (Nat.le_of_ble_eq_true rfl) ⟨Nat.le_of_ble_eq_true rfl, Nat.le_of_ble_eq_true rfl⟩ ⟨Nat.zero_le _, Nat.zero_le _⟩ dX6_bestNow_58) hS (fun r_5 σ_6 H locs hB hP hS => ?_)
          obtain ⟨eσ_6, hB⟩ := hB
          rw [eσ_6] at hP
          rw [hQm]
          exact W.iret hx hb hr (fun t ht hW => ⟨⟨r_5, σ, rfl, ⟨rfl, hB⟩, cd_hp ht hP⟩, hS.F ht⟩) hS.2.2 dX6_bestNow_61
        · have hB := hB.2 c_4
          refine lv_aload_n hx hb dX6_bestNow_40 rfl (lv_at hl 0 rfl) ?_
          refine cd_get X hP (C := RX6) (T := TX6) (N := 20) (ci := 6) (k := 19) (j := 16) (v := .int (σ.1 19 16)) inX6 (by decide) rfl rfl (by decide) wf_X6_185 rfl rfl dX6_bestNow_41 ?_
          refine lv_goto (tgt := 61) hx hb dX6_bestNow_44 (by decide) ?_
          rw [hQm]
          exact W.iret hx hb hr (fun t ht hW => ⟨⟨(σ.1 19 16), σ, rfl, ⟨rfl, hB⟩, cd_hp ht hP⟩, hS.F ht⟩) hS.2.2 dX6_bestNow_61
      · have hB := hB.2 c_3
        refine lv_aload_n hx hb dX6_bestNow_28 rfl (lv_at hl 0 rfl) ?_
        refine cd_get X hP (C := RX6) (T := TX6) (N := 20) (ci := 6) (k := 19) (j := 15) (v := .int (σ.1 19 15)) inX6 (by decide) rfl rfl (by decide) wf_X6_182 rfl rfl dX6_bestNow_29 ?_
        refine lv_goto (tgt := 61) hx hb dX6_bestNow_32 (by decide) ?_
        rw [hQm]
        exact W.iret hx hb hr (fun t ht hW => ⟨⟨(σ.1 19 15), σ, rfl, ⟨rfl, hB⟩, cd_hp ht hP⟩, hS.F ht⟩) hS.2.2 dX6_bestNow_61
    · have hB := hB.2 c_2
      refine lv_aload_n hx hb dX6_bestNow_16 rfl (lv_at hl 0 rfl) ?_
      refine cd_get X hP (C := RX6) (T := TX6) (N := 20) (ci := 6) (k := 19) (j := 14) (v := .int (σ.1 19 14)) inX6 (by decide) rfl rfl (by decide) wf_X6_172 rfl rfl dX6_bestNow_17 ?_
      refine lv_goto (tgt := 61) hx hb dX6_bestNow_20 (by decide) ?_
      rw [hQm]
      exact W.iret hx hb hr (fun t ht hW => ⟨⟨(σ.1 19 14), σ, rfl, ⟨rfl, hB⟩, cd_hp ht hP⟩, hS.F ht⟩) hS.2.2 dX6_bestNow_61
  · have hB := hB.2 c_1
    refine lv_ldc (v := -1000001) hx hb hown (hts _ wc_X6_32) dX6_bestNow_9 ?_
    rw [hQm]
    exact W.iret hx hb hr (fun t ht hW => ⟨⟨(-1000001 : Int32), σ, rfl, ⟨rfl, hB⟩, cd_hp ht hP⟩, hS.F ht⟩) hS.2.2 dX6_bestNow_11
def wp_X6_best (v1 : Int32) (v2 : Int32) (v3 : Int32) (σ : cdS) (Q : Int32 → cdS → Prop) : Prop :=
  
    wp_X6_isHead v1 σ (fun r_1 => 
    ((¬ r_1 = 0 →
    wp_X6_within v2 (0 : Int32) (99 : Int32) σ (fun r_4 => 
    ((r_4 = 0 →
    Q (-1000003 : Int32) σ) ∧
    (¬ (r_4 = 0) →
    wp_X6_within v3 (0 : Int32) (4 : Int32) σ (fun r_7 => 
    ((¬ r_7 = 0 →
    wp_X6_layBest v1 v2 σ (fun σ_11 => 
    wp_X6_bestNow v3 σ_11 (fun r_12 => 
    Q r_12 σ_11))) ∧
    (r_7 = 0 →
    Q (-1000003 : Int32) σ))))))) ∧
    (r_1 = 0 →
    Q (-1000002 : Int32) σ)))
set_option maxHeartbeats 4000000 in
set_option maxRecDepth 100000 in
theorem c_X6_best (l : Launch) (g : cdG) (v1 : Int32) (v2 : Int32) (v3 : Int32) (σ : cdS) (Q : Int32 → cdS → Prop) (hwp : wp_X6_best v1 v2 v3 σ Q) : cdCi l g yX6_best cX6_best 4 (some .int) 7 184 [.ref (cdA g 19), .int v1, .int v2, .int v3] σ Q := by
  intro sz
  refine Met.ofW (cc := cX6_best) (maxL := 4) (ret := (some .int)) (by decide) rfl ?_
  intro p e s m args below meth c s₁ B hml hv
  obtain ⟨rfl, hsz, hP, hK, hdi, hV⟩ := hv
  subst hsz
  have hx := B.exec
  have hb := B.bytes
  have hr := B.returns
  have hlocks := B.notSynchronized
  have hown : s.vm.findClass RX6 = some m.cls := findClass_of_methodNamed B.named
  have hts : ∀ w ∈ cdL, w.before _ s = true := fun w hw => atoms_spec (ws := cdWs yX6_best cX6_best 4 (some .int)) B.pre w (List.mem_cons_of_mem _ hw)
  have X : cdX p s m _ c cX6_best 4 RX6 g := ⟨hx, hb, hml, hown, hts, hK, hdi, hV⟩
  have hS : va_S (cdZ g s.heap.size) s.heap s.heap [] := va_S.rf
  have hl := lv_entry ([.ref (cdA g 19), .int v1, .int v2, .int v3]) (n := 4) (Nat.le_of_ble_eq_true rfl)
  rw [lg_entry_eq]
  generalize (lg_sl ([.ref (cdA g 19), .int v1, .int v2, .int v3]) ++ List.replicate (4 - (lg_sl ([.ref (cdA g 19), .int v1, .int v2, .int v3])).length) Slot.unset).toArray = ls at hl ⊢
  have hl : lv_has ls 4 [(0, .ref (cdA g 19)), (1, .int v1), (2, .int v2), (3, .int v3)] := hl
  obtain ⟨Qm, hQm⟩ : ∃ z, z = MQ below (va_Qi Q (fun σ' t => va_P (cdD g) vwCl (cdW g σ') t.heap) (cdZ g s.heap.size)) ([.ref (cdA g 19), .int v1, .int v2, .int v3] : List Value).toArray s 0 0 (cdZ g s.heap.size) := ⟨_, rfl⟩
  rw [← hQm]
  have hB := hwp
  refine lv_aload_n hx hb dX6_best_0 rfl (lv_at hl 0 rfl) ?_
  refine lv_iload_n hx hb dX6_best_1 rfl (lv_at hl 1 rfl) ?_
  refine cd_ci (cd_runV (As := [.int v1]) (rest := []) (σ := σ) (k := 19) (ci := 6) X wm_X6_65 (by decide) rfl rfl rfl (c_X6_isHead l g v1 σ _ hB _) hP hS rfl rfl hl.1 (Nat.le_of_ble_eq_true rfl) ⟨Nat.le_of_ble_eq_true rfl, Nat.le_of_ble_eq_true rfl⟩ ⟨Nat.zero_le _, Nat.zero_le _⟩ dX6_best_2) hS (fun r_1 σ_2 H locs hB hP hS => ?_)
  obtain ⟨eσ_2, hB⟩ := hB
  rw [eσ_2] at hP
  refine lv_if_ne (tgt := 11) hx hb dX6_best_5 (by decide) (fun c_3 => ?_) (fun c_3 => ?_)
  · have hB := hB.1 c_3
    refine lv_iload_n hx hb dX6_best_11 rfl (lv_at hl 2 rfl) ?_
    refine lv_iconst (v := 0) hx hb dX6_best_12 (by decide) ?_
    refine lv_bipush (v := 99) hx hb dX6_best_13 (by decide) ?_
    refine cd_ci (cd_runS (As := [.int v2, .int (0 : Int32), .int (99 : Int32)]) (rest := []) (σ := σ) X wm_X6_22 (c_X6_within l g v2 (0 : Int32) (99 : Int32) σ _ hB _) hP hS rfl rfl hl.1 (Nat.le_of_ble_eq_true rfl) ⟨Nat.le_of_ble_eq_true rfl, Nat.le_of_ble_eq_true rfl⟩ ⟨Nat.zero_le _, Nat.zero_le _⟩ dX6_best_15) hS (fun r_4 σ_5 H locs hB hP hS => ?_)
    obtain ⟨eσ_5, hB⟩ := hB
    rw [eσ_5] at hP
    refine lv_if_eq (tgt := 30) hx hb dX6_best_18 (by decide) (fun c_6 => ?_) (fun c_6 => ?_)
    · have hB := hB.1 c_6
      refine lv_ldc (v := -1000003) hx hb hown (hts _ wc_X6_26) dX6_best_30 ?_
      rw [hQm]
      exact W.iret hx hb hr (fun t ht hW => ⟨⟨(-1000003 : Int32), σ, rfl, hB, cd_hp ht hP⟩, hS.F ht⟩) hS.2.2 dX6_best_32
    · have hB := hB.2 c_6
      refine lv_iload_n hx hb dX6_best_21 rfl (lv_at hl 3 rfl) ?_
      refine lv_iconst (v := 0) hx hb dX6_best_22 (by decide) ?_
      refine lv_iconst (v := 4) hx hb dX6_best_23 (by decide) ?_
      refine cd_ci (cd_runS (As := [.int v3, .int (0 : Int32), .int (4 : Int32)]) (rest := []) (σ := σ) X wm_X6_22 (c_X6_within l g v3 (0 : Int32) (4 : Int32) σ _ hB _) hP hS rfl rfl hl.1 (Nat.le_of_ble_eq_true rfl) ⟨Nat.le_of_ble_eq_true rfl, Nat.le_of_ble_eq_true rfl⟩ ⟨Nat.zero_le _, Nat.zero_le _⟩ dX6_best_24) hS (fun r_7 σ_8 H locs hB hP hS => ?_)
      obtain ⟨eσ_8, hB⟩ := hB
      rw [eσ_8] at hP
      refine lv_if_ne (tgt := 33) hx hb dX6_best_27 (by decide) (fun c_9 => ?_) (fun c_9 => ?_)
      · have hB := hB.1 c_9
        refine lv_aload_n hx hb dX6_best_33 rfl (lv_at hl 0 rfl) ?_
        refine lv_iload_n hx hb dX6_best_34 rfl (lv_at hl 1 rfl) ?_
        refine lv_iload_n hx hb dX6_best_35 rfl (lv_at hl 2 rfl) ?_
        refine cd_cv (cd_runV (As := [.int v1, .int v2]) (rest := []) (σ := σ) (k := 19) (ci := 6) X wm_X6_191 (by decide) rfl rfl rfl (c_X6_layBest l g v1 v2 σ _ hB _) hP hS rfl rfl hl.1 (Nat.le_of_ble_eq_true rfl) ⟨Nat.le_of_ble_eq_true rfl, Nat.le_of_ble_eq_true rfl⟩ ⟨Nat.zero_le _, Nat.zero_le _⟩ dX6_best_36) hS (fun σ_11 H locs hB hP hS => ?_)
        refine lv_aload_n hx hb dX6_best_39 rfl (lv_at hl 0 rfl) ?_
        refine lv_iload_n hx hb dX6_best_40 rfl (lv_at hl 3 rfl) ?_
        refine cd_ci (cd_runV (As := [.int v3]) (rest := []) (σ := σ_11) (k := 19) (ci := 6) X wm_X6_194 (by decide) rfl rfl rfl (c_X6_bestNow l g v3 σ_11 _ hB _) hP hS rfl rfl hl.1 (Nat.le_of_ble_eq_true rfl) ⟨Nat.le_of_ble_eq_true rfl, Nat.le_of_ble_eq_true rfl⟩ ⟨Nat.zero_le _, Nat.zero_le _⟩ dX6_best_41) hS (fun r_12 σ_13 H locs hB hP hS => ?_)
        obtain ⟨eσ_13, hB⟩ := hB
        rw [eσ_13] at hP
        rw [hQm]
        exact W.iret hx hb hr (fun t ht hW => ⟨⟨r_12, σ_11, rfl, hB, cd_hp ht hP⟩, hS.F ht⟩) hS.2.2 dX6_best_44
      · have hB := hB.2 c_9
        refine lv_ldc (v := -1000003) hx hb hown (hts _ wc_X6_26) dX6_best_30 ?_
        rw [hQm]
        exact W.iret hx hb hr (fun t ht hW => ⟨⟨(-1000003 : Int32), σ, rfl, hB, cd_hp ht hP⟩, hS.F ht⟩) hS.2.2 dX6_best_32
  · have hB := hB.2 c_3
    refine lv_ldc (v := -1000002) hx hb hown (hts _ wc_X6_68) dX6_best_8 ?_
    rw [hQm]
    exact W.iret hx hb hr (fun t ht hW => ⟨⟨(-1000002 : Int32), σ, rfl, hB, cd_hp ht hP⟩, hS.F ht⟩) hS.2.2 dX6_best_10
def wp_X6_blank  (σ : cdS) (Q : Int32 → cdS → Prop) : Prop :=
  
    ∀ x1_1 : Int32, x1_1 = (σ.1 19 0) →
    ∀ σ_2 : cdS, σ_2 = cdU σ 19 0 (0 : Int32) →
    Q x1_1 σ_2
set_option maxHeartbeats 4000000 in
set_option maxRecDepth 100000 in
theorem c_X6_blank (l : Launch) (g : cdG)  (σ : cdS) (Q : Int32 → cdS → Prop) (hwp : wp_X6_blank  σ Q) : cdCi l g yX6_blank cX6_blank 2 (some .int) 0 0 [.ref (cdA g 19)] σ Q := by
  intro sz
  refine Met.ofW (cc := cX6_blank) (maxL := 2) (ret := (some .int)) (by decide) rfl ?_
  intro p e s m args below meth c s₁ B hml hv
  obtain ⟨rfl, hsz, hP, hK, hdi, hV⟩ := hv
  subst hsz
  have hx := B.exec
  have hb := B.bytes
  have hr := B.returns
  have hlocks := B.notSynchronized
  have hown : s.vm.findClass RX6 = some m.cls := findClass_of_methodNamed B.named
  have hts : ∀ w ∈ cdL, w.before _ s = true := fun w hw => atoms_spec (ws := cdWs yX6_blank cX6_blank 2 (some .int)) B.pre w (List.mem_cons_of_mem _ hw)
  have X : cdX p s m _ c cX6_blank 2 RX6 g := ⟨hx, hb, hml, hown, hts, hK, hdi, hV⟩
  have hS : va_S (cdZ g s.heap.size) s.heap s.heap [] := va_S.rf
  have hl := lv_entry ([.ref (cdA g 19)]) (n := 2) (Nat.le_of_ble_eq_true rfl)
  rw [lg_entry_eq]
  generalize (lg_sl ([.ref (cdA g 19)]) ++ List.replicate (2 - (lg_sl ([.ref (cdA g 19)])).length) Slot.unset).toArray = ls at hl ⊢
  have hl : lv_has ls 2 [(0, .ref (cdA g 19))] := hl
  obtain ⟨Qm, hQm⟩ : ∃ z, z = MQ below (va_Qi Q (fun σ' t => va_P (cdD g) vwCl (cdW g σ') t.heap) (cdZ g s.heap.size)) ([.ref (cdA g 19)] : List Value).toArray s 0 0 (cdZ g s.heap.size) := ⟨_, rfl⟩
  rw [← hQm]
  have hB := hwp
  refine lv_aload_n hx hb dX6_blank_0 rfl (lv_at hl 0 rfl) ?_
  refine cd_get X hP (C := RX6) (T := TX6) (N := 20) (ci := 6) (k := 19) (j := 0) (v := .int (σ.1 19 0)) inX6 (by decide) rfl rfl (by decide) wf_X6_27 rfl rfl dX6_blank_1 ?_
  refine lv_topi (fun x1_1 ex1_1 => ?_)
  have hB := hB x1_1 ex1_1
  refine lv_istore_n (lv' := [(1, .int x1_1), (0, .ref (cdA g 19))]) hx hb dX6_blank_4 rfl hl (by decide) rfl (fun ls hl => ?_)
  refine lv_aload_n hx hb dX6_blank_5 rfl (lv_at hl 1 rfl) ?_
  refine lv_iconst (v := 0) hx hb dX6_blank_6 (by decide) ?_
  refine cd_put X hP hS (C := RX6) (T := TX6) (N := 20) (ci := 6) (k := 19) (j := 0) (v := .int (0 : Int32)) (σ' := cdU σ 19 0 (0 : Int32)) inX6 tyX6 tyX6_ok nmX6 (by decide) rfl rfl (by decide) wf_X6_27 rfl rfl (tyX6_ok 0 (by decide)) rfl rfl (Nat.le_of_ble_eq_true rfl) (cdW_U (by decide) rfl) dX6_blank_7 (fun H locs hP hS => ?_)
  obtain ⟨σ_2, eσ_2⟩ : ∃ z : cdS, z = cdU σ 19 0 (0 : Int32) := ⟨_, rfl⟩
  rw [← eσ_2] at hP
  have hB := hB σ_2 eσ_2
  refine lv_iload_n hx hb dX6_blank_10 rfl (lv_at hl 0 rfl) ?_
  rw [hQm]
  exact W.iret hx hb hr (fun t ht hW => ⟨⟨x1_1, σ_2, rfl, hB, cd_hp ht hP⟩, hS.F ht⟩) hS.2.2 dX6_blank_11
def wp_X6_isLaid (v0 : Int32) (v1 : Int32) (v2 : Int32) (σ : cdS) (Q : Int32 → Prop) : Prop :=
  
    wp_X6_within v0 (0 : Int32) (1 : Int32) σ (fun r_1 => 
    ((r_1 = 0 →
    Q (0 : Int32)) ∧
    (¬ (r_1 = 0) →
    wp_X6_within v1 (2 : Int32) (9 : Int32) σ (fun r_4 => 
    ((r_4 = 0 →
    Q (0 : Int32)) ∧
    (¬ (r_4 = 0) →
    wp_X6_within v2 (2 : Int32) (9 : Int32) σ (fun r_7 => 
    ((r_7 = 0 →
    Q (0 : Int32)) ∧
    (¬ (r_7 = 0) →
    Q (1 : Int32))))))))))
set_option maxHeartbeats 4000000 in
set_option maxRecDepth 100000 in
theorem c_X6_isLaid (l : Launch) (g : cdG) (v0 : Int32) (v1 : Int32) (v2 : Int32) (σ : cdS) (Q : Int32 → Prop) (hwp : wp_X6_isLaid v0 v1 v2 σ Q) : cdCi l g yX6_isLaid cX6_isLaid 3 (some .boolean) 1 22 [.int v0, .int v1, .int v2] σ (fun r σ' => σ' = σ ∧ Q r) := by
  intro sz
  refine Met.ofW (cc := cX6_isLaid) (maxL := 3) (ret := (some .boolean)) (by decide) rfl ?_
  intro p e s m args below meth c s₁ B hml hv
  obtain ⟨rfl, hsz, hP, hK, hdi, hV⟩ := hv
  subst hsz
  have hx := B.exec
  have hb := B.bytes
  have hr := B.returns
  have hlocks := B.notSynchronized
  have hown : s.vm.findClass RX6 = some m.cls := findClass_of_methodNamed B.named
  have hts : ∀ w ∈ cdL, w.before _ s = true := fun w hw => atoms_spec (ws := cdWs yX6_isLaid cX6_isLaid 3 (some .boolean)) B.pre w (List.mem_cons_of_mem _ hw)
  have X : cdX p s m _ c cX6_isLaid 3 RX6 g := ⟨hx, hb, hml, hown, hts, hK, hdi, hV⟩
  have hS : va_S (cdZ g s.heap.size) s.heap s.heap [] := va_S.rf
  have hl := lv_entry ([.int v0, .int v1, .int v2]) (n := 3) (Nat.le_of_ble_eq_true rfl)
  rw [lg_entry_eq]
  generalize (lg_sl ([.int v0, .int v1, .int v2]) ++ List.replicate (3 - (lg_sl ([.int v0, .int v1, .int v2])).length) Slot.unset).toArray = ls at hl ⊢
  have hl : lv_has ls 3 [(0, .int v0), (1, .int v1), (2, .int v2)] := hl
  obtain ⟨Qm, hQm⟩ : ∃ z, z = MQ below (va_Qi (fun r σ' => σ' = σ ∧ Q r) (fun σ' t => va_P (cdD g) vwCl (cdW g σ') t.heap) (cdZ g s.heap.size)) ([.int v0, .int v1, .int v2] : List Value).toArray s 0 0 (cdZ g s.heap.size) := ⟨_, rfl⟩
  rw [← hQm]
  have hB := hwp
  refine lv_iload_n hx hb dX6_isLaid_0 rfl (lv_at hl 0 rfl) ?_
  refine lv_iconst (v := 0) hx hb dX6_isLaid_1 (by decide) ?_
  refine lv_iconst (v := 1) hx hb dX6_isLaid_2 (by decide) ?_
  refine cd_ci (cd_runS (As := [.int v0, .int (0 : Int32), .int (1 : Int32)]) (rest := []) (σ := σ) X wm_X6_22 (c_X6_within l g v0 (0 : Int32) (1 : Int32) σ _ hB _) hP hS rfl rfl hl.1 (Nat.le_of_ble_eq_true rfl) ⟨Nat.le_of_ble_eq_true rfl, Nat.le_of_ble_eq_true rfl⟩ ⟨Nat.zero_le _, Nat.zero_le _⟩ dX6_isLaid_3) hS (fun r_1 σ_2 H locs hB hP hS => ?_)
  obtain ⟨eσ_2, hB⟩ := hB
  rw [eσ_2] at hP
  refine lv_if_eq (tgt := 33) hx hb dX6_isLaid_6 (by decide) (fun c_3 => ?_) (fun c_3 => ?_)
  · have hB := hB.1 c_3
    refine lv_iconst (v := 0) hx hb dX6_isLaid_33 (by decide) ?_
    rw [hQm]
    exact W.zret hx hb hr rfl (fun t ht hW => ⟨⟨(0 : Int32), σ, rfl, ⟨rfl, hB⟩, cd_hp ht hP⟩, hS.F ht⟩) hS.2.2 dX6_isLaid_34
  · have hB := hB.2 c_3
    refine lv_iload_n hx hb dX6_isLaid_9 rfl (lv_at hl 1 rfl) ?_
    refine lv_iconst (v := 2) hx hb dX6_isLaid_10 (by decide) ?_
    refine lv_bipush (v := 9) hx hb dX6_isLaid_11 (by decide) ?_
    refine cd_ci (cd_runS (As := [.int v1, .int (2 : Int32), .int (9 : Int32)]) (rest := []) (σ := σ) X wm_X6_22 (c_X6_within l g v1 (2 : Int32) (9 : Int32) σ _ hB _) hP hS rfl rfl hl.1 (Nat.le_of_ble_eq_true rfl) ⟨Nat.le_of_ble_eq_true rfl, Nat.le_of_ble_eq_true rfl⟩ ⟨Nat.zero_le _, Nat.zero_le _⟩ dX6_isLaid_13) hS (fun r_4 σ_5 H locs hB hP hS => ?_)
    obtain ⟨eσ_5, hB⟩ := hB
    rw [eσ_5] at hP
    refine lv_if_eq (tgt := 33) hx hb dX6_isLaid_16 (by decide) (fun c_6 => ?_) (fun c_6 => ?_)
    · have hB := hB.1 c_6
      refine lv_iconst (v := 0) hx hb dX6_isLaid_33 (by decide) ?_
      rw [hQm]
      exact W.zret hx hb hr rfl (fun t ht hW => ⟨⟨(0 : Int32), σ, rfl, ⟨rfl, hB⟩, cd_hp ht hP⟩, hS.F ht⟩) hS.2.2 dX6_isLaid_34
    · have hB := hB.2 c_6
      refine lv_iload_n hx hb dX6_isLaid_19 rfl (lv_at hl 2 rfl) ?_
      refine lv_iconst (v := 2) hx hb dX6_isLaid_20 (by decide) ?_
      refine lv_bipush (v := 9) hx hb dX6_isLaid_21 (by decide) ?_
      refine cd_ci (cd_runS (As := [.int v2, .int (2 : Int32), .int (9 : Int32)]) (rest := []) (σ := σ) X wm_X6_22 (c_X6_within l g v2 (2 : Int32) (9 : Int32) σ _ hB _) hP hS rfl rfl hl.1 (Nat.le_of_ble_eq_true rfl) ⟨Nat.le_of_ble_eq_true rfl, Nat.le_of_ble_eq_true rfl⟩ ⟨Nat.zero_le _, Nat.zero_le _⟩ dX6_isLaid_23) hS (fun r_7 σ_8 H locs hB hP hS => ?_)
      obtain ⟨eσ_8, hB⟩ := hB
      rw [eσ_8] at hP
      refine lv_if_eq (tgt := 33) hx hb dX6_isLaid_26 (by decide) (fun c_9 => ?_) (fun c_9 => ?_)
      · have hB := hB.1 c_9
        refine lv_iconst (v := 0) hx hb dX6_isLaid_33 (by decide) ?_
        rw [hQm]
        exact W.zret hx hb hr rfl (fun t ht hW => ⟨⟨(0 : Int32), σ, rfl, ⟨rfl, hB⟩, cd_hp ht hP⟩, hS.F ht⟩) hS.2.2 dX6_isLaid_34
      · have hB := hB.2 c_9
        refine lv_iconst (v := 1) hx hb dX6_isLaid_29 (by decide) ?_
        refine lv_goto (tgt := 34) hx hb dX6_isLaid_30 (by decide) ?_
        rw [hQm]
        exact W.zret hx hb hr rfl (fun t ht hW => ⟨⟨(1 : Int32), σ, rfl, ⟨rfl, hB⟩, cd_hp ht hP⟩, hS.F ht⟩) hS.2.2 dX6_isLaid_34
def wp_X6_least  (σ : cdS) (Q : Int32 → Prop) : Prop :=
  ∀ (P9 : Int32 → Int32 → Prop) (P37 : Int32 → Int32 → Prop),
    (∀ (x1 : Int32) (x2 : Int32), (
    (((σ.1 19 11) ≤ x2 →
    Q x1) ∧
    (¬ ((σ.1 19 11) ≤ x2) →
    vp_in x2 361 ∧
    ((x1 ≤ (σ.1 23 (x2).toNatClampNeg) →
    P37 x2 x1) ∧
    (¬ (x1 ≤ (σ.1 23 (x2).toNatClampNeg)) →
    vp_in x2 361 ∧
    P37 x2 (σ.1 23 (x2).toNatClampNeg)))))) → P9 x1 x2) →
    (∀ (x2 : Int32) (t0 : Int32), (
    ∀ x2_7 : Int32, x2_7 = x2 + 1 →
    P9 t0 x2_7) → P37 x2 t0) →
    
    vp_in (0 : Int32) 361 ∧
    ∀ x1_2 : Int32, x1_2 = (σ.1 23 ((0 : Int32)).toNatClampNeg) →
    P9 x1_2 (1 : Int32)
set_option maxHeartbeats 4000000 in
set_option maxRecDepth 100000 in
theorem c_X6_least (l : Launch) (g : cdG)  (σ : cdS) (Q : Int32 → Prop) (hwp : wp_X6_least  σ Q) : cdCi l g yX6_least cX6_least 3 (some .int) 0 0 [.ref (cdA g 19)] σ (fun r σ' => σ' = σ ∧ Q r) := by
  intro sz
  refine Met.ofW (cc := cX6_least) (maxL := 3) (ret := (some .int)) (by decide) rfl ?_
  intro p e s m args below meth c s₁ B hml hv
  obtain ⟨rfl, hsz, hP, hK, hdi, hV⟩ := hv
  subst hsz
  have hx := B.exec
  have hb := B.bytes
  have hr := B.returns
  have hlocks := B.notSynchronized
  have hown : s.vm.findClass RX6 = some m.cls := findClass_of_methodNamed B.named
  have hts : ∀ w ∈ cdL, w.before _ s = true := fun w hw => atoms_spec (ws := cdWs yX6_least cX6_least 3 (some .int)) B.pre w (List.mem_cons_of_mem _ hw)
  have X : cdX p s m _ c cX6_least 3 RX6 g := ⟨hx, hb, hml, hown, hts, hK, hdi, hV⟩
  have hS : va_S (cdZ g s.heap.size) s.heap s.heap [] := va_S.rf
  have hl := lv_entry ([.ref (cdA g 19)]) (n := 3) (Nat.le_of_ble_eq_true rfl)
  rw [lg_entry_eq]
  generalize (lg_sl ([.ref (cdA g 19)]) ++ List.replicate (3 - (lg_sl ([.ref (cdA g 19)])).length) Slot.unset).toArray = ls at hl ⊢
  have hl : lv_has ls 3 [(0, .ref (cdA g 19))] := hl
  obtain ⟨Qm, hQm⟩ : ∃ z, z = MQ below (va_Qi (fun r σ' => σ' = σ ∧ Q r) (fun σ' t => va_P (cdD g) vwCl (cdW g σ') t.heap) (cdZ g s.heap.size)) ([.ref (cdA g 19)] : List Value).toArray s 0 0 (cdZ g s.heap.size) := ⟨_, rfl⟩
  rw [← hQm]
  have hB := hwp (fun (x1 : Int32) (x2 : Int32) => cdCut p l e (headSpec (cdWs yX6_least cX6_least 3 (some .int)) (cdRm 0 0)).room s m ([.ref (cdA g 19)] : List Value).toArray below meth c Qm g 3 9 [(0, .ref (cdA g 19)), (1, .int x1), (2, .int x2)] [] σ)
    (fun (x2 : Int32) (t0 : Int32) => cdCut p l e (headSpec (cdWs yX6_least cX6_least 3 (some .int)) (cdRm 0 0)).room s m ([.ref (cdA g 19)] : List Value).toArray below meth c Qm g 3 37 [(0, .ref (cdA g 19)), (2, .int x2)] [.int t0] σ)
    (by
    intro x1 x2 hB H locs ls hP hS hl
    refine lv_iload_n hx hb dX6_least_9 rfl (lv_at hl 2 rfl) ?_
    refine lv_aload_n hx hb dX6_least_10 rfl (lv_at hl 0 rfl) ?_
    refine cd_get X hP (C := RX6) (T := TX6) (N := 20) (ci := 6) (k := 19) (j := 11) (v := .int (σ.1 19 11)) inX6 (by decide) rfl rfl (by decide) wf_X6_117 rfl rfl dX6_least_11 ?_
    refine lv_icmp_ge (tgt := 44) hx hb dX6_least_14 (by decide) (fun c_3 => ?_) (fun c_3 => ?_)
    · have hB := hB.1 c_3
      refine lv_iload_n hx hb dX6_least_44 rfl (lv_at hl 1 rfl) ?_
      rw [hQm]
      exact W.iret hx hb hr (fun t ht hW => ⟨⟨x1, σ, rfl, ⟨rfl, hB⟩, cd_hp ht hP⟩, hS.F ht⟩) hS.2.2 dX6_least_45
    · have hB := hB.2 c_3
      refine lv_aload_n hx hb dX6_least_17 rfl (lv_at hl 0 rfl) ?_
      refine cd_get X hP (C := RX6) (T := TX6) (N := 20) (ci := 6) (k := 19) (j := 13) (v := .ref (cdA g 23)) inX6 (by decide) rfl rfl (by decide) wf_X6_19 rfl rfl dX6_least_18 ?_
      refine lv_iload_n hx hb dX6_least_21 rfl (lv_at hl 2 rfl) ?_
      obtain ⟨i_4, hB⟩ := hB
      refine cd_ald X hP (k := 23) (N := 361) (by decide) rfl i_4 dX6_least_22 ?_
      refine lv_iload_n hx hb dX6_least_23 rfl (lv_at hl 1 rfl) ?_
      refine lv_icmp_ge (tgt := 36) hx hb dX6_least_24 (by decide) (fun c_5 => ?_) (fun c_5 => ?_)
      · have hB := hB.1 c_5
        refine lv_iload_n hx hb dX6_least_36 rfl (lv_at hl 1 rfl) ?_
        exact hB _ _ _ hP hS (lv_sub hl [0, 2] rfl)
      · have hB := hB.2 c_5
        refine lv_aload_n hx hb dX6_least_27 rfl (lv_at hl 0 rfl) ?_
        refine cd_get X hP (C := RX6) (T := TX6) (N := 20) (ci := 6) (k := 19) (j := 13) (v := .ref (cdA g 23)) inX6 (by decide) rfl rfl (by decide) wf_X6_19 rfl rfl dX6_least_28 ?_
        refine lv_iload_n hx hb dX6_least_31 rfl (lv_at hl 2 rfl) ?_
        obtain ⟨i_6, hB⟩ := hB
        refine cd_ald X hP (k := 23) (N := 361) (by decide) rfl i_6 dX6_least_32 ?_
        refine lv_goto (tgt := 37) hx hb dX6_least_33 (by decide) ?_
        exact hB _ _ _ hP hS (lv_sub hl [0, 2] rfl))
    (by
    intro x2 t0 hB H locs ls hP hS hl
    refine lv_istore_n (lv' := [(1, .int t0), (0, .ref (cdA g 19)), (2, .int x2)]) hx hb dX6_least_37 rfl hl (by decide) rfl (fun ls hl => ?_)
    obtain ⟨x2_7, ex2_7⟩ : ∃ z : Int32, z = x2 + 1 := ⟨_, rfl⟩
    have hB := hB x2_7 ex2_7
    refine lv_iinc (v := x2_7) (lv' := [(2, .int x2_7), (1, .int t0), (0, .ref (cdA g 19))]) hx hb dX6_least_38 hl (k := 2) rfl (by rw [ex2_7]; rfl) (by decide) rfl (fun ls hl => ?_)
    refine lv_goto (tgt := 9) hx hb dX6_least_41 (by decide) ?_
    exact hB _ _ _ hP hS (lv_sub hl [2, 1, 0] rfl))
  refine lv_aload_n hx hb dX6_least_0 rfl (lv_at hl 0 rfl) ?_
  refine cd_get X hP (C := RX6) (T := TX6) (N := 20) (ci := 6) (k := 19) (j := 13) (v := .ref (cdA g 23)) inX6 (by decide) rfl rfl (by decide) wf_X6_19 rfl rfl dX6_least_1 ?_
  refine lv_iconst (v := 0) hx hb dX6_least_4 (by decide) ?_
  obtain ⟨i_1, hB⟩ := hB
  refine cd_ald X hP (k := 23) (N := 361) (by decide) rfl i_1 dX6_least_5 ?_
  refine lv_topi (fun x1_2 ex1_2 => ?_)
  have hB := hB x1_2 ex1_2
  refine lv_istore_n (lv' := [(1, .int x1_2), (0, .ref (cdA g 19))]) hx hb dX6_least_6 rfl hl (by decide) rfl (fun ls hl => ?_)
  refine lv_iconst (v := 1) hx hb dX6_least_7 (by decide) ?_
  refine lv_istore_n (lv' := [(2, .int (1 : Int32)), (1, .int x1_2), (0, .ref (cdA g 19))]) hx hb dX6_least_8 rfl hl (by decide) rfl (fun ls hl => ?_)
  exact hB _ _ _ hP hS (lv_sub hl [2, 1, 0] rfl)
def wp_X6_greatest  (σ : cdS) (Q : Int32 → Prop) : Prop :=
  ∀ (P9 : Int32 → Int32 → Prop) (P37 : Int32 → Int32 → Prop),
    (∀ (x1 : Int32) (x2 : Int32), (
    (((σ.1 19 11) ≤ x2 →
    Q x1) ∧
    (¬ ((σ.1 19 11) ≤ x2) →
    vp_in x2 361 ∧
    (((σ.1 23 (x2).toNatClampNeg) ≤ x1 →
    P37 x2 x1) ∧
    (¬ ((σ.1 23 (x2).toNatClampNeg) ≤ x1) →
    vp_in x2 361 ∧
    P37 x2 (σ.1 23 (x2).toNatClampNeg)))))) → P9 x1 x2) →
    (∀ (x2 : Int32) (t0 : Int32), (
    ∀ x2_7 : Int32, x2_7 = x2 + 1 →
    P9 t0 x2_7) → P37 x2 t0) →
    
    vp_in (0 : Int32) 361 ∧
    ∀ x1_2 : Int32, x1_2 = (σ.1 23 ((0 : Int32)).toNatClampNeg) →
    P9 x1_2 (1 : Int32)
set_option maxHeartbeats 4000000 in
set_option maxRecDepth 100000 in
theorem c_X6_greatest (l : Launch) (g : cdG)  (σ : cdS) (Q : Int32 → Prop) (hwp : wp_X6_greatest  σ Q) : cdCi l g yX6_greatest cX6_greatest 3 (some .int) 0 0 [.ref (cdA g 19)] σ (fun r σ' => σ' = σ ∧ Q r) := by
  intro sz
  refine Met.ofW (cc := cX6_greatest) (maxL := 3) (ret := (some .int)) (by decide) rfl ?_
  intro p e s m args below meth c s₁ B hml hv
  obtain ⟨rfl, hsz, hP, hK, hdi, hV⟩ := hv
  subst hsz
  have hx := B.exec
  have hb := B.bytes
  have hr := B.returns
  have hlocks := B.notSynchronized
  have hown : s.vm.findClass RX6 = some m.cls := findClass_of_methodNamed B.named
  have hts : ∀ w ∈ cdL, w.before _ s = true := fun w hw => atoms_spec (ws := cdWs yX6_greatest cX6_greatest 3 (some .int)) B.pre w (List.mem_cons_of_mem _ hw)
  have X : cdX p s m _ c cX6_greatest 3 RX6 g := ⟨hx, hb, hml, hown, hts, hK, hdi, hV⟩
  have hS : va_S (cdZ g s.heap.size) s.heap s.heap [] := va_S.rf
  have hl := lv_entry ([.ref (cdA g 19)]) (n := 3) (Nat.le_of_ble_eq_true rfl)
  rw [lg_entry_eq]
  generalize (lg_sl ([.ref (cdA g 19)]) ++ List.replicate (3 - (lg_sl ([.ref (cdA g 19)])).length) Slot.unset).toArray = ls at hl ⊢
  have hl : lv_has ls 3 [(0, .ref (cdA g 19))] := hl
  obtain ⟨Qm, hQm⟩ : ∃ z, z = MQ below (va_Qi (fun r σ' => σ' = σ ∧ Q r) (fun σ' t => va_P (cdD g) vwCl (cdW g σ') t.heap) (cdZ g s.heap.size)) ([.ref (cdA g 19)] : List Value).toArray s 0 0 (cdZ g s.heap.size) := ⟨_, rfl⟩
  rw [← hQm]
  have hB := hwp (fun (x1 : Int32) (x2 : Int32) => cdCut p l e (headSpec (cdWs yX6_greatest cX6_greatest 3 (some .int)) (cdRm 0 0)).room s m ([.ref (cdA g 19)] : List Value).toArray below meth c Qm g 3 9 [(0, .ref (cdA g 19)), (1, .int x1), (2, .int x2)] [] σ)
    (fun (x2 : Int32) (t0 : Int32) => cdCut p l e (headSpec (cdWs yX6_greatest cX6_greatest 3 (some .int)) (cdRm 0 0)).room s m ([.ref (cdA g 19)] : List Value).toArray below meth c Qm g 3 37 [(0, .ref (cdA g 19)), (2, .int x2)] [.int t0] σ)
    (by
    intro x1 x2 hB H locs ls hP hS hl
    refine lv_iload_n hx hb dX6_greatest_9 rfl (lv_at hl 2 rfl) ?_
    refine lv_aload_n hx hb dX6_greatest_10 rfl (lv_at hl 0 rfl) ?_
    refine cd_get X hP (C := RX6) (T := TX6) (N := 20) (ci := 6) (k := 19) (j := 11) (v := .int (σ.1 19 11)) inX6 (by decide) rfl rfl (by decide) wf_X6_117 rfl rfl dX6_greatest_11 ?_
    refine lv_icmp_ge (tgt := 44) hx hb dX6_greatest_14 (by decide) (fun c_3 => ?_) (fun c_3 => ?_)
    · have hB := hB.1 c_3
      refine lv_iload_n hx hb dX6_greatest_44 rfl (lv_at hl 1 rfl) ?_
      rw [hQm]
      exact W.iret hx hb hr (fun t ht hW => ⟨⟨x1, σ, rfl, ⟨rfl, hB⟩, cd_hp ht hP⟩, hS.F ht⟩) hS.2.2 dX6_greatest_45
    · have hB := hB.2 c_3
      refine lv_aload_n hx hb dX6_greatest_17 rfl (lv_at hl 0 rfl) ?_
      refine cd_get X hP (C := RX6) (T := TX6) (N := 20) (ci := 6) (k := 19) (j := 13) (v := .ref (cdA g 23)) inX6 (by decide) rfl rfl (by decide) wf_X6_19 rfl rfl dX6_greatest_18 ?_
      refine lv_iload_n hx hb dX6_greatest_21 rfl (lv_at hl 2 rfl) ?_
      obtain ⟨i_4, hB⟩ := hB
      refine cd_ald X hP (k := 23) (N := 361) (by decide) rfl i_4 dX6_greatest_22 ?_
      refine lv_iload_n hx hb dX6_greatest_23 rfl (lv_at hl 1 rfl) ?_
      refine lv_icmp_le (tgt := 36) hx hb dX6_greatest_24 (by decide) (fun c_5 => ?_) (fun c_5 => ?_)
      · have hB := hB.1 c_5
        refine lv_iload_n hx hb dX6_greatest_36 rfl (lv_at hl 1 rfl) ?_
        exact hB _ _ _ hP hS (lv_sub hl [0, 2] rfl)
      · have hB := hB.2 c_5
        refine lv_aload_n hx hb dX6_greatest_27 rfl (lv_at hl 0 rfl) ?_
        refine cd_get X hP (C := RX6) (T := TX6) (N := 20) (ci := 6) (k := 19) (j := 13) (v := .ref (cdA g 23)) inX6 (by decide) rfl rfl (by decide) wf_X6_19 rfl rfl dX6_greatest_28 ?_
        refine lv_iload_n hx hb dX6_greatest_31 rfl (lv_at hl 2 rfl) ?_
        obtain ⟨i_6, hB⟩ := hB
        refine cd_ald X hP (k := 23) (N := 361) (by decide) rfl i_6 dX6_greatest_32 ?_
        refine lv_goto (tgt := 37) hx hb dX6_greatest_33 (by decide) ?_
        exact hB _ _ _ hP hS (lv_sub hl [0, 2] rfl))
    (by
    intro x2 t0 hB H locs ls hP hS hl
    refine lv_istore_n (lv' := [(1, .int t0), (0, .ref (cdA g 19)), (2, .int x2)]) hx hb dX6_greatest_37 rfl hl (by decide) rfl (fun ls hl => ?_)
    obtain ⟨x2_7, ex2_7⟩ : ∃ z : Int32, z = x2 + 1 := ⟨_, rfl⟩
    have hB := hB x2_7 ex2_7
    refine lv_iinc (v := x2_7) (lv' := [(2, .int x2_7), (1, .int t0), (0, .ref (cdA g 19))]) hx hb dX6_greatest_38 hl (k := 2) rfl (by rw [ex2_7]; rfl) (by decide) rfl (fun ls hl => ?_)
    refine lv_goto (tgt := 9) hx hb dX6_greatest_41 (by decide) ?_
    exact hB _ _ _ hP hS (lv_sub hl [2, 1, 0] rfl))
  refine lv_aload_n hx hb dX6_greatest_0 rfl (lv_at hl 0 rfl) ?_
  refine cd_get X hP (C := RX6) (T := TX6) (N := 20) (ci := 6) (k := 19) (j := 13) (v := .ref (cdA g 23)) inX6 (by decide) rfl rfl (by decide) wf_X6_19 rfl rfl dX6_greatest_1 ?_
  refine lv_iconst (v := 0) hx hb dX6_greatest_4 (by decide) ?_
  obtain ⟨i_1, hB⟩ := hB
  refine cd_ald X hP (k := 23) (N := 361) (by decide) rfl i_1 dX6_greatest_5 ?_
  refine lv_topi (fun x1_2 ex1_2 => ?_)
  have hB := hB x1_2 ex1_2
  refine lv_istore_n (lv' := [(1, .int x1_2), (0, .ref (cdA g 19))]) hx hb dX6_greatest_6 rfl hl (by decide) rfl (fun ls hl => ?_)
  refine lv_iconst (v := 1) hx hb dX6_greatest_7 (by decide) ?_
  refine lv_istore_n (lv' := [(2, .int (1 : Int32)), (1, .int x1_2), (0, .ref (cdA g 19))]) hx hb dX6_greatest_8 rfl hl (by decide) rfl (fun ls hl => ?_)
  exact hB _ _ _ hP hS (lv_sub hl [2, 1, 0] rfl)
def wp_X6_dry  (σ : cdS) (Q : Int64 → Prop) : Prop :=
  ∀ (P17 : Int64 → Int32 → Int32 → Prop) (P24 : Int64 → Int32 → Int32 → Int32 → Prop) (P58 : Int64 → Int32 → Int32 → Int32 → Prop) (P64 : Int64 → Int32 → Int32 → Prop),
    (∀ (x1 : Int64) (x3 : Int32) (x4 : Int32), (
    ((x3 ≤ 0 →
    Q x1) ∧
    (¬ (x3 ≤ 0) →
    P24 x1 x3 x4 (0 : Int32)))) → P17 x1 x3 x4) →
    (∀ (x1 : Int64) (x3 : Int32) (x4 : Int32) (x5 : Int32), (
    (((σ.1 19 11) ≤ x5 →
    P64 x1 x3 x4) ∧
    (¬ ((σ.1 19 11) ≤ x5) →
    ((x3 ≤ 0 →
    P64 x1 x3 x4) ∧
    (¬ (x3 ≤ 0) →
    vp_in x5 361 ∧
    ((¬ (σ.1 23 (x5).toNatClampNeg) = x4 →
    P58 x1 x3 x4 x5) ∧
    ((σ.1 23 (x5).toNatClampNeg) = x4 →
    ∀ x1_9 : Int64, x1_9 = (x1 + ((x4).toInt64)) →
    ∀ x3_10 : Int32, x3_10 = x3 + (-1) →
    P58 x1_9 x3_10 x4 x5))))))) → P24 x1 x3 x4 x5) →
    (∀ (x1 : Int64) (x3 : Int32) (x4 : Int32) (x5 : Int32), (
    ∀ x5_12 : Int32, x5_12 = x5 + 1 →
    P24 x1 x3 x4 x5_12) → P58 x1 x3 x4 x5) →
    (∀ (x1 : Int64) (x3 : Int32) (x4 : Int32), (
    ∀ x4_11 : Int32, x4_11 = x4 + 1 →
    P17 x1 x3 x4_11) → P64 x1 x3 x4) →
    
    ∀ x3_1 : Int32, x3_1 = (((σ.1 19 11) + (3 : Int32)) / (4 : Int32)) →
    wp_X6_least σ (fun r_2 => 
    P17 (0 : Int64) x3_1 r_2)
set_option maxHeartbeats 4000000 in
set_option maxRecDepth 100000 in
theorem c_X6_dry (l : Launch) (g : cdG)  (σ : cdS) (Q : Int64 → Prop) (hwp : wp_X6_dry  σ Q) : cdCl l g yX6_dry cX6_dry 6 (some .long) 1 22 [.ref (cdA g 19)] σ (fun r σ' => σ' = σ ∧ Q r) := by
  intro sz
  refine Met.ofW (cc := cX6_dry) (maxL := 6) (ret := (some .long)) (by decide) rfl ?_
  intro p e s m args below meth c s₁ B hml hv
  obtain ⟨rfl, hsz, hP, hK, hdi, hV⟩ := hv
  subst hsz
  have hx := B.exec
  have hb := B.bytes
  have hr := B.returns
  have hlocks := B.notSynchronized
  have hown : s.vm.findClass RX6 = some m.cls := findClass_of_methodNamed B.named
  have hts : ∀ w ∈ cdL, w.before _ s = true := fun w hw => atoms_spec (ws := cdWs yX6_dry cX6_dry 6 (some .long)) B.pre w (List.mem_cons_of_mem _ hw)
  have X : cdX p s m _ c cX6_dry 6 RX6 g := ⟨hx, hb, hml, hown, hts, hK, hdi, hV⟩
  have hS : va_S (cdZ g s.heap.size) s.heap s.heap [] := va_S.rf
  have hl := lv_entry ([.ref (cdA g 19)]) (n := 6) (Nat.le_of_ble_eq_true rfl)
  rw [lg_entry_eq]
  generalize (lg_sl ([.ref (cdA g 19)]) ++ List.replicate (6 - (lg_sl ([.ref (cdA g 19)])).length) Slot.unset).toArray = ls at hl ⊢
  have hl : lv_has ls 6 [(0, .ref (cdA g 19))] := hl
  obtain ⟨Qm, hQm⟩ : ∃ z, z = MQ below (va_Ql (fun r σ' => σ' = σ ∧ Q r) (fun σ' t => va_P (cdD g) vwCl (cdW g σ') t.heap) (cdZ g s.heap.size)) ([.ref (cdA g 19)] : List Value).toArray s 0 0 (cdZ g s.heap.size) := ⟨_, rfl⟩
  rw [← hQm]
  have hB := hwp (fun (x1 : Int64) (x3 : Int32) (x4 : Int32) => cdCut p l e (headSpec (cdWs yX6_dry cX6_dry 6 (some .long)) (cdRm 1 22)).room s m ([.ref (cdA g 19)] : List Value).toArray below meth c Qm g 6 17 [(0, .ref (cdA g 19)), (1, .long x1), (3, .int x3), (4, .int x4)] [] σ)
    (fun (x1 : Int64) (x3 : Int32) (x4 : Int32) (x5 : Int32) => cdCut p l e (headSpec (cdWs yX6_dry cX6_dry 6 (some .long)) (cdRm 1 22)).room s m ([.ref (cdA g 19)] : List Value).toArray below meth c Qm g 6 24 [(0, .ref (cdA g 19)), (1, .long x1), (3, .int x3), (4, .int x4), (5, .int x5)] [] σ)
    (fun (x1 : Int64) (x3 : Int32) (x4 : Int32) (x5 : Int32) => cdCut p l e (headSpec (cdWs yX6_dry cX6_dry 6 (some .long)) (cdRm 1 22)).room s m ([.ref (cdA g 19)] : List Value).toArray below meth c Qm g 6 58 [(0, .ref (cdA g 19)), (1, .long x1), (3, .int x3), (4, .int x4), (5, .int x5)] [] σ)
    (fun (x1 : Int64) (x3 : Int32) (x4 : Int32) => cdCut p l e (headSpec (cdWs yX6_dry cX6_dry 6 (some .long)) (cdRm 1 22)).room s m ([.ref (cdA g 19)] : List Value).toArray below meth c Qm g 6 64 [(0, .ref (cdA g 19)), (1, .long x1), (3, .int x3), (4, .int x4)] [] σ)
    (by
    intro x1 x3 x4 hB H locs ls hP hS hl
    refine lv_iload_n hx hb dX6_dry_17 rfl (lv_at hl 2 rfl) ?_
    refine lv_if_le (tgt := 70) hx hb dX6_dry_18 (by decide) (fun c_4 => ?_) (fun c_4 => ?_)
    · have hB := hB.1 c_4
      refine lv_lload_n hx hb dX6_dry_70 rfl (lv_at hl 1 rfl) ?_
      rw [hQm]
      exact W.lret hx hb hr (fun t ht hW => ⟨⟨x1, σ, rfl, ⟨rfl, hB⟩, cd_hp ht hP⟩, hS.F ht⟩) hS.2.2 dX6_dry_71
    · have hB := hB.2 c_4
      refine lv_iconst (v := 0) hx hb dX6_dry_21 (by decide) ?_
      refine lv_istore (lv' := [(5, .int (0 : Int32)), (0, .ref (cdA g 19)), (1, .long x1), (3, .int x3), (4, .int x4)]) hx hb dX6_dry_22 hl (by decide) rfl (fun ls hl => ?_)
      exact hB _ _ _ hP hS (lv_sub hl [1, 2, 3, 4, 0] rfl))
    (by
    intro x1 x3 x4 x5 hB H locs ls hP hS hl
    refine lv_iload hx hb dX6_dry_24 (lv_at hl 4 rfl) ?_
    refine lv_aload_n hx hb dX6_dry_26 rfl (lv_at hl 0 rfl) ?_
    refine cd_get X hP (C := RX6) (T := TX6) (N := 20) (ci := 6) (k := 19) (j := 11) (v := .int (σ.1 19 11)) inX6 (by decide) rfl rfl (by decide) wf_X6_117 rfl rfl dX6_dry_27 ?_
    refine lv_icmp_ge (tgt := 64) hx hb dX6_dry_30 (by decide) (fun c_5 => ?_) (fun c_5 => ?_)
    · have hB := hB.1 c_5
      exact hB _ _ _ hP hS (lv_sub hl [0, 1, 2, 3] rfl)
    · have hB := hB.2 c_5
      refine lv_iload_n hx hb dX6_dry_33 rfl (lv_at hl 2 rfl) ?_
      refine lv_if_le (tgt := 64) hx hb dX6_dry_34 (by decide) (fun c_6 => ?_) (fun c_6 => ?_)
      · have hB := hB.1 c_6
        exact hB _ _ _ hP hS (lv_sub hl [0, 1, 2, 3] rfl)
      · have hB := hB.2 c_6
        refine lv_aload_n hx hb dX6_dry_37 rfl (lv_at hl 0 rfl) ?_
        refine cd_get X hP (C := RX6) (T := TX6) (N := 20) (ci := 6) (k := 19) (j := 13) (v := .ref (cdA g 23)) inX6 (by decide) rfl rfl (by decide) wf_X6_19 rfl rfl dX6_dry_38 ?_
        refine lv_iload hx hb dX6_dry_41 (lv_at hl 4 rfl) ?_
        obtain ⟨i_7, hB⟩ := hB
        refine cd_ald X hP (k := 23) (N := 361) (by decide) rfl i_7 dX6_dry_43 ?_
        refine lv_iload hx hb dX6_dry_44 (lv_at hl 3 rfl) ?_
        refine lv_icmp_ne (tgt := 58) hx hb dX6_dry_46 (by decide) (fun c_8 => ?_) (fun c_8 => ?_)
        · have hB := hB.1 c_8
          exact hB _ _ _ hP hS (lv_sub hl [0, 1, 2, 3, 4] rfl)
        · have hB := hB.2 c_8
          refine lv_lload_n hx hb dX6_dry_49 rfl (lv_at hl 1 rfl) ?_
          refine lv_iload hx hb dX6_dry_50 (lv_at hl 3 rfl) ?_
          refine lv_i2l hx hb dX6_dry_52 rfl ?_
          refine lv_ladd hx hb dX6_dry_53 ?_
          refine lv_topl (fun x1_9 ex1_9 => ?_)
          have hB := hB x1_9 ex1_9
          refine lv_lstore_n (lv' := [(1, .long x1_9), (0, .ref (cdA g 19)), (3, .int x3), (4, .int x4), (5, .int x5)]) hx hb dX6_dry_54 rfl hl (by decide) rfl (fun ls hl => ?_)
          obtain ⟨x3_10, ex3_10⟩ : ∃ z : Int32, z = x3 + (-1) := ⟨_, rfl⟩
          have hB := hB x3_10 ex3_10
          refine lv_iinc (v := x3_10) (lv' := [(3, .int x3_10), (1, .long x1_9), (0, .ref (cdA g 19)), (4, .int x4), (5, .int x5)]) hx hb dX6_dry_55 hl (k := 2) rfl (by rw [ex3_10]; rfl) (by decide) rfl (fun ls hl => ?_)
          exact hB _ _ _ hP hS (lv_sub hl [2, 1, 0, 3, 4] rfl))
    (by
    intro x1 x3 x4 x5 hB H locs ls hP hS hl
    obtain ⟨x5_12, ex5_12⟩ : ∃ z : Int32, z = x5 + 1 := ⟨_, rfl⟩
    have hB := hB x5_12 ex5_12
    refine lv_iinc (v := x5_12) (lv' := [(5, .int x5_12), (0, .ref (cdA g 19)), (1, .long x1), (3, .int x3), (4, .int x4)]) hx hb dX6_dry_58 hl (k := 4) rfl (by rw [ex5_12]; rfl) (by decide) rfl (fun ls hl => ?_)
    refine lv_goto (tgt := 24) hx hb dX6_dry_61 (by decide) ?_
    exact hB _ _ _ hP hS (lv_sub hl [1, 2, 3, 4, 0] rfl))
    (by
    intro x1 x3 x4 hB H locs ls hP hS hl
    obtain ⟨x4_11, ex4_11⟩ : ∃ z : Int32, z = x4 + 1 := ⟨_, rfl⟩
    have hB := hB x4_11 ex4_11
    refine lv_iinc (v := x4_11) (lv' := [(4, .int x4_11), (0, .ref (cdA g 19)), (1, .long x1), (3, .int x3)]) hx hb dX6_dry_64 hl (k := 3) rfl (by rw [ex4_11]; rfl) (by decide) rfl (fun ls hl => ?_)
    refine lv_goto (tgt := 17) hx hb dX6_dry_67 (by decide) ?_
    exact hB _ _ _ hP hS (lv_sub hl [1, 2, 3, 0] rfl))
  refine lv_lconst (v := 0) hx hb dX6_dry_0 (by decide) ?_
  refine lv_lstore_n (lv' := [(1, .long (0 : Int64)), (0, .ref (cdA g 19))]) hx hb dX6_dry_1 rfl hl (by decide) rfl (fun ls hl => ?_)
  refine lv_aload_n hx hb dX6_dry_2 rfl (lv_at hl 1 rfl) ?_
  refine cd_get X hP (C := RX6) (T := TX6) (N := 20) (ci := 6) (k := 19) (j := 11) (v := .int (σ.1 19 11)) inX6 (by decide) rfl rfl (by decide) wf_X6_117 rfl rfl dX6_dry_3 ?_
  refine lv_iconst (v := 3) hx hb dX6_dry_6 (by decide) ?_
  refine lv_iadd hx hb dX6_dry_7 ?_
  refine lv_iconst (v := 4) hx hb dX6_dry_8 (by decide) ?_
  refine lv_idiv hx hb dX6_dry_9 (by decide) ?_
  refine lv_topi (fun x3_1 ex3_1 => ?_)
  have hB := hB x3_1 ex3_1
  refine lv_istore_n (lv' := [(3, .int x3_1), (1, .long (0 : Int64)), (0, .ref (cdA g 19))]) hx hb dX6_dry_10 rfl hl (by decide) rfl (fun ls hl => ?_)
  refine lv_aload_n hx hb dX6_dry_11 rfl (lv_at hl 2 rfl) ?_
  refine cd_ci (cd_runV (As := []) (rest := []) (σ := σ) (k := 19) (ci := 6) X wm_X6_138 (by decide) rfl rfl rfl (c_X6_least l g  σ _ hB _) hP hS rfl rfl hl.1 (Nat.le_of_ble_eq_true rfl) ⟨Nat.le_of_ble_eq_true rfl, Nat.le_of_ble_eq_true rfl⟩ ⟨Nat.zero_le _, Nat.zero_le _⟩ dX6_dry_12) hS (fun r_2 σ_3 H locs hB hP hS => ?_)
  obtain ⟨eσ_3, hB⟩ := hB
  rw [eσ_3] at hP
  refine lv_istore (lv' := [(4, .int r_2), (3, .int x3_1), (1, .long (0 : Int64)), (0, .ref (cdA g 19))]) hx hb dX6_dry_15 hl (by decide) rfl (fun ls hl => ?_)
  exact hB _ _ _ hP hS (lv_sub hl [3, 2, 1, 0] rfl)
def wp_X6_lowNow (v1 : Int32) (σ : cdS) (Q : Int32 → Prop) : Prop :=
  
    wp_X6_dry σ (fun r_1 => 
    wp_X6_lowest ((((σ.1 19 11)).toInt64) * r_1) ((((((σ.1 19 11) + (3 : Int32)) / (4 : Int32))).toInt64) * (((σ.1 19 12)).toInt64)) v1 σ (fun r_3 => 
    Q r_3))
set_option maxHeartbeats 4000000 in
set_option maxRecDepth 100000 in
theorem c_X6_lowNow (l : Launch) (g : cdG) (v1 : Int32) (σ : cdS) (Q : Int32 → Prop) (hwp : wp_X6_lowNow v1 σ Q) : cdCi l g yX6_lowNow cX6_lowNow 2 (some .int) 2 55 [.ref (cdA g 19), .int v1] σ (fun r σ' => σ' = σ ∧ Q r) := by
  intro sz
  refine Met.ofW (cc := cX6_lowNow) (maxL := 2) (ret := (some .int)) (by decide) rfl ?_
  intro p e s m args below meth c s₁ B hml hv
  obtain ⟨rfl, hsz, hP, hK, hdi, hV⟩ := hv
  subst hsz
  have hx := B.exec
  have hb := B.bytes
  have hr := B.returns
  have hlocks := B.notSynchronized
  have hown : s.vm.findClass RX6 = some m.cls := findClass_of_methodNamed B.named
  have hts : ∀ w ∈ cdL, w.before _ s = true := fun w hw => atoms_spec (ws := cdWs yX6_lowNow cX6_lowNow 2 (some .int)) B.pre w (List.mem_cons_of_mem _ hw)
  have X : cdX p s m _ c cX6_lowNow 2 RX6 g := ⟨hx, hb, hml, hown, hts, hK, hdi, hV⟩
  have hS : va_S (cdZ g s.heap.size) s.heap s.heap [] := va_S.rf
  have hl := lv_entry ([.ref (cdA g 19), .int v1]) (n := 2) (Nat.le_of_ble_eq_true rfl)
  rw [lg_entry_eq]
  generalize (lg_sl ([.ref (cdA g 19), .int v1]) ++ List.replicate (2 - (lg_sl ([.ref (cdA g 19), .int v1])).length) Slot.unset).toArray = ls at hl ⊢
  have hl : lv_has ls 2 [(0, .ref (cdA g 19)), (1, .int v1)] := hl
  obtain ⟨Qm, hQm⟩ : ∃ z, z = MQ below (va_Qi (fun r σ' => σ' = σ ∧ Q r) (fun σ' t => va_P (cdD g) vwCl (cdW g σ') t.heap) (cdZ g s.heap.size)) ([.ref (cdA g 19), .int v1] : List Value).toArray s 0 0 (cdZ g s.heap.size) := ⟨_, rfl⟩
  rw [← hQm]
  have hB := hwp
  refine lv_aload_n hx hb dX6_lowNow_0 rfl (lv_at hl 0 rfl) ?_
  refine cd_get X hP (C := RX6) (T := TX6) (N := 20) (ci := 6) (k := 19) (j := 11) (v := .int (σ.1 19 11)) inX6 (by decide) rfl rfl (by decide) wf_X6_117 rfl rfl dX6_lowNow_1 ?_
  refine lv_i2l hx hb dX6_lowNow_4 rfl ?_
  refine lv_aload_n hx hb dX6_lowNow_5 rfl (lv_at hl 0 rfl) ?_
  refine cd_cl (cd_runV (As := []) (rest := [.long (((σ.1 19 11)).toInt64)]) (σ := σ) (k := 19) (ci := 6) X wm_X6_141 (by decide) rfl rfl rfl (c_X6_dry l g  σ _ hB _) hP hS rfl rfl hl.1 (Nat.le_of_ble_eq_true rfl) ⟨Nat.le_of_ble_eq_true rfl, Nat.le_of_ble_eq_true rfl⟩ ⟨Nat.zero_le _, Nat.zero_le _⟩ dX6_lowNow_6) hS (fun r_1 σ_2 H locs hB hP hS => ?_)
  obtain ⟨eσ_2, hB⟩ := hB
  rw [eσ_2] at hP
  refine lv_lmul hx hb dX6_lowNow_9 ?_
  refine lv_aload_n hx hb dX6_lowNow_10 rfl (lv_at hl 0 rfl) ?_
  refine cd_get X hP (C := RX6) (T := TX6) (N := 20) (ci := 6) (k := 19) (j := 11) (v := .int (σ.1 19 11)) inX6 (by decide) rfl rfl (by decide) wf_X6_117 rfl rfl dX6_lowNow_11 ?_
  refine lv_iconst (v := 3) hx hb dX6_lowNow_14 (by decide) ?_
  refine lv_iadd hx hb dX6_lowNow_15 ?_
  refine lv_iconst (v := 4) hx hb dX6_lowNow_16 (by decide) ?_
  refine lv_idiv hx hb dX6_lowNow_17 (by decide) ?_
  refine lv_i2l hx hb dX6_lowNow_18 rfl ?_
  refine lv_aload_n hx hb dX6_lowNow_19 rfl (lv_at hl 0 rfl) ?_
  refine cd_get X hP (C := RX6) (T := TX6) (N := 20) (ci := 6) (k := 19) (j := 12) (v := .int (σ.1 19 12)) inX6 (by decide) rfl rfl (by decide) wf_X6_120 rfl rfl dX6_lowNow_20 ?_
  refine lv_i2l hx hb dX6_lowNow_23 rfl ?_
  refine lv_lmul hx hb dX6_lowNow_24 ?_
  refine lv_iload_n hx hb dX6_lowNow_25 rfl (lv_at hl 1 rfl) ?_
  refine cd_ci (cd_runS (As := [.long ((((σ.1 19 11)).toInt64) * r_1), .long ((((((σ.1 19 11) + (3 : Int32)) / (4 : Int32))).toInt64) * (((σ.1 19 12)).toInt64)), .int v1]) (rest := []) (σ := σ) X wm_X6_145 (c_X6_lowest l g ((((σ.1 19 11)).toInt64) * r_1) ((((((σ.1 19 11) + (3 : Int32)) / (4 : Int32))).toInt64) * (((σ.1 19 12)).toInt64)) v1 σ _ hB _) hP hS rfl rfl hl.1 (Nat.le_of_ble_eq_true rfl) ⟨Nat.le_of_ble_eq_true rfl, Nat.le_of_ble_eq_true rfl⟩ ⟨Nat.zero_le _, Nat.zero_le _⟩ dX6_lowNow_26) hS (fun r_3 σ_4 H locs hB hP hS => ?_)
  obtain ⟨eσ_4, hB⟩ := hB
  rw [eσ_4] at hP
  rw [hQm]
  exact W.iret hx hb hr (fun t ht hW => ⟨⟨r_3, σ, rfl, ⟨rfl, hB⟩, cd_hp ht hP⟩, hS.F ht⟩) hS.2.2 dX6_lowNow_29
def wp_X6_laidNow (v1 : Int32) (σ : cdS) (Q : Int32 → Prop) : Prop :=
  
    ((v1 = (0 : Int32) →
    Q (σ.1 19 11)) ∧
    (¬ (v1 = (0 : Int32)) →
    ((v1 = (1 : Int32) →
    Q (σ.1 19 12)) ∧
    (¬ (v1 = (1 : Int32)) →
    ((v1 = (2 : Int32) →
    wp_X6_least σ (fun r_4 => 
    Q r_4)) ∧
    (¬ (v1 = (2 : Int32)) →
    ((v1 = (3 : Int32) →
    wp_X6_greatest σ (fun r_7 => 
    Q r_7)) ∧
    (¬ (v1 = (3 : Int32)) →
    ((¬ (σ.1 19 12) = 0 →
    (((6 : Int32) ≤ v1 →
    wp_X6_lowNow (v1 - (6 : Int32)) σ (fun r_11 => 
    Q r_11)) ∧
    (¬ ((6 : Int32) ≤ v1) →
    wp_X6_evenAbove σ (fun r_13 => 
    wp_X6_lowest r_13 ((((σ.1 19 11)).toInt64) * (((σ.1 19 12)).toInt64)) (v1 - (4 : Int32)) σ (fun r_15 => 
    Q r_15))))) ∧
    ((σ.1 19 12) = 0 →
    Q (-1000001 : Int32)))))))))))
set_option maxHeartbeats 4000000 in
set_option maxRecDepth 100000 in
theorem c_X6_laidNow (l : Launch) (g : cdG) (v1 : Int32) (σ : cdS) (Q : Int32 → Prop) (hwp : wp_X6_laidNow v1 σ Q) : cdCi l g yX6_laidNow cX6_laidNow 2 (some .int) 3 76 [.ref (cdA g 19), .int v1] σ (fun r σ' => σ' = σ ∧ Q r) := by
  intro sz
  refine Met.ofW (cc := cX6_laidNow) (maxL := 2) (ret := (some .int)) (by decide) rfl ?_
  intro p e s m args below meth c s₁ B hml hv
  obtain ⟨rfl, hsz, hP, hK, hdi, hV⟩ := hv
  subst hsz
  have hx := B.exec
  have hb := B.bytes
  have hr := B.returns
  have hlocks := B.notSynchronized
  have hown : s.vm.findClass RX6 = some m.cls := findClass_of_methodNamed B.named
  have hts : ∀ w ∈ cdL, w.before _ s = true := fun w hw => atoms_spec (ws := cdWs yX6_laidNow cX6_laidNow 2 (some .int)) B.pre w (List.mem_cons_of_mem _ hw)
  have X : cdX p s m _ c cX6_laidNow 2 RX6 g := ⟨hx, hb, hml, hown, hts, hK, hdi, hV⟩
  have hS : va_S (cdZ g s.heap.size) s.heap s.heap [] := va_S.rf
  have hl := lv_entry ([.ref (cdA g 19), .int v1]) (n := 2) (Nat.le_of_ble_eq_true rfl)
  rw [lg_entry_eq]
  generalize (lg_sl ([.ref (cdA g 19), .int v1]) ++ List.replicate (2 - (lg_sl ([.ref (cdA g 19), .int v1])).length) Slot.unset).toArray = ls at hl ⊢
  have hl : lv_has ls 2 [(0, .ref (cdA g 19)), (1, .int v1)] := hl
  obtain ⟨Qm, hQm⟩ : ∃ z, z = MQ below (va_Qi (fun r σ' => σ' = σ ∧ Q r) (fun σ' t => va_P (cdD g) vwCl (cdW g σ') t.heap) (cdZ g s.heap.size)) ([.ref (cdA g 19), .int v1] : List Value).toArray s 0 0 (cdZ g s.heap.size) := ⟨_, rfl⟩
  rw [← hQm]
  have hB := hwp
  refine lv_iload_n hx hb dX6_laidNow_0 rfl (lv_at hl 1 rfl) ?_
  by_cases c_1 : v1 = (0 : Int32)
  · have hB := hB.1 c_1
    refine lv_tableIn (tgt := 32) hx hb dX6_laidNow_1 (by rw [c_1]; decide) (by rw [c_1]; decide) (by rw [c_1]; rfl) (by decide) ?_
    refine lv_aload_n hx hb dX6_laidNow_32 rfl (lv_at hl 0 rfl) ?_
    refine cd_get X hP (C := RX6) (T := TX6) (N := 20) (ci := 6) (k := 19) (j := 11) (v := .int (σ.1 19 11)) inX6 (by decide) rfl rfl (by decide) wf_X6_117 rfl rfl dX6_laidNow_33 ?_
    rw [hQm]
    exact W.iret hx hb hr (fun t ht hW => ⟨⟨(σ.1 19 11), σ, rfl, ⟨rfl, hB⟩, cd_hp ht hP⟩, hS.F ht⟩) hS.2.2 dX6_laidNow_36
  · have hB := hB.2 c_1
    by_cases c_2 : v1 = (1 : Int32)
    · have hB := hB.1 c_2
      refine lv_tableIn (tgt := 37) hx hb dX6_laidNow_1 (by rw [c_2]; decide) (by rw [c_2]; decide) (by rw [c_2]; rfl) (by decide) ?_
      refine lv_aload_n hx hb dX6_laidNow_37 rfl (lv_at hl 0 rfl) ?_
      refine cd_get X hP (C := RX6) (T := TX6) (N := 20) (ci := 6) (k := 19) (j := 12) (v := .int (σ.1 19 12)) inX6 (by decide) rfl rfl (by decide) wf_X6_120 rfl rfl dX6_laidNow_38 ?_
      rw [hQm]
      exact W.iret hx hb hr (fun t ht hW => ⟨⟨(σ.1 19 12), σ, rfl, ⟨rfl, hB⟩, cd_hp ht hP⟩, hS.F ht⟩) hS.2.2 dX6_laidNow_41
    · have hB := hB.2 c_2
      by_cases c_3 : v1 = (2 : Int32)
      · have hB := hB.1 c_3
        refine lv_tableIn (tgt := 42) hx hb dX6_laidNow_1 (by rw [c_3]; decide) (by rw [c_3]; decide) (by rw [c_3]; rfl) (by decide) ?_
        refine lv_aload_n hx hb dX6_laidNow_42 rfl (lv_at hl 0 rfl) ?_
        refine cd_ci (cd_runV (As := []) (rest := []) (σ := σ) (k := 19) (ci := 6) X wm_X6_138 (by decide) rfl rfl rfl (c_X6_least l g  σ _ hB _) hP hS rfl rfl hl.1 (Nat.le_of_ble_eq_true rfl) ⟨Nat.le_of_ble_eq_true rfl, Nat.le_of_ble_eq_true rfl⟩ ⟨Nat.zero_le _, Nat.zero_le _⟩ dX6_laidNow_43) hS (fun r_4 σ_5 H locs hB hP hS => ?_)
        obtain ⟨eσ_5, hB⟩ := hB
        rw [eσ_5] at hP
        rw [hQm]
        exact W.iret hx hb hr (fun t ht hW => ⟨⟨r_4, σ, rfl, ⟨rfl, hB⟩, cd_hp ht hP⟩, hS.F ht⟩) hS.2.2 dX6_laidNow_46
      · have hB := hB.2 c_3
        by_cases c_6 : v1 = (3 : Int32)
        · have hB := hB.1 c_6
          refine lv_tableIn (tgt := 47) hx hb dX6_laidNow_1 (by rw [c_6]; decide) (by rw [c_6]; decide) (by rw [c_6]; rfl) (by decide) ?_
          refine lv_aload_n hx hb dX6_laidNow_47 rfl (lv_at hl 0 rfl) ?_
          refine cd_ci (cd_runV (As := []) (rest := []) (σ := σ) (k := 19) (ci := 6) X wm_X6_149 (by decide) rfl rfl rfl (c_X6_greatest l g  σ _ hB _) hP hS rfl rfl hl.1 (Nat.le_of_ble_eq_true rfl) ⟨Nat.le_of_ble_eq_true rfl, Nat.le_of_ble_eq_true rfl⟩ ⟨Nat.zero_le _, Nat.zero_le _⟩ dX6_laidNow_48) hS (fun r_7 σ_8 H locs hB hP hS => ?_)
          obtain ⟨eσ_8, hB⟩ := hB
          rw [eσ_8] at hP
          rw [hQm]
          exact W.iret hx hb hr (fun t ht hW => ⟨⟨r_7, σ, rfl, ⟨rfl, hB⟩, cd_hp ht hP⟩, hS.F ht⟩) hS.2.2 dX6_laidNow_51
        · have hB := hB.2 c_6
          have qc_1 := cd_ni (z := 0) (by decide) c_1
          have qc_2 := cd_ni (z := 1) (by decide) c_2
          have qc_3 := cd_ni (z := 2) (by decide) c_3
          have qc_6 := cd_ni (z := 3) (by decide) c_6
          refine lv_tableOut (tgt := 52) hx hb dX6_laidNow_1 (by omega) (by decide) ?_
          refine lv_aload_n hx hb dX6_laidNow_52 rfl (lv_at hl 0 rfl) ?_
          refine cd_get X hP (C := RX6) (T := TX6) (N := 20) (ci := 6) (k := 19) (j := 12) (v := .int (σ.1 19 12)) inX6 (by decide) rfl rfl (by decide) wf_X6_120 rfl rfl dX6_laidNow_53 ?_
          refine lv_if_ne (tgt := 64) hx hb dX6_laidNow_56 (by decide) (fun c_9 => ?_) (fun c_9 => ?_)
          · have hB := hB.1 c_9
            refine lv_iload_n hx hb dX6_laidNow_64 rfl (lv_at hl 1 rfl) ?_
            refine lv_bipush (v := 6) hx hb dX6_laidNow_65 (by decide) ?_
            refine lv_icmp_ge (tgt := 94) hx hb dX6_laidNow_67 (by decide) (fun c_10 => ?_) (fun c_10 => ?_)
            · have hB := hB.1 c_10
              refine lv_aload_n hx hb dX6_laidNow_94 rfl (lv_at hl 0 rfl) ?_
              refine lv_iload_n hx hb dX6_laidNow_95 rfl (lv_at hl 1 rfl) ?_
              refine lv_bipush (v := 6) hx hb dX6_laidNow_96 (by decide) ?_
              refine lv_isub hx hb dX6_laidNow_98 ?_
              refine cd_ci (cd_runV (As := [.int (v1 - (6 : Int32))]) (rest := []) (σ := σ) (k := 19) (ci := 6) X wm_X6_155 (by decide) rfl rfl rfl (c_X6_lowNow l g (v1 - (6 : Int32)) σ _ hB _) hP hS rfl rfl hl.1 (Nat.le_of_ble_eq_true rfl) ⟨Nat.le_of_ble_eq_true rfl, Nat.le_of_ble_eq_true rfl⟩ ⟨Nat.zero_le _, Nat.zero_le _⟩ dX6_laidNow_99) hS (fun r_11 σ_12 H locs hB hP hS => ?_)
              obtain ⟨eσ_12, hB⟩ := hB
              rw [eσ_12] at hP
              rw [hQm]
              exact W.iret hx hb hr (fun t ht hW => ⟨⟨r_11, σ, rfl, ⟨rfl, hB⟩, cd_hp ht hP⟩, hS.F ht⟩) hS.2.2 dX6_laidNow_102
            · have hB := hB.2 c_10
              refine lv_aload_n hx hb dX6_laidNow_70 rfl (lv_at hl 0 rfl) ?_
              refine cd_cl (cd_runV (As := []) (rest := []) (σ := σ) (k := 19) (ci := 6) X wm_X6_152 (by decide) rfl rfl rfl (c_X6_evenAbove l g  σ _ hB _) hP hS rfl rfl hl.1 (Nat.le_of_ble_eq_true rfl) ⟨Nat.le_of_ble_eq_true rfl, Nat.le_of_ble_eq_true rfl⟩ ⟨Nat.zero_le _, Nat.zero_le _⟩ dX6_laidNow_71) hS (fun r_13 σ_14 H locs hB hP hS => ?_)
              obtain ⟨eσ_14, hB⟩ := hB
              rw [eσ_14] at hP
              refine lv_aload_n hx hb dX6_laidNow_74 rfl (lv_at hl 0 rfl) ?_
              refine cd_get X hP (C := RX6) (T := TX6) (N := 20) (ci := 6) (k := 19) (j := 11) (v := .int (σ.1 19 11)) inX6 (by decide) rfl rfl (by decide) wf_X6_117 rfl rfl dX6_laidNow_75 ?_
              refine lv_i2l hx hb dX6_laidNow_78 rfl ?_
              refine lv_aload_n hx hb dX6_laidNow_79 rfl (lv_at hl 0 rfl) ?_
              refine cd_get X hP (C := RX6) (T := TX6) (N := 20) (ci := 6) (k := 19) (j := 12) (v := .int (σ.1 19 12)) inX6 (by decide) rfl rfl (by decide) wf_X6_120 rfl rfl dX6_laidNow_80 ?_
              refine lv_i2l hx hb dX6_laidNow_83 rfl ?_
              refine lv_lmul hx hb dX6_laidNow_84 ?_
              refine lv_iload_n hx hb dX6_laidNow_85 rfl (lv_at hl 1 rfl) ?_
              refine lv_iconst (v := 4) hx hb dX6_laidNow_86 (by decide) ?_
              refine lv_isub hx hb dX6_laidNow_87 ?_
              refine cd_ci (cd_runS (As := [.long r_13, .long ((((σ.1 19 11)).toInt64) * (((σ.1 19 12)).toInt64)), .int (v1 - (4 : Int32))]) (rest := []) (σ := σ) X wm_X6_145 (c_X6_lowest l g r_13 ((((σ.1 19 11)).toInt64) * (((σ.1 19 12)).toInt64)) (v1 - (4 : Int32)) σ _ hB _) hP hS rfl rfl hl.1 (Nat.le_of_ble_eq_true rfl) ⟨Nat.le_of_ble_eq_true rfl, Nat.le_of_ble_eq_true rfl⟩ ⟨Nat.zero_le _, Nat.zero_le _⟩ dX6_laidNow_88) hS (fun r_15 σ_16 H locs hB hP hS => ?_)
              obtain ⟨eσ_16, hB⟩ := hB
              rw [eσ_16] at hP
              refine lv_goto (tgt := 102) hx hb dX6_laidNow_91 (by decide) ?_
              rw [hQm]
              exact W.iret hx hb hr (fun t ht hW => ⟨⟨r_15, σ, rfl, ⟨rfl, hB⟩, cd_hp ht hP⟩, hS.F ht⟩) hS.2.2 dX6_laidNow_102
          · have hB := hB.2 c_9
            refine lv_ldc (v := -1000001) hx hb hown (hts _ wc_X6_32) dX6_laidNow_59 ?_
            refine lv_goto (tgt := 102) hx hb dX6_laidNow_61 (by decide) ?_
            rw [hQm]
            exact W.iret hx hb hr (fun t ht hW => ⟨⟨(-1000001 : Int32), σ, rfl, ⟨rfl, hB⟩, cd_hp ht hP⟩, hS.F ht⟩) hS.2.2 dX6_laidNow_102
def wp_X6_turnsNow (v1 : Int32) (v2 : Int32) (v3 : Int32) (v4 : Int32) (v5 : Int32) (σ : cdS) (Q : Int32 → cdS → Prop) : Prop :=
  
    wp_X6_layTile v1 v2 (0 : Int32) v3 v4 ((2 : Int32) * v3) ((2 : Int32) * v4) σ (fun σ_2 => 
    wp_X6_laidNow v5 σ_2 (fun r_3 => 
    Q r_3 σ_2))
set_option maxHeartbeats 4000000 in
set_option maxRecDepth 100000 in
theorem c_X6_turnsNow (l : Launch) (g : cdG) (v1 : Int32) (v2 : Int32) (v3 : Int32) (v4 : Int32) (v5 : Int32) (σ : cdS) (Q : Int32 → cdS → Prop) (hwp : wp_X6_turnsNow v1 v2 v3 v4 v5 σ Q) : cdCi l g yX6_turnsNow cX6_turnsNow 6 (some .int) 5 134 [.ref (cdA g 19), .int v1, .int v2, .int v3, .int v4, .int v5] σ Q := by
  intro sz
  refine Met.ofW (cc := cX6_turnsNow) (maxL := 6) (ret := (some .int)) (by decide) rfl ?_
  intro p e s m args below meth c s₁ B hml hv
  obtain ⟨rfl, hsz, hP, hK, hdi, hV⟩ := hv
  subst hsz
  have hx := B.exec
  have hb := B.bytes
  have hr := B.returns
  have hlocks := B.notSynchronized
  have hown : s.vm.findClass RX6 = some m.cls := findClass_of_methodNamed B.named
  have hts : ∀ w ∈ cdL, w.before _ s = true := fun w hw => atoms_spec (ws := cdWs yX6_turnsNow cX6_turnsNow 6 (some .int)) B.pre w (List.mem_cons_of_mem _ hw)
  have X : cdX p s m _ c cX6_turnsNow 6 RX6 g := ⟨hx, hb, hml, hown, hts, hK, hdi, hV⟩
  have hS : va_S (cdZ g s.heap.size) s.heap s.heap [] := va_S.rf
  have hl := lv_entry ([.ref (cdA g 19), .int v1, .int v2, .int v3, .int v4, .int v5]) (n := 6) (Nat.le_of_ble_eq_true rfl)
  rw [lg_entry_eq]
  generalize (lg_sl ([.ref (cdA g 19), .int v1, .int v2, .int v3, .int v4, .int v5]) ++ List.replicate (6 - (lg_sl ([.ref (cdA g 19), .int v1, .int v2, .int v3, .int v4, .int v5])).length) Slot.unset).toArray = ls at hl ⊢
  have hl : lv_has ls 6 [(0, .ref (cdA g 19)), (1, .int v1), (2, .int v2), (3, .int v3), (4, .int v4), (5, .int v5)] := hl
  obtain ⟨Qm, hQm⟩ : ∃ z, z = MQ below (va_Qi Q (fun σ' t => va_P (cdD g) vwCl (cdW g σ') t.heap) (cdZ g s.heap.size)) ([.ref (cdA g 19), .int v1, .int v2, .int v3, .int v4, .int v5] : List Value).toArray s 0 0 (cdZ g s.heap.size) := ⟨_, rfl⟩
  rw [← hQm]
  have hB := hwp
  refine lv_aload_n hx hb dX6_turnsNow_0 rfl (lv_at hl 0 rfl) ?_
  refine lv_iload_n hx hb dX6_turnsNow_1 rfl (lv_at hl 1 rfl) ?_
  refine lv_iload_n hx hb dX6_turnsNow_2 rfl (lv_at hl 2 rfl) ?_
  refine lv_iconst (v := 0) hx hb dX6_turnsNow_3 (by decide) ?_
  refine lv_iload_n hx hb dX6_turnsNow_4 rfl (lv_at hl 3 rfl) ?_
  refine lv_iload hx hb dX6_turnsNow_5 (lv_at hl 4 rfl) ?_
  refine lv_iconst (v := 2) hx hb dX6_turnsNow_7 (by decide) ?_
  refine lv_iload_n hx hb dX6_turnsNow_8 rfl (lv_at hl 3 rfl) ?_
  refine lv_imul hx hb dX6_turnsNow_9 ?_
  refine lv_iconst (v := 2) hx hb dX6_turnsNow_10 (by decide) ?_
  refine lv_iload hx hb dX6_turnsNow_11 (lv_at hl 4 rfl) ?_
  refine lv_imul hx hb dX6_turnsNow_13 ?_
  refine cd_cv (cd_runV (As := [.int v1, .int v2, .int (0 : Int32), .int v3, .int v4, .int ((2 : Int32) * v3), .int ((2 : Int32) * v4)]) (rest := []) (σ := σ) (k := 19) (ci := 6) X wm_X6_130 (by decide) rfl rfl rfl (c_X6_layTile l g v1 v2 (0 : Int32) v3 v4 ((2 : Int32) * v3) ((2 : Int32) * v4) σ _ hB _) hP hS rfl rfl hl.1 (Nat.le_of_ble_eq_true rfl) ⟨Nat.le_of_ble_eq_true rfl, Nat.le_of_ble_eq_true rfl⟩ ⟨Nat.zero_le _, Nat.zero_le _⟩ dX6_turnsNow_14) hS (fun σ_2 H locs hB hP hS => ?_)
  refine lv_aload_n hx hb dX6_turnsNow_17 rfl (lv_at hl 0 rfl) ?_
  refine lv_iload hx hb dX6_turnsNow_18 (lv_at hl 5 rfl) ?_
  refine cd_ci (cd_runV (As := [.int v5]) (rest := []) (σ := σ_2) (k := 19) (ci := 6) X wm_X6_162 (by decide) rfl rfl rfl (c_X6_laidNow l g v5 σ_2 _ hB _) hP hS rfl rfl hl.1 (Nat.le_of_ble_eq_true rfl) ⟨Nat.le_of_ble_eq_true rfl, Nat.le_of_ble_eq_true rfl⟩ ⟨Nat.zero_le _, Nat.zero_le _⟩ dX6_turnsNow_20) hS (fun r_3 σ_4 H locs hB hP hS => ?_)
  obtain ⟨eσ_4, hB⟩ := hB
  rw [eσ_4] at hP
  rw [hQm]
  exact W.iret hx hb hr (fun t ht hW => ⟨⟨r_3, σ_2, rfl, hB, cd_hp ht hP⟩, hS.F ht⟩) hS.2.2 dX6_turnsNow_23
def wp_X6_byTurns (v1 : Int32) (v2 : Int32) (v3 : Int32) (v4 : Int32) (v5 : Int32) (σ : cdS) (Q : Int32 → cdS → Prop) : Prop :=
  
    wp_X6_isHead v1 σ (fun r_1 => 
    ((r_1 = 0 →
    Q (-1000002 : Int32) σ) ∧
    (¬ (r_1 = 0) →
    wp_X6_isHead v2 σ (fun r_4 => 
    ((¬ r_4 = 0 →
    wp_X6_isLaid (0 : Int32) v3 v4 σ (fun r_7 => 
    ((r_7 = 0 →
    Q (-1000003 : Int32) σ) ∧
    (¬ (r_7 = 0) →
    wp_X6_within v5 (0 : Int32) (7 : Int32) σ (fun r_10 => 
    ((r_10 = 0 →
    Q (-1000003 : Int32) σ) ∧
    (¬ (r_10 = 0) →
    wp_X6_turnsNow v1 v2 v3 v4 v5 σ (fun r_13 σ_14 => 
    Q r_13 σ_14)))))))) ∧
    (r_4 = 0 →
    Q (-1000002 : Int32) σ))))))
set_option maxHeartbeats 4000000 in
set_option maxRecDepth 100000 in
theorem c_X6_byTurns (l : Launch) (g : cdG) (v1 : Int32) (v2 : Int32) (v3 : Int32) (v4 : Int32) (v5 : Int32) (σ : cdS) (Q : Int32 → cdS → Prop) (hwp : wp_X6_byTurns v1 v2 v3 v4 v5 σ Q) : cdCi l g yX6_byTurns cX6_byTurns 6 (some .int) 6 159 [.ref (cdA g 19), .int v1, .int v2, .int v3, .int v4, .int v5] σ Q := by
  intro sz
  refine Met.ofW (cc := cX6_byTurns) (maxL := 6) (ret := (some .int)) (by decide) rfl ?_
  intro p e s m args below meth c s₁ B hml hv
  obtain ⟨rfl, hsz, hP, hK, hdi, hV⟩ := hv
  subst hsz
  have hx := B.exec
  have hb := B.bytes
  have hr := B.returns
  have hlocks := B.notSynchronized
  have hown : s.vm.findClass RX6 = some m.cls := findClass_of_methodNamed B.named
  have hts : ∀ w ∈ cdL, w.before _ s = true := fun w hw => atoms_spec (ws := cdWs yX6_byTurns cX6_byTurns 6 (some .int)) B.pre w (List.mem_cons_of_mem _ hw)
  have X : cdX p s m _ c cX6_byTurns 6 RX6 g := ⟨hx, hb, hml, hown, hts, hK, hdi, hV⟩
  have hS : va_S (cdZ g s.heap.size) s.heap s.heap [] := va_S.rf
  have hl := lv_entry ([.ref (cdA g 19), .int v1, .int v2, .int v3, .int v4, .int v5]) (n := 6) (Nat.le_of_ble_eq_true rfl)
  rw [lg_entry_eq]
  generalize (lg_sl ([.ref (cdA g 19), .int v1, .int v2, .int v3, .int v4, .int v5]) ++ List.replicate (6 - (lg_sl ([.ref (cdA g 19), .int v1, .int v2, .int v3, .int v4, .int v5])).length) Slot.unset).toArray = ls at hl ⊢
  have hl : lv_has ls 6 [(0, .ref (cdA g 19)), (1, .int v1), (2, .int v2), (3, .int v3), (4, .int v4), (5, .int v5)] := hl
  obtain ⟨Qm, hQm⟩ : ∃ z, z = MQ below (va_Qi Q (fun σ' t => va_P (cdD g) vwCl (cdW g σ') t.heap) (cdZ g s.heap.size)) ([.ref (cdA g 19), .int v1, .int v2, .int v3, .int v4, .int v5] : List Value).toArray s 0 0 (cdZ g s.heap.size) := ⟨_, rfl⟩
  rw [← hQm]
  have hB := hwp
  refine lv_aload_n hx hb dX6_byTurns_0 rfl (lv_at hl 0 rfl) ?_
  refine lv_iload_n hx hb dX6_byTurns_1 rfl (lv_at hl 1 rfl) ?_
  refine cd_ci (cd_runV (As := [.int v1]) (rest := []) (σ := σ) (k := 19) (ci := 6) X wm_X6_65 (by decide) rfl rfl rfl (c_X6_isHead l g v1 σ _ hB _) hP hS rfl rfl hl.1 (Nat.le_of_ble_eq_true rfl) ⟨Nat.le_of_ble_eq_true rfl, Nat.le_of_ble_eq_true rfl⟩ ⟨Nat.zero_le _, Nat.zero_le _⟩ dX6_byTurns_2) hS (fun r_1 σ_2 H locs hB hP hS => ?_)
  obtain ⟨eσ_2, hB⟩ := hB
  rw [eσ_2] at hP
  refine lv_if_eq (tgt := 16) hx hb dX6_byTurns_5 (by decide) (fun c_3 => ?_) (fun c_3 => ?_)
  · have hB := hB.1 c_3
    refine lv_ldc (v := -1000002) hx hb hown (hts _ wc_X6_68) dX6_byTurns_16 ?_
    rw [hQm]
    exact W.iret hx hb hr (fun t ht hW => ⟨⟨(-1000002 : Int32), σ, rfl, hB, cd_hp ht hP⟩, hS.F ht⟩) hS.2.2 dX6_byTurns_18
  · have hB := hB.2 c_3
    refine lv_aload_n hx hb dX6_byTurns_8 rfl (lv_at hl 0 rfl) ?_
    refine lv_iload_n hx hb dX6_byTurns_9 rfl (lv_at hl 2 rfl) ?_
    refine cd_ci (cd_runV (As := [.int v2]) (rest := []) (σ := σ) (k := 19) (ci := 6) X wm_X6_65 (by decide) rfl rfl rfl (c_X6_isHead l g v2 σ _ hB _) hP hS rfl rfl hl.1 (Nat.le_of_ble_eq_true rfl) ⟨Nat.le_of_ble_eq_true rfl, Nat.le_of_ble_eq_true rfl⟩ ⟨Nat.zero_le _, Nat.zero_le _⟩ dX6_byTurns_10) hS (fun r_4 σ_5 H locs hB hP hS => ?_)
    obtain ⟨eσ_5, hB⟩ := hB
    rw [eσ_5] at hP
    refine lv_if_ne (tgt := 19) hx hb dX6_byTurns_13 (by decide) (fun c_6 => ?_) (fun c_6 => ?_)
    · have hB := hB.1 c_6
      refine lv_iconst (v := 0) hx hb dX6_byTurns_19 (by decide) ?_
      refine lv_iload_n hx hb dX6_byTurns_20 rfl (lv_at hl 3 rfl) ?_
      refine lv_iload hx hb dX6_byTurns_21 (lv_at hl 4 rfl) ?_
      refine cd_ci (cd_runS (As := [.int (0 : Int32), .int v3, .int v4]) (rest := []) (σ := σ) X wm_X6_110 (c_X6_isLaid l g (0 : Int32) v3 v4 σ _ hB _) hP hS rfl rfl hl.1 (Nat.le_of_ble_eq_true rfl) ⟨Nat.le_of_ble_eq_true rfl, Nat.le_of_ble_eq_true rfl⟩ ⟨Nat.zero_le _, Nat.zero_le _⟩ dX6_byTurns_23) hS (fun r_7 σ_8 H locs hB hP hS => ?_)
      obtain ⟨eσ_8, hB⟩ := hB
      rw [eσ_8] at hP
      refine lv_if_eq (tgt := 54) hx hb dX6_byTurns_26 (by decide) (fun c_9 => ?_) (fun c_9 => ?_)
      · have hB := hB.1 c_9
        refine lv_ldc (v := -1000003) hx hb hown (hts _ wc_X6_26) dX6_byTurns_54 ?_
        rw [hQm]
        exact W.iret hx hb hr (fun t ht hW => ⟨⟨(-1000003 : Int32), σ, rfl, hB, cd_hp ht hP⟩, hS.F ht⟩) hS.2.2 dX6_byTurns_56
      · have hB := hB.2 c_9
        refine lv_iload hx hb dX6_byTurns_29 (lv_at hl 5 rfl) ?_
        refine lv_iconst (v := 0) hx hb dX6_byTurns_31 (by decide) ?_
        refine lv_bipush (v := 7) hx hb dX6_byTurns_32 (by decide) ?_
        refine cd_ci (cd_runS (As := [.int v5, .int (0 : Int32), .int (7 : Int32)]) (rest := []) (σ := σ) X wm_X6_22 (c_X6_within l g v5 (0 : Int32) (7 : Int32) σ _ hB _) hP hS rfl rfl hl.1 (Nat.le_of_ble_eq_true rfl) ⟨Nat.le_of_ble_eq_true rfl, Nat.le_of_ble_eq_true rfl⟩ ⟨Nat.zero_le _, Nat.zero_le _⟩ dX6_byTurns_34) hS (fun r_10 σ_11 H locs hB hP hS => ?_)
        obtain ⟨eσ_11, hB⟩ := hB
        rw [eσ_11] at hP
        refine lv_if_eq (tgt := 54) hx hb dX6_byTurns_37 (by decide) (fun c_12 => ?_) (fun c_12 => ?_)
        · have hB := hB.1 c_12
          refine lv_ldc (v := -1000003) hx hb hown (hts _ wc_X6_26) dX6_byTurns_54 ?_
          rw [hQm]
          exact W.iret hx hb hr (fun t ht hW => ⟨⟨(-1000003 : Int32), σ, rfl, hB, cd_hp ht hP⟩, hS.F ht⟩) hS.2.2 dX6_byTurns_56
        · have hB := hB.2 c_12
          refine lv_aload_n hx hb dX6_byTurns_40 rfl (lv_at hl 0 rfl) ?_
          refine lv_iload_n hx hb dX6_byTurns_41 rfl (lv_at hl 1 rfl) ?_
          refine lv_iload_n hx hb dX6_byTurns_42 rfl (lv_at hl 2 rfl) ?_
          refine lv_iload_n hx hb dX6_byTurns_43 rfl (lv_at hl 3 rfl) ?_
          refine lv_iload hx hb dX6_byTurns_44 (lv_at hl 4 rfl) ?_
          refine lv_iload hx hb dX6_byTurns_46 (lv_at hl 5 rfl) ?_
          refine cd_ci (cd_runV (As := [.int v1, .int v2, .int v3, .int v4, .int v5]) (rest := []) (σ := σ) (k := 19) (ci := 6) X wm_X6_169 (by decide) rfl rfl rfl (c_X6_turnsNow l g v1 v2 v3 v4 v5 σ _ hB _) hP hS rfl rfl hl.1 (Nat.le_of_ble_eq_true rfl) ⟨Nat.le_of_ble_eq_true rfl, Nat.le_of_ble_eq_true rfl⟩ ⟨Nat.zero_le _, Nat.zero_le _⟩ dX6_byTurns_48) hS (fun r_13 σ_14 H locs hB hP hS => ?_)
          refine lv_goto (tgt := 56) hx hb dX6_byTurns_51 (by decide) ?_
          rw [hQm]
          exact W.iret hx hb hr (fun t ht hW => ⟨⟨r_13, σ_14, rfl, hB, cd_hp ht hP⟩, hS.F ht⟩) hS.2.2 dX6_byTurns_56
    · have hB := hB.2 c_6
      refine lv_ldc (v := -1000002) hx hb hown (hts _ wc_X6_68) dX6_byTurns_16 ?_
      rw [hQm]
      exact W.iret hx hb hr (fun t ht hW => ⟨⟨(-1000002 : Int32), σ, rfl, hB, cd_hp ht hP⟩, hS.F ht⟩) hS.2.2 dX6_byTurns_18
def wp_X6_thrownAll  (σ : cdS) (Q : Int32 → Prop) : Prop :=
  ∀ (P4 : Int32 → Int32 → Prop),
    (∀ (x1 : Int32) (x2 : Int32), (
    (((σ.1 19 2) ≤ x2 →
    Q x1) ∧
    (¬ ((σ.1 19 2) ≤ x2) →
    wp_X6_thrownBy x2 σ (fun r_2 => 
    ∀ x1_4 : Int32, x1_4 = (x1 + r_2) →
    ∀ x2_5 : Int32, x2_5 = x2 + 1 →
    P4 x1_4 x2_5)))) → P4 x1 x2) →
    
    P4 (0 : Int32) (0 : Int32)
set_option maxHeartbeats 4000000 in
set_option maxRecDepth 100000 in
theorem c_X6_thrownAll (l : Launch) (g : cdG)  (σ : cdS) (Q : Int32 → Prop) (hwp : wp_X6_thrownAll  σ Q) : cdCi l g yX6_thrownAll cX6_thrownAll 3 (some .int) 1 23 [.ref (cdA g 19)] σ (fun r σ' => σ' = σ ∧ Q r) := by
  intro sz
  refine Met.ofW (cc := cX6_thrownAll) (maxL := 3) (ret := (some .int)) (by decide) rfl ?_
  intro p e s m args below meth c s₁ B hml hv
  obtain ⟨rfl, hsz, hP, hK, hdi, hV⟩ := hv
  subst hsz
  have hx := B.exec
  have hb := B.bytes
  have hr := B.returns
  have hlocks := B.notSynchronized
  have hown : s.vm.findClass RX6 = some m.cls := findClass_of_methodNamed B.named
  have hts : ∀ w ∈ cdL, w.before _ s = true := fun w hw => atoms_spec (ws := cdWs yX6_thrownAll cX6_thrownAll 3 (some .int)) B.pre w (List.mem_cons_of_mem _ hw)
  have X : cdX p s m _ c cX6_thrownAll 3 RX6 g := ⟨hx, hb, hml, hown, hts, hK, hdi, hV⟩
  have hS : va_S (cdZ g s.heap.size) s.heap s.heap [] := va_S.rf
  have hl := lv_entry ([.ref (cdA g 19)]) (n := 3) (Nat.le_of_ble_eq_true rfl)
  rw [lg_entry_eq]
  generalize (lg_sl ([.ref (cdA g 19)]) ++ List.replicate (3 - (lg_sl ([.ref (cdA g 19)])).length) Slot.unset).toArray = ls at hl ⊢
  have hl : lv_has ls 3 [(0, .ref (cdA g 19))] := hl
  obtain ⟨Qm, hQm⟩ : ∃ z, z = MQ below (va_Qi (fun r σ' => σ' = σ ∧ Q r) (fun σ' t => va_P (cdD g) vwCl (cdW g σ') t.heap) (cdZ g s.heap.size)) ([.ref (cdA g 19)] : List Value).toArray s 0 0 (cdZ g s.heap.size) := ⟨_, rfl⟩
  rw [← hQm]
  have hB := hwp (fun (x1 : Int32) (x2 : Int32) => cdCut p l e (headSpec (cdWs yX6_thrownAll cX6_thrownAll 3 (some .int)) (cdRm 1 23)).room s m ([.ref (cdA g 19)] : List Value).toArray below meth c Qm g 3 4 [(0, .ref (cdA g 19)), (1, .int x1), (2, .int x2)] [] σ)
    (by
    intro x1 x2 hB H locs ls hP hS hl
    refine lv_iload_n hx hb dX6_thrownAll_4 rfl (lv_at hl 2 rfl) ?_
    refine lv_aload_n hx hb dX6_thrownAll_5 rfl (lv_at hl 0 rfl) ?_
    refine cd_get X hP (C := RX6) (T := TX6) (N := 20) (ci := 6) (k := 19) (j := 2) (v := .int (σ.1 19 2)) inX6 (by decide) rfl rfl (by decide) wf_X6_59 rfl rfl dX6_thrownAll_6 ?_
    refine lv_icmp_ge (tgt := 26) hx hb dX6_thrownAll_9 (by decide) (fun c_1 => ?_) (fun c_1 => ?_)
    · have hB := hB.1 c_1
      refine lv_iload_n hx hb dX6_thrownAll_26 rfl (lv_at hl 1 rfl) ?_
      rw [hQm]
      exact W.iret hx hb hr (fun t ht hW => ⟨⟨x1, σ, rfl, ⟨rfl, hB⟩, cd_hp ht hP⟩, hS.F ht⟩) hS.2.2 dX6_thrownAll_27
    · have hB := hB.2 c_1
      refine lv_iload_n hx hb dX6_thrownAll_12 rfl (lv_at hl 1 rfl) ?_
      refine lv_aload_n hx hb dX6_thrownAll_13 rfl (lv_at hl 0 rfl) ?_
      refine lv_iload_n hx hb dX6_thrownAll_14 rfl (lv_at hl 2 rfl) ?_
      refine cd_ci (cd_runV (As := [.int x2]) (rest := [.int x1]) (σ := σ) (k := 19) (ci := 6) X wm_X6_86 (by decide) rfl rfl rfl (c_X6_thrownBy l g x2 σ _ hB _) hP hS rfl rfl hl.1 (Nat.le_of_ble_eq_true rfl) ⟨Nat.le_of_ble_eq_true rfl, Nat.le_of_ble_eq_true rfl⟩ ⟨Nat.zero_le _, Nat.zero_le _⟩ dX6_thrownAll_15) hS (fun r_2 σ_3 H locs hB hP hS => ?_)
      obtain ⟨eσ_3, hB⟩ := hB
      rw [eσ_3] at hP
      refine lv_iadd hx hb dX6_thrownAll_18 ?_
      refine lv_topi (fun x1_4 ex1_4 => ?_)
      have hB := hB x1_4 ex1_4
      refine lv_istore_n (lv' := [(1, .int x1_4), (0, .ref (cdA g 19)), (2, .int x2)]) hx hb dX6_thrownAll_19 rfl hl (by decide) rfl (fun ls hl => ?_)
      obtain ⟨x2_5, ex2_5⟩ : ∃ z : Int32, z = x2 + 1 := ⟨_, rfl⟩
      have hB := hB x2_5 ex2_5
      refine lv_iinc (v := x2_5) (lv' := [(2, .int x2_5), (1, .int x1_4), (0, .ref (cdA g 19))]) hx hb dX6_thrownAll_20 hl (k := 2) rfl (by rw [ex2_5]; rfl) (by decide) rfl (fun ls hl => ?_)
      refine lv_goto (tgt := 4) hx hb dX6_thrownAll_23 (by decide) ?_
      exact hB _ _ _ hP hS (lv_sub hl [2, 1, 0] rfl))
  refine lv_iconst (v := 0) hx hb dX6_thrownAll_0 (by decide) ?_
  refine lv_istore_n (lv' := [(1, .int (0 : Int32)), (0, .ref (cdA g 19))]) hx hb dX6_thrownAll_1 rfl hl (by decide) rfl (fun ls hl => ?_)
  refine lv_iconst (v := 0) hx hb dX6_thrownAll_2 (by decide) ?_
  refine lv_istore_n (lv' := [(2, .int (0 : Int32)), (1, .int (0 : Int32)), (0, .ref (cdA g 19))]) hx hb dX6_thrownAll_3 rfl hl (by decide) rfl (fun ls hl => ?_)
  exact hB _ _ _ hP hS (lv_sub hl [2, 1, 0] rfl)
def wp_X6_howMany (v1 : Int32) (σ : cdS) (Q : Int32 → Prop) : Prop :=
  
    ((v1 = (0 : Int32) →
    Q (σ.1 19 2)) ∧
    (¬ (v1 = (0 : Int32)) →
    ((v1 = (1 : Int32) →
    Q (σ.1 19 0)) ∧
    (¬ (v1 = (1 : Int32)) →
    ((v1 = (2 : Int32) →
    Q (σ.1 19 5)) ∧
    (¬ (v1 = (2 : Int32)) →
    ((v1 = (3 : Int32) →
    Q (σ.1 19 6)) ∧
    (¬ (v1 = (3 : Int32)) →
    ((v1 = (4 : Int32) →
    Q (σ.1 19 7)) ∧
    (¬ (v1 = (4 : Int32)) →
    ((v1 = (5 : Int32) →
    wp_X6_thrownAll σ (fun r_7 => 
    Q r_7)) ∧
    (¬ (v1 = (5 : Int32)) →
    Q (-1000003 : Int32)))))))))))))
set_option maxHeartbeats 4000000 in
set_option maxRecDepth 100000 in
theorem c_X6_howMany (l : Launch) (g : cdG) (v1 : Int32) (σ : cdS) (Q : Int32 → Prop) (hwp : wp_X6_howMany v1 σ Q) : cdCi l g yX6_howMany cX6_howMany 2 (some .int) 2 45 [.ref (cdA g 19), .int v1] σ (fun r σ' => σ' = σ ∧ Q r) := by
  intro sz
  refine Met.ofW (cc := cX6_howMany) (maxL := 2) (ret := (some .int)) (by decide) rfl ?_
  intro p e s m args below meth c s₁ B hml hv
  obtain ⟨rfl, hsz, hP, hK, hdi, hV⟩ := hv
  subst hsz
  have hx := B.exec
  have hb := B.bytes
  have hr := B.returns
  have hlocks := B.notSynchronized
  have hown : s.vm.findClass RX6 = some m.cls := findClass_of_methodNamed B.named
  have hts : ∀ w ∈ cdL, w.before _ s = true := fun w hw => atoms_spec (ws := cdWs yX6_howMany cX6_howMany 2 (some .int)) B.pre w (List.mem_cons_of_mem _ hw)
  have X : cdX p s m _ c cX6_howMany 2 RX6 g := ⟨hx, hb, hml, hown, hts, hK, hdi, hV⟩
  have hS : va_S (cdZ g s.heap.size) s.heap s.heap [] := va_S.rf
  have hl := lv_entry ([.ref (cdA g 19), .int v1]) (n := 2) (Nat.le_of_ble_eq_true rfl)
  rw [lg_entry_eq]
  generalize (lg_sl ([.ref (cdA g 19), .int v1]) ++ List.replicate (2 - (lg_sl ([.ref (cdA g 19), .int v1])).length) Slot.unset).toArray = ls at hl ⊢
  have hl : lv_has ls 2 [(0, .ref (cdA g 19)), (1, .int v1)] := hl
  obtain ⟨Qm, hQm⟩ : ∃ z, z = MQ below (va_Qi (fun r σ' => σ' = σ ∧ Q r) (fun σ' t => va_P (cdD g) vwCl (cdW g σ') t.heap) (cdZ g s.heap.size)) ([.ref (cdA g 19), .int v1] : List Value).toArray s 0 0 (cdZ g s.heap.size) := ⟨_, rfl⟩
  rw [← hQm]
  have hB := hwp
  refine lv_iload_n hx hb dX6_howMany_0 rfl (lv_at hl 1 rfl) ?_
  by_cases c_1 : v1 = (0 : Int32)
  · have hB := hB.1 c_1
    refine lv_tableIn (tgt := 40) hx hb dX6_howMany_1 (by rw [c_1]; decide) (by rw [c_1]; decide) (by rw [c_1]; rfl) (by decide) ?_
    refine lv_aload_n hx hb dX6_howMany_40 rfl (lv_at hl 0 rfl) ?_
    refine cd_get X hP (C := RX6) (T := TX6) (N := 20) (ci := 6) (k := 19) (j := 2) (v := .int (σ.1 19 2)) inX6 (by decide) rfl rfl (by decide) wf_X6_59 rfl rfl dX6_howMany_41 ?_
    rw [hQm]
    exact W.iret hx hb hr (fun t ht hW => ⟨⟨(σ.1 19 2), σ, rfl, ⟨rfl, hB⟩, cd_hp ht hP⟩, hS.F ht⟩) hS.2.2 dX6_howMany_44
  · have hB := hB.2 c_1
    by_cases c_2 : v1 = (1 : Int32)
    · have hB := hB.1 c_2
      refine lv_tableIn (tgt := 45) hx hb dX6_howMany_1 (by rw [c_2]; decide) (by rw [c_2]; decide) (by rw [c_2]; rfl) (by decide) ?_
      refine lv_aload_n hx hb dX6_howMany_45 rfl (lv_at hl 0 rfl) ?_
      refine cd_get X hP (C := RX6) (T := TX6) (N := 20) (ci := 6) (k := 19) (j := 0) (v := .int (σ.1 19 0)) inX6 (by decide) rfl rfl (by decide) wf_X6_27 rfl rfl dX6_howMany_46 ?_
      rw [hQm]
      exact W.iret hx hb hr (fun t ht hW => ⟨⟨(σ.1 19 0), σ, rfl, ⟨rfl, hB⟩, cd_hp ht hP⟩, hS.F ht⟩) hS.2.2 dX6_howMany_49
    · have hB := hB.2 c_2
      by_cases c_3 : v1 = (2 : Int32)
      · have hB := hB.1 c_3
        refine lv_tableIn (tgt := 50) hx hb dX6_howMany_1 (by rw [c_3]; decide) (by rw [c_3]; decide) (by rw [c_3]; rfl) (by decide) ?_
        refine lv_aload_n hx hb dX6_howMany_50 rfl (lv_at hl 0 rfl) ?_
        refine cd_get X hP (C := RX6) (T := TX6) (N := 20) (ci := 6) (k := 19) (j := 5) (v := .int (σ.1 19 5)) inX6 (by decide) rfl rfl (by decide) wf_X6_62 rfl rfl dX6_howMany_51 ?_
        rw [hQm]
        exact W.iret hx hb hr (fun t ht hW => ⟨⟨(σ.1 19 5), σ, rfl, ⟨rfl, hB⟩, cd_hp ht hP⟩, hS.F ht⟩) hS.2.2 dX6_howMany_54
      · have hB := hB.2 c_3
        by_cases c_4 : v1 = (3 : Int32)
        · have hB := hB.1 c_4
          refine lv_tableIn (tgt := 55) hx hb dX6_howMany_1 (by rw [c_4]; decide) (by rw [c_4]; decide) (by rw [c_4]; rfl) (by decide) ?_
          refine lv_aload_n hx hb dX6_howMany_55 rfl (lv_at hl 0 rfl) ?_
          refine cd_get X hP (C := RX6) (T := TX6) (N := 20) (ci := 6) (k := 19) (j := 6) (v := .int (σ.1 19 6)) inX6 (by decide) rfl rfl (by decide) wf_X6_83 rfl rfl dX6_howMany_56 ?_
          rw [hQm]
          exact W.iret hx hb hr (fun t ht hW => ⟨⟨(σ.1 19 6), σ, rfl, ⟨rfl, hB⟩, cd_hp ht hP⟩, hS.F ht⟩) hS.2.2 dX6_howMany_59
        · have hB := hB.2 c_4
          by_cases c_5 : v1 = (4 : Int32)
          · have hB := hB.1 c_5
            refine lv_tableIn (tgt := 60) hx hb dX6_howMany_1 (by rw [c_5]; decide) (by rw [c_5]; decide) (by rw [c_5]; rfl) (by decide) ?_
            refine lv_aload_n hx hb dX6_howMany_60 rfl (lv_at hl 0 rfl) ?_
            refine cd_get X hP (C := RX6) (T := TX6) (N := 20) (ci := 6) (k := 19) (j := 7) (v := .int (σ.1 19 7)) inX6 (by decide) rfl rfl (by decide) wf_X6_69 rfl rfl dX6_howMany_61 ?_
            rw [hQm]
            exact W.iret hx hb hr (fun t ht hW => ⟨⟨(σ.1 19 7), σ, rfl, ⟨rfl, hB⟩, cd_hp ht hP⟩, hS.F ht⟩) hS.2.2 dX6_howMany_64
          · have hB := hB.2 c_5
            by_cases c_6 : v1 = (5 : Int32)
            · have hB := hB.1 c_6
              refine lv_tableIn (tgt := 65) hx hb dX6_howMany_1 (by rw [c_6]; decide) (by rw [c_6]; decide) (by rw [c_6]; rfl) (by decide) ?_
              refine lv_aload_n hx hb dX6_howMany_65 rfl (lv_at hl 0 rfl) ?_
              refine cd_ci (cd_runV (As := []) (rest := []) (σ := σ) (k := 19) (ci := 6) X wm_X6_217 (by decide) rfl rfl rfl (c_X6_thrownAll l g  σ _ hB _) hP hS rfl rfl hl.1 (Nat.le_of_ble_eq_true rfl) ⟨Nat.le_of_ble_eq_true rfl, Nat.le_of_ble_eq_true rfl⟩ ⟨Nat.zero_le _, Nat.zero_le _⟩ dX6_howMany_66) hS (fun r_7 σ_8 H locs hB hP hS => ?_)
              obtain ⟨eσ_8, hB⟩ := hB
              rw [eσ_8] at hP
              rw [hQm]
              exact W.iret hx hb hr (fun t ht hW => ⟨⟨r_7, σ, rfl, ⟨rfl, hB⟩, cd_hp ht hP⟩, hS.F ht⟩) hS.2.2 dX6_howMany_69
            · have hB := hB.2 c_6
              have qc_1 := cd_ni (z := 0) (by decide) c_1
              have qc_2 := cd_ni (z := 1) (by decide) c_2
              have qc_3 := cd_ni (z := 2) (by decide) c_3
              have qc_4 := cd_ni (z := 3) (by decide) c_4
              have qc_5 := cd_ni (z := 4) (by decide) c_5
              have qc_6 := cd_ni (z := 5) (by decide) c_6
              refine lv_tableOut (tgt := 70) hx hb dX6_howMany_1 (by omega) (by decide) ?_
              refine lv_ldc (v := -1000003) hx hb hown (hts _ wc_X6_26) dX6_howMany_70 ?_
              rw [hQm]
              exact W.iret hx hb hr (fun t ht hW => ⟨⟨(-1000003 : Int32), σ, rfl, ⟨rfl, hB⟩, cd_hp ht hP⟩, hS.F ht⟩) hS.2.2 dX6_howMany_72
def wp_X6_count (v1 : Int32) (σ : cdS) (Q : Int32 → Prop) : Prop :=
  
    wp_X6_howMany v1 σ (fun r_1 => 
    Q r_1)
set_option maxHeartbeats 4000000 in
set_option maxRecDepth 100000 in
theorem c_X6_count (l : Launch) (g : cdG) (v1 : Int32) (σ : cdS) (Q : Int32 → Prop) (hwp : wp_X6_count v1 σ Q) : cdCi l g yX6_count cX6_count 2 (some .int) 3 66 [.ref (cdA g 19), .int v1] σ (fun r σ' => σ' = σ ∧ Q r) := by
  intro sz
  refine Met.ofW (cc := cX6_count) (maxL := 2) (ret := (some .int)) (by decide) rfl ?_
  intro p e s m args below meth c s₁ B hml hv
  obtain ⟨rfl, hsz, hP, hK, hdi, hV⟩ := hv
  subst hsz
  have hx := B.exec
  have hb := B.bytes
  have hr := B.returns
  have hlocks := B.notSynchronized
  have hown : s.vm.findClass RX6 = some m.cls := findClass_of_methodNamed B.named
  have hts : ∀ w ∈ cdL, w.before _ s = true := fun w hw => atoms_spec (ws := cdWs yX6_count cX6_count 2 (some .int)) B.pre w (List.mem_cons_of_mem _ hw)
  have X : cdX p s m _ c cX6_count 2 RX6 g := ⟨hx, hb, hml, hown, hts, hK, hdi, hV⟩
  have hS : va_S (cdZ g s.heap.size) s.heap s.heap [] := va_S.rf
  have hl := lv_entry ([.ref (cdA g 19), .int v1]) (n := 2) (Nat.le_of_ble_eq_true rfl)
  rw [lg_entry_eq]
  generalize (lg_sl ([.ref (cdA g 19), .int v1]) ++ List.replicate (2 - (lg_sl ([.ref (cdA g 19), .int v1])).length) Slot.unset).toArray = ls at hl ⊢
  have hl : lv_has ls 2 [(0, .ref (cdA g 19)), (1, .int v1)] := hl
  obtain ⟨Qm, hQm⟩ : ∃ z, z = MQ below (va_Qi (fun r σ' => σ' = σ ∧ Q r) (fun σ' t => va_P (cdD g) vwCl (cdW g σ') t.heap) (cdZ g s.heap.size)) ([.ref (cdA g 19), .int v1] : List Value).toArray s 0 0 (cdZ g s.heap.size) := ⟨_, rfl⟩
  rw [← hQm]
  have hB := hwp
  refine lv_aload_n hx hb dX6_count_0 rfl (lv_at hl 0 rfl) ?_
  refine lv_iload_n hx hb dX6_count_1 rfl (lv_at hl 1 rfl) ?_
  refine cd_ci (cd_runV (As := [.int v1]) (rest := []) (σ := σ) (k := 19) (ci := 6) X wm_X6_220 (by decide) rfl rfl rfl (c_X6_howMany l g v1 σ _ hB _) hP hS rfl rfl hl.1 (Nat.le_of_ble_eq_true rfl) ⟨Nat.le_of_ble_eq_true rfl, Nat.le_of_ble_eq_true rfl⟩ ⟨Nat.zero_le _, Nat.zero_le _⟩ dX6_count_2) hS (fun r_1 σ_2 H locs hB hP hS => ?_)
  obtain ⟨eσ_2, hB⟩ := hB
  rw [eσ_2] at hP
  rw [hQm]
  exact W.iret hx hb hr (fun t ht hW => ⟨⟨r_1, σ, rfl, ⟨rfl, hB⟩, cd_hp ht hP⟩, hS.F ht⟩) hS.2.2 dX6_count_5
def wp_X6_deepest (v1 : Int32) (σ : cdS) (Q : Int32 → Prop) : Prop :=
  ∀ (P4 : Int32 → Int32 → Prop) (P40 : Int32 → Int32 → Prop),
    (∀ (x2 : Int32) (x3 : Int32), (
    (((49 : Int32) ≤ x3 →
    Q x2) ∧
    (¬ ((49 : Int32) ≤ x3) →
    vp_in (((49 : Int32) * v1) + x3) 245 ∧
    (((σ.1 22 ((((49 : Int32) * v1) + x3)).toNatClampNeg) ≤ x2 →
    P40 x3 x2) ∧
    (¬ ((σ.1 22 ((((49 : Int32) * v1) + x3)).toNatClampNeg) ≤ x2) →
    vp_in (((49 : Int32) * v1) + x3) 245 ∧
    P40 x3 (σ.1 22 ((((49 : Int32) * v1) + x3)).toNatClampNeg)))))) → P4 x2 x3) →
    (∀ (x3 : Int32) (t0 : Int32), (
    ∀ x3_5 : Int32, x3_5 = x3 + 1 →
    P4 t0 x3_5) → P40 x3 t0) →
    
    P4 (0 : Int32) (0 : Int32)
set_option maxHeartbeats 4000000 in
set_option maxRecDepth 100000 in
theorem c_X6_deepest (l : Launch) (g : cdG) (v1 : Int32) (σ : cdS) (Q : Int32 → Prop) (hwp : wp_X6_deepest v1 σ Q) : cdCi l g yX6_deepest cX6_deepest 4 (some .int) 0 0 [.ref (cdA g 19), .int v1] σ (fun r σ' => σ' = σ ∧ Q r) := by
  intro sz
  refine Met.ofW (cc := cX6_deepest) (maxL := 4) (ret := (some .int)) (by decide) rfl ?_
  intro p e s m args below meth c s₁ B hml hv
  obtain ⟨rfl, hsz, hP, hK, hdi, hV⟩ := hv
  subst hsz
  have hx := B.exec
  have hb := B.bytes
  have hr := B.returns
  have hlocks := B.notSynchronized
  have hown : s.vm.findClass RX6 = some m.cls := findClass_of_methodNamed B.named
  have hts : ∀ w ∈ cdL, w.before _ s = true := fun w hw => atoms_spec (ws := cdWs yX6_deepest cX6_deepest 4 (some .int)) B.pre w (List.mem_cons_of_mem _ hw)
  have X : cdX p s m _ c cX6_deepest 4 RX6 g := ⟨hx, hb, hml, hown, hts, hK, hdi, hV⟩
  have hS : va_S (cdZ g s.heap.size) s.heap s.heap [] := va_S.rf
  have hl := lv_entry ([.ref (cdA g 19), .int v1]) (n := 4) (Nat.le_of_ble_eq_true rfl)
  rw [lg_entry_eq]
  generalize (lg_sl ([.ref (cdA g 19), .int v1]) ++ List.replicate (4 - (lg_sl ([.ref (cdA g 19), .int v1])).length) Slot.unset).toArray = ls at hl ⊢
  have hl : lv_has ls 4 [(0, .ref (cdA g 19)), (1, .int v1)] := hl
  obtain ⟨Qm, hQm⟩ : ∃ z, z = MQ below (va_Qi (fun r σ' => σ' = σ ∧ Q r) (fun σ' t => va_P (cdD g) vwCl (cdW g σ') t.heap) (cdZ g s.heap.size)) ([.ref (cdA g 19), .int v1] : List Value).toArray s 0 0 (cdZ g s.heap.size) := ⟨_, rfl⟩
  rw [← hQm]
  have hB := hwp (fun (x2 : Int32) (x3 : Int32) => cdCut p l e (headSpec (cdWs yX6_deepest cX6_deepest 4 (some .int)) (cdRm 0 0)).room s m ([.ref (cdA g 19), .int v1] : List Value).toArray below meth c Qm g 4 4 [(0, .ref (cdA g 19)), (1, .int v1), (2, .int x2), (3, .int x3)] [] σ)
    (fun (x3 : Int32) (t0 : Int32) => cdCut p l e (headSpec (cdWs yX6_deepest cX6_deepest 4 (some .int)) (cdRm 0 0)).room s m ([.ref (cdA g 19), .int v1] : List Value).toArray below meth c Qm g 4 40 [(0, .ref (cdA g 19)), (1, .int v1), (3, .int x3)] [.int t0] σ)
    (by
    intro x2 x3 hB H locs ls hP hS hl
    refine lv_iload_n hx hb dX6_deepest_4 rfl (lv_at hl 3 rfl) ?_
    refine lv_bipush (v := 49) hx hb dX6_deepest_5 (by decide) ?_
    refine lv_icmp_ge (tgt := 47) hx hb dX6_deepest_7 (by decide) (fun c_1 => ?_) (fun c_1 => ?_)
    · have hB := hB.1 c_1
      refine lv_iload_n hx hb dX6_deepest_47 rfl (lv_at hl 2 rfl) ?_
      rw [hQm]
      exact W.iret hx hb hr (fun t ht hW => ⟨⟨x2, σ, rfl, ⟨rfl, hB⟩, cd_hp ht hP⟩, hS.F ht⟩) hS.2.2 dX6_deepest_48
    · have hB := hB.2 c_1
      refine lv_aload_n hx hb dX6_deepest_10 rfl (lv_at hl 0 rfl) ?_
      refine cd_get X hP (C := RX6) (T := TX6) (N := 20) (ci := 6) (k := 19) (j := 4) (v := .ref (cdA g 22)) inX6 (by decide) rfl rfl (by decide) wf_X6_16 rfl rfl dX6_deepest_11 ?_
      refine lv_bipush (v := 49) hx hb dX6_deepest_14 (by decide) ?_
      refine lv_iload_n hx hb dX6_deepest_16 rfl (lv_at hl 1 rfl) ?_
      refine lv_imul hx hb dX6_deepest_17 ?_
      refine lv_iload_n hx hb dX6_deepest_18 rfl (lv_at hl 3 rfl) ?_
      refine lv_iadd hx hb dX6_deepest_19 ?_
      obtain ⟨i_2, hB⟩ := hB
      refine cd_ald X hP (k := 22) (N := 245) (by decide) rfl i_2 dX6_deepest_20 ?_
      refine lv_iload_n hx hb dX6_deepest_21 rfl (lv_at hl 2 rfl) ?_
      refine lv_icmp_le (tgt := 39) hx hb dX6_deepest_22 (by decide) (fun c_3 => ?_) (fun c_3 => ?_)
      · have hB := hB.1 c_3
        refine lv_iload_n hx hb dX6_deepest_39 rfl (lv_at hl 2 rfl) ?_
        exact hB _ _ _ hP hS (lv_sub hl [0, 1, 3] rfl)
      · have hB := hB.2 c_3
        refine lv_aload_n hx hb dX6_deepest_25 rfl (lv_at hl 0 rfl) ?_
        refine cd_get X hP (C := RX6) (T := TX6) (N := 20) (ci := 6) (k := 19) (j := 4) (v := .ref (cdA g 22)) inX6 (by decide) rfl rfl (by decide) wf_X6_16 rfl rfl dX6_deepest_26 ?_
        refine lv_bipush (v := 49) hx hb dX6_deepest_29 (by decide) ?_
        refine lv_iload_n hx hb dX6_deepest_31 rfl (lv_at hl 1 rfl) ?_
        refine lv_imul hx hb dX6_deepest_32 ?_
        refine lv_iload_n hx hb dX6_deepest_33 rfl (lv_at hl 3 rfl) ?_
        refine lv_iadd hx hb dX6_deepest_34 ?_
        obtain ⟨i_4, hB⟩ := hB
        refine cd_ald X hP (k := 22) (N := 245) (by decide) rfl i_4 dX6_deepest_35 ?_
        refine lv_goto (tgt := 40) hx hb dX6_deepest_36 (by decide) ?_
        exact hB _ _ _ hP hS (lv_sub hl [0, 1, 3] rfl))
    (by
    intro x3 t0 hB H locs ls hP hS hl
    refine lv_istore_n (lv' := [(2, .int t0), (0, .ref (cdA g 19)), (1, .int v1), (3, .int x3)]) hx hb dX6_deepest_40 rfl hl (by decide) rfl (fun ls hl => ?_)
    obtain ⟨x3_5, ex3_5⟩ : ∃ z : Int32, z = x3 + 1 := ⟨_, rfl⟩
    have hB := hB x3_5 ex3_5
    refine lv_iinc (v := x3_5) (lv' := [(3, .int x3_5), (2, .int t0), (0, .ref (cdA g 19)), (1, .int v1)]) hx hb dX6_deepest_41 hl (k := 3) rfl (by rw [ex3_5]; rfl) (by decide) rfl (fun ls hl => ?_)
    refine lv_goto (tgt := 4) hx hb dX6_deepest_44 (by decide) ?_
    exact hB _ _ _ hP hS (lv_sub hl [2, 3, 1, 0] rfl))
  refine lv_iconst (v := 0) hx hb dX6_deepest_0 (by decide) ?_
  refine lv_istore_n (lv' := [(2, .int (0 : Int32)), (0, .ref (cdA g 19)), (1, .int v1)]) hx hb dX6_deepest_1 rfl hl (by decide) rfl (fun ls hl => ?_)
  refine lv_iconst (v := 0) hx hb dX6_deepest_2 (by decide) ?_
  refine lv_istore_n (lv' := [(3, .int (0 : Int32)), (2, .int (0 : Int32)), (0, .ref (cdA g 19)), (1, .int v1)]) hx hb dX6_deepest_3 rfl hl (by decide) rfl (fun ls hl => ?_)
  exact hB _ _ _ hP hS (lv_sub hl [2, 3, 1, 0] rfl)
