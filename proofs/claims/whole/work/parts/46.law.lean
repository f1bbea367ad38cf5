/-! THE LAW: its sixteen cases. -/
def lwX (p : Program) (s : State) (m : MethodId) (c : Code) (b L : Nat) (xs : Nat → Int32) (g : cdG) : Prop :=
  cdX p s m #[Value.ref b] c cL_law 4 RL g ∧ va_X b L xs s s.heap ∧ b < s.heap.size ∧ ¬ cdZ g s.heap.size b ∧ L ≤ 4096
abbrev lwV (g : cdG) (b : Nat) (i : Int) : List (Nat × Value) := [(0, .ref b), (1, .ref (cdA g 0)), (2, .ref (cdA g 19)), (3, .int (jI i))]
def lwN (p : Program) (l : Launch) (e : Env) (s : State) (m : MethodId) (below : List Frame) (meth : Method) (c : Code) (b : Nat) (g : cdG) (Q : State → Prop) (i : Int) (pc : Nat) : Prop :=
  ∀ (σ : cdS) (H : Heap) (locs : List Loc) (ls : Array Slot), cdI2 σ → va_P (cdD g) vwCl (cdW g σ) H → va_S (cdZ g s.heap.size) s.heap H locs → lv_has ls 4 (lwV g b i) → W p l e room_1 s m #[Value.ref b] below meth c H locs 24 1956 Q (F0 m pc ls [])
theorem lw_i1 {i : Int} {L : Nat} (i0 : 0 ≤ i) (i8 : i + 8 ≤ L) (hL : L ≤ 4096) : vp_in (jI i + 1) L := by
  rw [jI_n, jI_add]
  exact (jI_in (by omega) (by omega)).mpr (by omega)
theorem lw_i2 {i : Int} {L : Nat} (i0 : 0 ≤ i) (i8 : i + 8 ≤ L) (hL : L ≤ 4096) : vp_in (jI i + 2) L := by
  rw [jI_n, jI_add]
  exact (jI_in (by omega) (by omega)).mpr (by omega)
theorem lw_i3 {i : Int} {L : Nat} (i0 : 0 ≤ i) (i8 : i + 8 ≤ L) (hL : L ≤ 4096) : vp_in (jI i + 3) L := by
  rw [jI_n, jI_add]
  exact (jI_in (by omega) (by omega)).mpr (by omega)
theorem lw_i4 {i : Int} {L : Nat} (i0 : 0 ≤ i) (i8 : i + 8 ≤ L) (hL : L ≤ 4096) : vp_in (jI i + 4) L := by
  rw [jI_n, jI_add]
  exact (jI_in (by omega) (by omega)).mpr (by omega)
theorem lw_i5 {i : Int} {L : Nat} (i0 : 0 ≤ i) (i8 : i + 8 ≤ L) (hL : L ≤ 4096) : vp_in (jI i + 5) L := by
  rw [jI_n, jI_add]
  exact (jI_in (by omega) (by omega)).mpr (by omega)
theorem lw_i6 {i : Int} {L : Nat} (i0 : 0 ≤ i) (i8 : i + 8 ≤ L) (hL : L ≤ 4096) : vp_in (jI i + 6) L := by
  rw [jI_n, jI_add]
  exact (jI_in (by omega) (by omega)).mpr (by omega)
theorem lw_i7 {i : Int} {L : Nat} (i0 : 0 ≤ i) (i8 : i + 8 ≤ L) (hL : L ≤ 4096) : vp_in (jI i + 7) L := by
  rw [jI_n, jI_add]
  exact (jI_in (by omega) (by omega)).mpr (by omega)
section LW
variable {p : Program} {l : Launch} {e : Env} {s : State} {m : MethodId} {below : List Frame} {meth : Method} {c : Code} {b L : Nat} {xs : Nat → Int32} {g : cdG} {Q : State → Prop} {i : Int}
theorem lw_bool {R : Room} {args : Array Value} {H : Heap} {locs : List Loc} {cells slots : Nat} {cc : ByteArray} {ls : Array Slot} {rest : List Value} {pc : Nat} {x : Int32} (hx : p.tables.exec = Jvm.exec) (hb : c.code = cc) (d1 : decode cc pc = .ok (.ifCond .eq 7, 3)) (d2 : decode cc (pc + 3) = .ok (.iconst 1, 1)) (d3 : decode cc (pc + 4) = .ok (.goto 4, 3)) (d4 : decode cc (pc + 7) = .ok (.iconst 0, 1)) (t1 : (pc : Int) + 7 = ((pc + 7 : Nat) : Int)) (t2 : ((pc + 4 : Nat) : Int) + 4 = ((pc + 8 : Nat) : Int))
    (kk : W p l e R s m args below meth c H locs cells slots Q (F0 m (pc + 8) ls (.int (if x = 0 then 0 else 1) :: rest))) : W p l e R s m args below meth c H locs cells slots Q (F0 m pc ls (.int x :: rest)) := by
  refine lv_if_eq (tgt := pc + 7) hx hb d1 t1 (fun k => ?_) (fun k => ?_)
  · rw [if_pos k] at kk
    exact lv_iconst (v := 0) hx hb d4 (by decide) kk
  · rw [if_neg k] at kk
    exact lv_iconst (v := 1) hx hb d2 (by decide) (lv_goto (tgt := pc + 8) hx hb d3 t2 kk)
set_option maxHeartbeats 1000000 in
set_option maxRecDepth 100000 in
theorem lw_c0 (Y : lwX p s m c b L xs g) (i0 : 0 ≤ i) (i8 : i + 8 ≤ L) (N : lwN p l e s m below meth c b g Q i 743) : lwN p l e s m below meth c b g Q i 112 := by
  obtain ⟨X, hX, hbl, hbA, hL⟩ := Y
  have hx := X.1
  have hb := X.2.1
  intro σ H locs ls J hP hS hl
  refine lv_aload_n hx hb dL_law_112 rfl (lv_at hl 1 rfl) ?_
  refine lv_aload_n hx hb dL_law_113 rfl (lv_at hl 0 rfl) ?_
  refine lv_iload_n hx hb dL_law_114 rfl (lv_at hl 3 rfl) ?_
  refine lv_iconst (v := 1) hx hb dL_law_115 (by decide) ?_
  refine lv_iadd hx hb dL_law_116 ?_
  refine va_sld hx hb hX hbl hbA hS (lw_i1 i0 i8 hL) dL_law_117 ?_
  have hB := b_letter J (xs (jI i + 1).toNatClampNeg)
  refine cd_ci (cd_runV (As := [.int (xs (jI i + 1).toNatClampNeg)]) (rest := []) (σ := σ) (k := 0) (ci := 5) X wm_L_13 (by decide) rfl rfl rfl (c_X5_letter l g (xs (jI i + 1).toNatClampNeg) σ _ hB _) hP hS rfl rfl hl.1 (Nat.le_of_ble_eq_true rfl) ⟨Nat.le_of_ble_eq_true rfl, Nat.le_of_ble_eq_true rfl⟩ ⟨Nat.le_of_ble_eq_true rfl, Nat.le_of_ble_eq_true rfl⟩ dL_law_118) hS (fun r1 σ1 H1 locs1 hB1 hP1 hS1 => ?_)
  refine lv_aload_n hx hb dL_law_121 rfl (lv_at hl 2 rfl) ?_
  refine lv_aload_n hx hb dL_law_122 rfl (lv_at hl 0 rfl) ?_
  refine lv_iload_n hx hb dL_law_123 rfl (lv_at hl 3 rfl) ?_
  refine lv_iconst (v := 1) hx hb dL_law_124 (by decide) ?_
  refine lv_iadd hx hb dL_law_125 ?_
  refine va_sld hx hb hX hbl hbA hS1 (lw_i1 i0 i8 hL) dL_law_126 ?_
  refine cd_ci (cd_runV (As := [.int (xs (jI i + 1).toNatClampNeg)]) (rest := [.int r1]) (σ := σ1) (k := 19) (ci := 6) X wm_L_17 (by decide) rfl rfl rfl (c_X6_letter l g (xs (jI i + 1).toNatClampNeg) σ1 _ hB1 _) hP1 hS1 rfl rfl hl.1 (Nat.le_of_ble_eq_true rfl) ⟨Nat.le_of_ble_eq_true rfl, Nat.le_of_ble_eq_true rfl⟩ ⟨Nat.le_of_ble_eq_true rfl, Nat.le_of_ble_eq_true rfl⟩ dL_law_127) hS1 (fun r2 σ2 H2 locs2 hB2 hP2 hS2 => ?_)
  exact lv_icmp_eq (tgt := 743) hx hb dL_law_130 (by decide) (fun _ => N σ2 H2 locs2 ls hB2.2 hP2 hS2 hl) (fun k => absurd hB2.1.symm k)
set_option maxHeartbeats 1000000 in
set_option maxRecDepth 100000 in
theorem lw_c1 (Y : lwX p s m c b L xs g) (i0 : 0 ≤ i) (i8 : i + 8 ≤ L) (N : lwN p l e s m below meth c b g Q i 743) : lwN p l e s m below meth c b g Q i 135 := by
  obtain ⟨X, hX, hbl, hbA, hL⟩ := Y
  have hx := X.1
  have hb := X.2.1
  intro σ H locs ls J hP hS hl
  refine lv_aload_n hx hb dL_law_135 rfl (lv_at hl 1 rfl) ?_
  have hB := b_blank J 
  refine cd_ci (cd_runV (As := []) (rest := []) (σ := σ) (k := 0) (ci := 5) X wm_L_18 (by decide) rfl rfl rfl (c_X5_blank l g  σ _ hB _) hP hS rfl rfl hl.1 (Nat.le_of_ble_eq_true rfl) ⟨Nat.le_of_ble_eq_true rfl, Nat.le_of_ble_eq_true rfl⟩ ⟨Nat.le_of_ble_eq_true rfl, Nat.le_of_ble_eq_true rfl⟩ dL_law_136) hS (fun r1 σ1 H1 locs1 hB1 hP1 hS1 => ?_)
  refine lv_aload_n hx hb dL_law_139 rfl (lv_at hl 2 rfl) ?_
  refine cd_ci (cd_runV (As := []) (rest := [.int r1]) (σ := σ1) (k := 19) (ci := 6) X wm_L_22 (by decide) rfl rfl rfl (c_X6_blank l g  σ1 _ hB1 _) hP1 hS1 rfl rfl hl.1 (Nat.le_of_ble_eq_true rfl) ⟨Nat.le_of_ble_eq_true rfl, Nat.le_of_ble_eq_true rfl⟩ ⟨Nat.le_of_ble_eq_true rfl, Nat.le_of_ble_eq_true rfl⟩ dL_law_140) hS1 (fun r2 σ2 H2 locs2 hB2 hP2 hS2 => ?_)
  exact lv_icmp_eq (tgt := 743) hx hb dL_law_143 (by decide) (fun _ => N σ2 H2 locs2 ls hB2.2 hP2 hS2 hl) (fun k => absurd hB2.1.symm k)
set_option maxHeartbeats 1000000 in
set_option maxRecDepth 100000 in
theorem lw_c2 (Y : lwX p s m c b L xs g) (i0 : 0 ≤ i) (i8 : i + 8 ≤ L) (N : lwN p l e s m below meth c b g Q i 743) : lwN p l e s m below meth c b g Q i 148 := by
  obtain ⟨X, hX, hbl, hbA, hL⟩ := Y
  have hx := X.1
  have hb := X.2.1
  intro σ H locs ls J hP hS hl
  refine lv_aload_n hx hb dL_law_148 rfl (lv_at hl 1 rfl) ?_
  have hB := b_fault J 
  refine cd_ci (cd_runV (As := []) (rest := []) (σ := σ) (k := 0) (ci := 5) X wm_L_23 (by decide) rfl rfl rfl (c_X5_fault l g  σ _ hB _) hP hS rfl rfl hl.1 (Nat.le_of_ble_eq_true rfl) ⟨Nat.le_of_ble_eq_true rfl, Nat.le_of_ble_eq_true rfl⟩ ⟨Nat.le_of_ble_eq_true rfl, Nat.le_of_ble_eq_true rfl⟩ dL_law_149) hS (fun r1 σ1 H1 locs1 hB1 hP1 hS1 => ?_)
  obtain ⟨es, hB3⟩ := hB1
  rw [es] at hP1
  refine lv_aload_n hx hb dL_law_152 rfl (lv_at hl 2 rfl) ?_
  refine cd_ci (cd_runV (As := []) (rest := [.int r1]) (σ := σ) (k := 19) (ci := 6) X wm_L_26 (by decide) rfl rfl rfl (c_X6_fault l g  σ _ hB3 _) hP1 hS1 rfl rfl hl.1 (Nat.le_of_ble_eq_true rfl) ⟨Nat.le_of_ble_eq_true rfl, Nat.le_of_ble_eq_true rfl⟩ ⟨Nat.le_of_ble_eq_true rfl, Nat.le_of_ble_eq_true rfl⟩ dL_law_153) hS1 (fun r2 σ2 H2 locs2 hB2 hP2 hS2 => ?_)
  exact lv_icmp_eq (tgt := 743) hx hb dL_law_156 (by decide) (fun _ => N σ2 H2 locs2 ls hB2.2 hP2 hS2 hl) (fun k => absurd hB2.1.symm k)
set_option maxHeartbeats 1000000 in
set_option maxRecDepth 100000 in
theorem lw_c3 (Y : lwX p s m c b L xs g) (i0 : 0 ≤ i) (i8 : i + 8 ≤ L) (N : lwN p l e s m below meth c b g Q i 743) : lwN p l e s m below meth c b g Q i 161 := by
  obtain ⟨X, hX, hbl, hbA, hL⟩ := Y
  have hx := X.1
  have hb := X.2.1
  intro σ H locs ls J hP hS hl
  refine lv_aload_n hx hb dL_law_161 rfl (lv_at hl 1 rfl) ?_
  have hB := b_take J 
  refine cd_ci (cd_runV (As := []) (rest := []) (σ := σ) (k := 0) (ci := 5) X wm_L_27 (by decide) rfl rfl rfl (c_X5_take l g  σ _ hB _) hP hS rfl rfl hl.1 (Nat.le_of_ble_eq_true rfl) ⟨Nat.le_of_ble_eq_true rfl, Nat.le_of_ble_eq_true rfl⟩ ⟨Nat.le_of_ble_eq_true rfl, Nat.le_of_ble_eq_true rfl⟩ dL_law_162) hS (fun r1 σ1 H1 locs1 hB1 hP1 hS1 => ?_)
  refine lv_aload_n hx hb dL_law_165 rfl (lv_at hl 2 rfl) ?_
  refine cd_ci (cd_runV (As := []) (rest := [.int r1]) (σ := σ1) (k := 19) (ci := 6) X wm_L_30 (by decide) rfl rfl rfl (c_X6_take l g  σ1 _ hB1 _) hP1 hS1 rfl rfl hl.1 (Nat.le_of_ble_eq_true rfl) ⟨Nat.le_of_ble_eq_true rfl, Nat.le_of_ble_eq_true rfl⟩ ⟨Nat.le_of_ble_eq_true rfl, Nat.le_of_ble_eq_true rfl⟩ dL_law_166) hS1 (fun r2 σ2 H2 locs2 hB2 hP2 hS2 => ?_)
  exact lv_icmp_eq (tgt := 743) hx hb dL_law_169 (by decide) (fun _ => N σ2 H2 locs2 ls hB2.2 hP2 hS2 hl) (fun k => absurd hB2.1.symm k)
set_option maxHeartbeats 1000000 in
set_option maxRecDepth 100000 in
theorem lw_c4 (Y : lwX p s m c b L xs g) (i0 : 0 ≤ i) (i8 : i + 8 ≤ L) (N : lwN p l e s m below meth c b g Q i 743) : lwN p l e s m below meth c b g Q i 174 := by
  obtain ⟨X, hX, hbl, hbA, hL⟩ := Y
  have hx := X.1
  have hb := X.2.1
  intro σ H locs ls J hP hS hl
  refine lv_aload_n hx hb dL_law_174 rfl (lv_at hl 1 rfl) ?_
  refine lv_aload_n hx hb dL_law_175 rfl (lv_at hl 0 rfl) ?_
  refine lv_iload_n hx hb dL_law_176 rfl (lv_at hl 3 rfl) ?_
  refine lv_iconst (v := 1) hx hb dL_law_177 (by decide) ?_
  refine lv_iadd hx hb dL_law_178 ?_
  refine va_sld hx hb hX hbl hbA hS (lw_i1 i0 i8 hL) dL_law_179 ?_
  have hB := b_drop J (xs (jI i + 1).toNatClampNeg)
  refine cd_ci (cd_runV (As := [.int (xs (jI i + 1).toNatClampNeg)]) (rest := []) (σ := σ) (k := 0) (ci := 5) X wm_L_31 (by decide) rfl rfl rfl (c_X5_drop l g (xs (jI i + 1).toNatClampNeg) σ _ hB _) hP hS rfl rfl hl.1 (Nat.le_of_ble_eq_true rfl) ⟨Nat.le_of_ble_eq_true rfl, Nat.le_of_ble_eq_true rfl⟩ ⟨Nat.le_of_ble_eq_true rfl, Nat.le_of_ble_eq_true rfl⟩ dL_law_180) hS (fun r1 σ1 H1 locs1 hB1 hP1 hS1 => ?_)
  refine lv_aload_n hx hb dL_law_183 rfl (lv_at hl 2 rfl) ?_
  refine lv_aload_n hx hb dL_law_184 rfl (lv_at hl 0 rfl) ?_
  refine lv_iload_n hx hb dL_law_185 rfl (lv_at hl 3 rfl) ?_
  refine lv_iconst (v := 1) hx hb dL_law_186 (by decide) ?_
  refine lv_iadd hx hb dL_law_187 ?_
  refine va_sld hx hb hX hbl hbA hS1 (lw_i1 i0 i8 hL) dL_law_188 ?_
  refine cd_ci (cd_runV (As := [.int (xs (jI i + 1).toNatClampNeg)]) (rest := [.int r1]) (σ := σ1) (k := 19) (ci := 6) X wm_L_34 (by decide) rfl rfl rfl (c_X6_drop l g (xs (jI i + 1).toNatClampNeg) σ1 _ hB1 _) hP1 hS1 rfl rfl hl.1 (Nat.le_of_ble_eq_true rfl) ⟨Nat.le_of_ble_eq_true rfl, Nat.le_of_ble_eq_true rfl⟩ ⟨Nat.le_of_ble_eq_true rfl, Nat.le_of_ble_eq_true rfl⟩ dL_law_189) hS1 (fun r2 σ2 H2 locs2 hB2 hP2 hS2 => ?_)
  exact lv_icmp_eq (tgt := 743) hx hb dL_law_192 (by decide) (fun _ => N σ2 H2 locs2 ls hB2.2 hP2 hS2 hl) (fun k => absurd hB2.1.symm k)
set_option maxHeartbeats 1000000 in
set_option maxRecDepth 100000 in
theorem lw_c5 (Y : lwX p s m c b L xs g) (i0 : 0 ≤ i) (i8 : i + 8 ≤ L) (N : lwN p l e s m below meth c b g Q i 743) : lwN p l e s m below meth c b g Q i 197 := by
  obtain ⟨X, hX, hbl, hbA, hL⟩ := Y
  have hx := X.1
  have hb := X.2.1
  intro σ H locs ls J hP hS hl
  refine lv_aload_n hx hb dL_law_197 rfl (lv_at hl 1 rfl) ?_
  refine lv_aload_n hx hb dL_law_198 rfl (lv_at hl 0 rfl) ?_
  refine lv_iload_n hx hb dL_law_199 rfl (lv_at hl 3 rfl) ?_
  refine lv_iconst (v := 1) hx hb dL_law_200 (by decide) ?_
  refine lv_iadd hx hb dL_law_201 ?_
  refine va_sld hx hb hX hbl hbA hS (lw_i1 i0 i8 hL) dL_law_202 ?_
  refine lv_aload_n hx hb dL_law_203 rfl (lv_at hl 0 rfl) ?_
  refine lv_iload_n hx hb dL_law_204 rfl (lv_at hl 3 rfl) ?_
  refine lv_iconst (v := 2) hx hb dL_law_205 (by decide) ?_
  refine lv_iadd hx hb dL_law_206 ?_
  refine va_sld hx hb hX hbl hbA hS (lw_i2 i0 i8 hL) dL_law_207 ?_
  refine lv_aload_n hx hb dL_law_208 rfl (lv_at hl 0 rfl) ?_
  refine lv_iload_n hx hb dL_law_209 rfl (lv_at hl 3 rfl) ?_
  refine lv_iconst (v := 3) hx hb dL_law_210 (by decide) ?_
  refine lv_iadd hx hb dL_law_211 ?_
  refine va_sld hx hb hX hbl hbA hS (lw_i3 i0 i8 hL) dL_law_212 ?_
  refine lw_bool hx hb dL_law_213 dL_law_216 dL_law_217 dL_law_220 (by decide) (by decide) ?_
  have hB := b_turn J (xs (jI i + 1).toNatClampNeg) (xs (jI i + 2).toNatClampNeg) (if xs (jI i + 3).toNatClampNeg = 0 then 0 else 1)
  refine cd_ci (cd_runV (As := [.int (xs (jI i + 1).toNatClampNeg), .int (xs (jI i + 2).toNatClampNeg), .int (if xs (jI i + 3).toNatClampNeg = 0 then 0 else 1)]) (rest := []) (σ := σ) (k := 0) (ci := 5) X wm_L_35 (by decide) rfl rfl rfl (c_X5_turn l g (xs (jI i + 1).toNatClampNeg) (xs (jI i + 2).toNatClampNeg) (if xs (jI i + 3).toNatClampNeg = 0 then 0 else 1) σ _ hB _) hP hS rfl rfl hl.1 (Nat.le_of_ble_eq_true rfl) ⟨Nat.le_of_ble_eq_true rfl, Nat.le_of_ble_eq_true rfl⟩ ⟨Nat.le_of_ble_eq_true rfl, Nat.le_of_ble_eq_true rfl⟩ dL_law_221) hS (fun r1 σ1 H1 locs1 hB1 hP1 hS1 => ?_)
  refine lv_aload_n hx hb dL_law_224 rfl (lv_at hl 2 rfl) ?_
  refine lv_aload_n hx hb dL_law_225 rfl (lv_at hl 0 rfl) ?_
  refine lv_iload_n hx hb dL_law_226 rfl (lv_at hl 3 rfl) ?_
  refine lv_iconst (v := 1) hx hb dL_law_227 (by decide) ?_
  refine lv_iadd hx hb dL_law_228 ?_
  refine va_sld hx hb hX hbl hbA hS1 (lw_i1 i0 i8 hL) dL_law_229 ?_
  refine lv_aload_n hx hb dL_law_230 rfl (lv_at hl 0 rfl) ?_
  refine lv_iload_n hx hb dL_law_231 rfl (lv_at hl 3 rfl) ?_
  refine lv_iconst (v := 2) hx hb dL_law_232 (by decide) ?_
  refine lv_iadd hx hb dL_law_233 ?_
  refine va_sld hx hb hX hbl hbA hS1 (lw_i2 i0 i8 hL) dL_law_234 ?_
  refine lv_aload_n hx hb dL_law_235 rfl (lv_at hl 0 rfl) ?_
  refine lv_iload_n hx hb dL_law_236 rfl (lv_at hl 3 rfl) ?_
  refine lv_iconst (v := 3) hx hb dL_law_237 (by decide) ?_
  refine lv_iadd hx hb dL_law_238 ?_
  refine va_sld hx hb hX hbl hbA hS1 (lw_i3 i0 i8 hL) dL_law_239 ?_
  refine lw_bool hx hb dL_law_240 dL_law_243 dL_law_244 dL_law_247 (by decide) (by decide) ?_
  refine cd_ci (cd_runV (As := [.int (xs (jI i + 1).toNatClampNeg), .int (xs (jI i + 2).toNatClampNeg), .int (if xs (jI i + 3).toNatClampNeg = 0 then 0 else 1)]) (rest := [.int r1]) (σ := σ1) (k := 19) (ci := 6) X wm_L_39 (by decide) rfl rfl rfl (c_X6_turn l g (xs (jI i + 1).toNatClampNeg) (xs (jI i + 2).toNatClampNeg) (if xs (jI i + 3).toNatClampNeg = 0 then 0 else 1) σ1 _ hB1 _) hP1 hS1 rfl rfl hl.1 (Nat.le_of_ble_eq_true rfl) ⟨Nat.le_of_ble_eq_true rfl, Nat.le_of_ble_eq_true rfl⟩ ⟨Nat.le_of_ble_eq_true rfl, Nat.le_of_ble_eq_true rfl⟩ dL_law_248) hS1 (fun r2 σ2 H2 locs2 hB2 hP2 hS2 => ?_)
  exact lv_icmp_eq (tgt := 743) hx hb dL_law_251 (by decide) (fun _ => N σ2 H2 locs2 ls hB2.2 hP2 hS2 hl) (fun k => absurd hB2.1.symm k)
set_option maxHeartbeats 1000000 in
set_option maxRecDepth 100000 in
theorem lw_c6 (Y : lwX p s m c b L xs g) (i0 : 0 ≤ i) (i8 : i + 8 ≤ L) (N : lwN p l e s m below meth c b g Q i 743) : lwN p l e s m below meth c b g Q i 256 := by
  obtain ⟨X, hX, hbl, hbA, hL⟩ := Y
  have hx := X.1
  have hb := X.2.1
  intro σ H locs ls J hP hS hl
  refine lv_aload_n hx hb dL_law_256 rfl (lv_at hl 1 rfl) ?_
  refine lv_aload_n hx hb dL_law_257 rfl (lv_at hl 0 rfl) ?_
  refine lv_iload_n hx hb dL_law_258 rfl (lv_at hl 3 rfl) ?_
  refine lv_iconst (v := 1) hx hb dL_law_259 (by decide) ?_
  refine lv_iadd hx hb dL_law_260 ?_
  refine va_sld hx hb hX hbl hbA hS (lw_i1 i0 i8 hL) dL_law_261 ?_
  refine lv_aload_n hx hb dL_law_262 rfl (lv_at hl 0 rfl) ?_
  refine lv_iload_n hx hb dL_law_263 rfl (lv_at hl 3 rfl) ?_
  refine lv_iconst (v := 2) hx hb dL_law_264 (by decide) ?_
  refine lv_iadd hx hb dL_law_265 ?_
  refine va_sld hx hb hX hbl hbA hS (lw_i2 i0 i8 hL) dL_law_266 ?_
  refine lv_aload_n hx hb dL_law_267 rfl (lv_at hl 0 rfl) ?_
  refine lv_iload_n hx hb dL_law_268 rfl (lv_at hl 3 rfl) ?_
  refine lv_iconst (v := 3) hx hb dL_law_269 (by decide) ?_
  refine lv_iadd hx hb dL_law_270 ?_
  refine va_sld hx hb hX hbl hbA hS (lw_i3 i0 i8 hL) dL_law_271 ?_
  have hB := b_bend J (xs (jI i + 1).toNatClampNeg) (xs (jI i + 2).toNatClampNeg) (xs (jI i + 3).toNatClampNeg)
  refine cd_ci (cd_runV (As := [.int (xs (jI i + 1).toNatClampNeg), .int (xs (jI i + 2).toNatClampNeg), .int (xs (jI i + 3).toNatClampNeg)]) (rest := []) (σ := σ) (k := 0) (ci := 5) X wm_L_40 (by decide) rfl rfl rfl (c_X5_bend l g (xs (jI i + 1).toNatClampNeg) (xs (jI i + 2).toNatClampNeg) (xs (jI i + 3).toNatClampNeg) σ _ hB _) hP hS rfl rfl hl.1 (Nat.le_of_ble_eq_true rfl) ⟨Nat.le_of_ble_eq_true rfl, Nat.le_of_ble_eq_true rfl⟩ ⟨Nat.le_of_ble_eq_true rfl, Nat.le_of_ble_eq_true rfl⟩ dL_law_272) hS (fun r1 σ1 H1 locs1 hB1 hP1 hS1 => ?_)
  refine lv_aload_n hx hb dL_law_275 rfl (lv_at hl 2 rfl) ?_
  refine lv_aload_n hx hb dL_law_276 rfl (lv_at hl 0 rfl) ?_
  refine lv_iload_n hx hb dL_law_277 rfl (lv_at hl 3 rfl) ?_
  refine lv_iconst (v := 1) hx hb dL_law_278 (by decide) ?_
  refine lv_iadd hx hb dL_law_279 ?_
  refine va_sld hx hb hX hbl hbA hS1 (lw_i1 i0 i8 hL) dL_law_280 ?_
  refine lv_aload_n hx hb dL_law_281 rfl (lv_at hl 0 rfl) ?_
  refine lv_iload_n hx hb dL_law_282 rfl (lv_at hl 3 rfl) ?_
  refine lv_iconst (v := 2) hx hb dL_law_283 (by decide) ?_
  refine lv_iadd hx hb dL_law_284 ?_
  refine va_sld hx hb hX hbl hbA hS1 (lw_i2 i0 i8 hL) dL_law_285 ?_
  refine lv_aload_n hx hb dL_law_286 rfl (lv_at hl 0 rfl) ?_
  refine lv_iload_n hx hb dL_law_287 rfl (lv_at hl 3 rfl) ?_
  refine lv_iconst (v := 3) hx hb dL_law_288 (by decide) ?_
  refine lv_iadd hx hb dL_law_289 ?_
  refine va_sld hx hb hX hbl hbA hS1 (lw_i3 i0 i8 hL) dL_law_290 ?_
  refine cd_ci (cd_runV (As := [.int (xs (jI i + 1).toNatClampNeg), .int (xs (jI i + 2).toNatClampNeg), .int (xs (jI i + 3).toNatClampNeg)]) (rest := [.int r1]) (σ := σ1) (k := 19) (ci := 6) X wm_L_44 (by decide) rfl rfl rfl (c_X6_bend l g (xs (jI i + 1).toNatClampNeg) (xs (jI i + 2).toNatClampNeg) (xs (jI i + 3).toNatClampNeg) σ1 _ hB1 _) hP1 hS1 rfl rfl hl.1 (Nat.le_of_ble_eq_true rfl) ⟨Nat.le_of_ble_eq_true rfl, Nat.le_of_ble_eq_true rfl⟩ ⟨Nat.le_of_ble_eq_true rfl, Nat.le_of_ble_eq_true rfl⟩ dL_law_291) hS1 (fun r2 σ2 H2 locs2 hB2 hP2 hS2 => ?_)
  exact lv_icmp_eq (tgt := 743) hx hb dL_law_294 (by decide) (fun _ => N σ2 H2 locs2 ls hB2.2 hP2 hS2 hl) (fun k => absurd hB2.1.symm k)
set_option maxHeartbeats 1000000 in
set_option maxRecDepth 100000 in
theorem lw_c7 (Y : lwX p s m c b L xs g) (i0 : 0 ≤ i) (i8 : i + 8 ≤ L) (N : lwN p l e s m below meth c b g Q i 743) : lwN p l e s m below meth c b g Q i 299 := by
  obtain ⟨X, hX, hbl, hbA, hL⟩ := Y
  have hx := X.1
  have hb := X.2.1
  intro σ H locs ls J hP hS hl
  refine lv_aload_n hx hb dL_law_299 rfl (lv_at hl 1 rfl) ?_
  refine lv_aload_n hx hb dL_law_300 rfl (lv_at hl 0 rfl) ?_
  refine lv_iload_n hx hb dL_law_301 rfl (lv_at hl 3 rfl) ?_
  refine lv_iconst (v := 1) hx hb dL_law_302 (by decide) ?_
  refine lv_iadd hx hb dL_law_303 ?_
  refine va_sld hx hb hX hbl hbA hS (lw_i1 i0 i8 hL) dL_law_304 ?_
  refine lv_aload_n hx hb dL_law_305 rfl (lv_at hl 0 rfl) ?_
  refine lv_iload_n hx hb dL_law_306 rfl (lv_at hl 3 rfl) ?_
  refine lv_iconst (v := 2) hx hb dL_law_307 (by decide) ?_
  refine lv_iadd hx hb dL_law_308 ?_
  refine va_sld hx hb hX hbl hbA hS (lw_i2 i0 i8 hL) dL_law_309 ?_
  have hB := b_head J (xs (jI i + 1).toNatClampNeg) (xs (jI i + 2).toNatClampNeg)
  refine cd_ci (cd_runV (As := [.int (xs (jI i + 1).toNatClampNeg), .int (xs (jI i + 2).toNatClampNeg)]) (rest := []) (σ := σ) (k := 0) (ci := 5) X wm_L_45 (by decide) rfl rfl rfl (c_X5_head l g (xs (jI i + 1).toNatClampNeg) (xs (jI i + 2).toNatClampNeg) σ _ hB _) hP hS rfl rfl hl.1 (Nat.le_of_ble_eq_true rfl) ⟨Nat.le_of_ble_eq_true rfl, Nat.le_of_ble_eq_true rfl⟩ ⟨Nat.le_of_ble_eq_true rfl, Nat.le_of_ble_eq_true rfl⟩ dL_law_310) hS (fun r1 σ1 H1 locs1 hB1 hP1 hS1 => ?_)
  obtain ⟨es, hB3⟩ := hB1
  rw [es] at hP1
  refine lv_aload_n hx hb dL_law_313 rfl (lv_at hl 2 rfl) ?_
  refine lv_aload_n hx hb dL_law_314 rfl (lv_at hl 0 rfl) ?_
  refine lv_iload_n hx hb dL_law_315 rfl (lv_at hl 3 rfl) ?_
  refine lv_iconst (v := 1) hx hb dL_law_316 (by decide) ?_
  refine lv_iadd hx hb dL_law_317 ?_
  refine va_sld hx hb hX hbl hbA hS1 (lw_i1 i0 i8 hL) dL_law_318 ?_
  refine lv_aload_n hx hb dL_law_319 rfl (lv_at hl 0 rfl) ?_
  refine lv_iload_n hx hb dL_law_320 rfl (lv_at hl 3 rfl) ?_
  refine lv_iconst (v := 2) hx hb dL_law_321 (by decide) ?_
  refine lv_iadd hx hb dL_law_322 ?_
  refine va_sld hx hb hX hbl hbA hS1 (lw_i2 i0 i8 hL) dL_law_323 ?_
  refine cd_ci (cd_runV (As := [.int (xs (jI i + 1).toNatClampNeg), .int (xs (jI i + 2).toNatClampNeg)]) (rest := [.int r1]) (σ := σ) (k := 19) (ci := 6) X wm_L_49 (by decide) rfl rfl rfl (c_X6_head l g (xs (jI i + 1).toNatClampNeg) (xs (jI i + 2).toNatClampNeg) σ _ hB3 _) hP1 hS1 rfl rfl hl.1 (Nat.le_of_ble_eq_true rfl) ⟨Nat.le_of_ble_eq_true rfl, Nat.le_of_ble_eq_true rfl⟩ ⟨Nat.le_of_ble_eq_true rfl, Nat.le_of_ble_eq_true rfl⟩ dL_law_324) hS1 (fun r2 σ2 H2 locs2 hB2 hP2 hS2 => ?_)
  obtain ⟨es2, hB4⟩ := hB2
  rw [es2] at hP2
  exact lv_icmp_eq (tgt := 743) hx hb dL_law_327 (by decide) (fun _ => N σ H2 locs2 ls J hP2 hS2 hl) (fun k => absurd hB4.symm k)
set_option maxHeartbeats 1000000 in
set_option maxRecDepth 100000 in
theorem lw_c8 (Y : lwX p s m c b L xs g) (i0 : 0 ≤ i) (i8 : i + 8 ≤ L) (N : lwN p l e s m below meth c b g Q i 743) : lwN p l e s m below meth c b g Q i 332 := by
  obtain ⟨X, hX, hbl, hbA, hL⟩ := Y
  have hx := X.1
  have hb := X.2.1
  intro σ H locs ls J hP hS hl
  refine lv_aload_n hx hb dL_law_332 rfl (lv_at hl 1 rfl) ?_
  refine lv_aload_n hx hb dL_law_333 rfl (lv_at hl 0 rfl) ?_
  refine lv_iload_n hx hb dL_law_334 rfl (lv_at hl 3 rfl) ?_
  refine lv_iconst (v := 1) hx hb dL_law_335 (by decide) ?_
  refine lv_iadd hx hb dL_law_336 ?_
  refine va_sld hx hb hX hbl hbA hS (lw_i1 i0 i8 hL) dL_law_337 ?_
  refine lv_aload_n hx hb dL_law_338 rfl (lv_at hl 0 rfl) ?_
  refine lv_iload_n hx hb dL_law_339 rfl (lv_at hl 3 rfl) ?_
  refine lv_iconst (v := 2) hx hb dL_law_340 (by decide) ?_
  refine lv_iadd hx hb dL_law_341 ?_
  refine va_sld hx hb hX hbl hbA hS (lw_i2 i0 i8 hL) dL_law_342 ?_
  refine lv_aload_n hx hb dL_law_343 rfl (lv_at hl 0 rfl) ?_
  refine lv_iload_n hx hb dL_law_344 rfl (lv_at hl 3 rfl) ?_
  refine lv_iconst (v := 3) hx hb dL_law_345 (by decide) ?_
  refine lv_iadd hx hb dL_law_346 ?_
  refine va_sld hx hb hX hbl hbA hS (lw_i3 i0 i8 hL) dL_law_347 ?_
  have hB := b_depth J (xs (jI i + 1).toNatClampNeg) (xs (jI i + 2).toNatClampNeg) (xs (jI i + 3).toNatClampNeg)
  refine cd_ci (cd_runV (As := [.int (xs (jI i + 1).toNatClampNeg), .int (xs (jI i + 2).toNatClampNeg), .int (xs (jI i + 3).toNatClampNeg)]) (rest := []) (σ := σ) (k := 0) (ci := 5) X wm_L_50 (by decide) rfl rfl rfl (c_X5_depth l g (xs (jI i + 1).toNatClampNeg) (xs (jI i + 2).toNatClampNeg) (xs (jI i + 3).toNatClampNeg) σ _ hB _) hP hS rfl rfl hl.1 (Nat.le_of_ble_eq_true rfl) ⟨Nat.le_of_ble_eq_true rfl, Nat.le_of_ble_eq_true rfl⟩ ⟨Nat.le_of_ble_eq_true rfl, Nat.le_of_ble_eq_true rfl⟩ dL_law_348) hS (fun r1 σ1 H1 locs1 hB1 hP1 hS1 => ?_)
  obtain ⟨es, hB3⟩ := hB1
  rw [es] at hP1
  refine lv_aload_n hx hb dL_law_351 rfl (lv_at hl 2 rfl) ?_
  refine lv_aload_n hx hb dL_law_352 rfl (lv_at hl 0 rfl) ?_
  refine lv_iload_n hx hb dL_law_353 rfl (lv_at hl 3 rfl) ?_
  refine lv_iconst (v := 1) hx hb dL_law_354 (by decide) ?_
  refine lv_iadd hx hb dL_law_355 ?_
  refine va_sld hx hb hX hbl hbA hS1 (lw_i1 i0 i8 hL) dL_law_356 ?_
  refine lv_aload_n hx hb dL_law_357 rfl (lv_at hl 0 rfl) ?_
  refine lv_iload_n hx hb dL_law_358 rfl (lv_at hl 3 rfl) ?_
  refine lv_iconst (v := 2) hx hb dL_law_359 (by decide) ?_
  refine lv_iadd hx hb dL_law_360 ?_
  refine va_sld hx hb hX hbl hbA hS1 (lw_i2 i0 i8 hL) dL_law_361 ?_
  refine lv_aload_n hx hb dL_law_362 rfl (lv_at hl 0 rfl) ?_
  refine lv_iload_n hx hb dL_law_363 rfl (lv_at hl 3 rfl) ?_
  refine lv_iconst (v := 3) hx hb dL_law_364 (by decide) ?_
  refine lv_iadd hx hb dL_law_365 ?_
  refine va_sld hx hb hX hbl hbA hS1 (lw_i3 i0 i8 hL) dL_law_366 ?_
  refine cd_ci (cd_runV (As := [.int (xs (jI i + 1).toNatClampNeg), .int (xs (jI i + 2).toNatClampNeg), .int (xs (jI i + 3).toNatClampNeg)]) (rest := [.int r1]) (σ := σ) (k := 19) (ci := 6) X wm_L_53 (by decide) rfl rfl rfl (c_X6_depth l g (xs (jI i + 1).toNatClampNeg) (xs (jI i + 2).toNatClampNeg) (xs (jI i + 3).toNatClampNeg) σ _ hB3 _) hP1 hS1 rfl rfl hl.1 (Nat.le_of_ble_eq_true rfl) ⟨Nat.le_of_ble_eq_true rfl, Nat.le_of_ble_eq_true rfl⟩ ⟨Nat.le_of_ble_eq_true rfl, Nat.le_of_ble_eq_true rfl⟩ dL_law_367) hS1 (fun r2 σ2 H2 locs2 hB2 hP2 hS2 => ?_)
  obtain ⟨es2, hB4⟩ := hB2
  rw [es2] at hP2
  exact lv_icmp_eq (tgt := 743) hx hb dL_law_370 (by decide) (fun _ => N σ H2 locs2 ls J hP2 hS2 hl) (fun k => absurd hB4.symm k)
set_option maxHeartbeats 1000000 in
set_option maxRecDepth 100000 in
theorem lw_c9 (Y : lwX p s m c b L xs g) (i0 : 0 ≤ i) (i8 : i + 8 ≤ L) (N : lwN p l e s m below meth c b g Q i 743) : lwN p l e s m below meth c b g Q i 375 := by
  obtain ⟨X, hX, hbl, hbA, hL⟩ := Y
  have hx := X.1
  have hb := X.2.1
  intro σ H locs ls J hP hS hl
  refine lv_aload_n hx hb dL_law_375 rfl (lv_at hl 1 rfl) ?_
  refine lv_aload_n hx hb dL_law_376 rfl (lv_at hl 0 rfl) ?_
  refine lv_iload_n hx hb dL_law_377 rfl (lv_at hl 3 rfl) ?_
  refine lv_iconst (v := 1) hx hb dL_law_378 (by decide) ?_
  refine lv_iadd hx hb dL_law_379 ?_
  refine va_sld hx hb hX hbl hbA hS (lw_i1 i0 i8 hL) dL_law_380 ?_
  refine lv_aload_n hx hb dL_law_381 rfl (lv_at hl 0 rfl) ?_
  refine lv_iload_n hx hb dL_law_382 rfl (lv_at hl 3 rfl) ?_
  refine lv_iconst (v := 2) hx hb dL_law_383 (by decide) ?_
  refine lv_iadd hx hb dL_law_384 ?_
  refine va_sld hx hb hX hbl hbA hS (lw_i2 i0 i8 hL) dL_law_385 ?_
  refine lv_aload_n hx hb dL_law_386 rfl (lv_at hl 0 rfl) ?_
  refine lv_iload_n hx hb dL_law_387 rfl (lv_at hl 3 rfl) ?_
  refine lv_iconst (v := 3) hx hb dL_law_388 (by decide) ?_
  refine lv_iadd hx hb dL_law_389 ?_
  refine va_sld hx hb hX hbl hbA hS (lw_i3 i0 i8 hL) dL_law_390 ?_
  refine lv_aload_n hx hb dL_law_391 rfl (lv_at hl 0 rfl) ?_
  refine lv_iload_n hx hb dL_law_392 rfl (lv_at hl 3 rfl) ?_
  refine lv_iconst (v := 4) hx hb dL_law_393 (by decide) ?_
  refine lv_iadd hx hb dL_law_394 ?_
  refine va_sld hx hb hX hbl hbA hS (lw_i4 i0 i8 hL) dL_law_395 ?_
  refine lv_aload_n hx hb dL_law_396 rfl (lv_at hl 0 rfl) ?_
  refine lv_iload_n hx hb dL_law_397 rfl (lv_at hl 3 rfl) ?_
  refine lv_iconst (v := 5) hx hb dL_law_398 (by decide) ?_
  refine lv_iadd hx hb dL_law_399 ?_
  refine va_sld hx hb hX hbl hbA hS (lw_i5 i0 i8 hL) dL_law_400 ?_
  refine lv_aload_n hx hb dL_law_401 rfl (lv_at hl 0 rfl) ?_
  refine lv_iload_n hx hb dL_law_402 rfl (lv_at hl 3 rfl) ?_
  refine lv_bipush (v := 6) hx hb dL_law_403 (by decide) ?_
  refine lv_iadd hx hb dL_law_405 ?_
  refine va_sld hx hb hX hbl hbA hS (lw_i6 i0 i8 hL) dL_law_406 ?_
  have hB := b_ground J (xs (jI i + 1).toNatClampNeg) (xs (jI i + 2).toNatClampNeg) (xs (jI i + 3).toNatClampNeg) (xs (jI i + 4).toNatClampNeg) (xs (jI i + 5).toNatClampNeg) (xs (jI i + 6).toNatClampNeg)
  refine cd_ci (cd_runV (As := [.int (xs (jI i + 1).toNatClampNeg), .int (xs (jI i + 2).toNatClampNeg), .int (xs (jI i + 3).toNatClampNeg), .int (xs (jI i + 4).toNatClampNeg), .int (xs (jI i + 5).toNatClampNeg), .int (xs (jI i + 6).toNatClampNeg)]) (rest := []) (σ := σ) (k := 0) (ci := 5) X wm_L_54 (by decide) rfl rfl rfl (c_X5_ground l g (xs (jI i + 1).toNatClampNeg) (xs (jI i + 2).toNatClampNeg) (xs (jI i + 3).toNatClampNeg) (xs (jI i + 4).toNatClampNeg) (xs (jI i + 5).toNatClampNeg) (xs (jI i + 6).toNatClampNeg) σ _ hB _) hP hS rfl rfl hl.1 (Nat.le_of_ble_eq_true rfl) ⟨Nat.le_of_ble_eq_true rfl, Nat.le_of_ble_eq_true rfl⟩ ⟨Nat.le_of_ble_eq_true rfl, Nat.le_of_ble_eq_true rfl⟩ dL_law_407) hS (fun r1 σ1 H1 locs1 hB1 hP1 hS1 => ?_)
  obtain ⟨J3, hB3⟩ := hB1
  refine lv_aload_n hx hb dL_law_410 rfl (lv_at hl 2 rfl) ?_
  refine lv_aload_n hx hb dL_law_411 rfl (lv_at hl 0 rfl) ?_
  refine lv_iload_n hx hb dL_law_412 rfl (lv_at hl 3 rfl) ?_
  refine lv_iconst (v := 1) hx hb dL_law_413 (by decide) ?_
  refine lv_iadd hx hb dL_law_414 ?_
  refine va_sld hx hb hX hbl hbA hS1 (lw_i1 i0 i8 hL) dL_law_415 ?_
  refine lv_aload_n hx hb dL_law_416 rfl (lv_at hl 0 rfl) ?_
  refine lv_iload_n hx hb dL_law_417 rfl (lv_at hl 3 rfl) ?_
  refine lv_iconst (v := 2) hx hb dL_law_418 (by decide) ?_
  refine lv_iadd hx hb dL_law_419 ?_
  refine va_sld hx hb hX hbl hbA hS1 (lw_i2 i0 i8 hL) dL_law_420 ?_
  refine lv_aload_n hx hb dL_law_421 rfl (lv_at hl 0 rfl) ?_
  refine lv_iload_n hx hb dL_law_422 rfl (lv_at hl 3 rfl) ?_
  refine lv_iconst (v := 3) hx hb dL_law_423 (by decide) ?_
  refine lv_iadd hx hb dL_law_424 ?_
  refine va_sld hx hb hX hbl hbA hS1 (lw_i3 i0 i8 hL) dL_law_425 ?_
  refine lv_aload_n hx hb dL_law_426 rfl (lv_at hl 0 rfl) ?_
  refine lv_iload_n hx hb dL_law_427 rfl (lv_at hl 3 rfl) ?_
  refine lv_iconst (v := 4) hx hb dL_law_428 (by decide) ?_
  refine lv_iadd hx hb dL_law_429 ?_
  refine va_sld hx hb hX hbl hbA hS1 (lw_i4 i0 i8 hL) dL_law_430 ?_
  refine lv_aload_n hx hb dL_law_431 rfl (lv_at hl 0 rfl) ?_
  refine lv_iload_n hx hb dL_law_432 rfl (lv_at hl 3 rfl) ?_
  refine lv_iconst (v := 5) hx hb dL_law_433 (by decide) ?_
  refine lv_iadd hx hb dL_law_434 ?_
  refine va_sld hx hb hX hbl hbA hS1 (lw_i5 i0 i8 hL) dL_law_435 ?_
  refine lv_aload_n hx hb dL_law_436 rfl (lv_at hl 0 rfl) ?_
  refine lv_iload_n hx hb dL_law_437 rfl (lv_at hl 3 rfl) ?_
  refine lv_bipush (v := 6) hx hb dL_law_438 (by decide) ?_
  refine lv_iadd hx hb dL_law_440 ?_
  refine va_sld hx hb hX hbl hbA hS1 (lw_i6 i0 i8 hL) dL_law_441 ?_
  refine cd_ci (cd_runV (As := [.int (xs (jI i + 1).toNatClampNeg), .int (xs (jI i + 2).toNatClampNeg), .int (xs (jI i + 3).toNatClampNeg), .int (xs (jI i + 4).toNatClampNeg), .int (xs (jI i + 5).toNatClampNeg), .int (xs (jI i + 6).toNatClampNeg)]) (rest := [.int r1]) (σ := σ1) (k := 19) (ci := 6) X wm_L_58 (by decide) rfl rfl rfl (c_X6_ground l g (xs (jI i + 1).toNatClampNeg) (xs (jI i + 2).toNatClampNeg) (xs (jI i + 3).toNatClampNeg) (xs (jI i + 4).toNatClampNeg) (xs (jI i + 5).toNatClampNeg) (xs (jI i + 6).toNatClampNeg) σ1 _ hB3 _) hP1 hS1 rfl rfl hl.1 (Nat.le_of_ble_eq_true rfl) ⟨Nat.le_of_ble_eq_true rfl, Nat.le_of_ble_eq_true rfl⟩ ⟨Nat.le_of_ble_eq_true rfl, Nat.le_of_ble_eq_true rfl⟩ dL_law_442) hS1 (fun r2 σ2 H2 locs2 hB2 hP2 hS2 => ?_)
  obtain ⟨es2, hB4⟩ := hB2
  rw [es2] at hP2
  exact lv_icmp_eq (tgt := 743) hx hb dL_law_445 (by decide) (fun _ => N σ1 H2 locs2 ls J3 hP2 hS2 hl) (fun k => absurd hB4.symm k)
set_option maxHeartbeats 1000000 in
set_option maxRecDepth 100000 in
theorem lw_c10 (Y : lwX p s m c b L xs g) (i0 : 0 ≤ i) (i8 : i + 8 ≤ L) (N : lwN p l e s m below meth c b g Q i 743) : lwN p l e s m below meth c b g Q i 450 := by
  obtain ⟨X, hX, hbl, hbA, hL⟩ := Y
  have hx := X.1
  have hb := X.2.1
  intro σ H locs ls J hP hS hl
  refine lv_aload_n hx hb dL_law_450 rfl (lv_at hl 1 rfl) ?_
  refine lv_aload_n hx hb dL_law_451 rfl (lv_at hl 0 rfl) ?_
  refine lv_iload_n hx hb dL_law_452 rfl (lv_at hl 3 rfl) ?_
  refine lv_iconst (v := 1) hx hb dL_law_453 (by decide) ?_
  refine lv_iadd hx hb dL_law_454 ?_
  refine va_sld hx hb hX hbl hbA hS (lw_i1 i0 i8 hL) dL_law_455 ?_
  refine lv_aload_n hx hb dL_law_456 rfl (lv_at hl 0 rfl) ?_
  refine lv_iload_n hx hb dL_law_457 rfl (lv_at hl 3 rfl) ?_
  refine lv_iconst (v := 2) hx hb dL_law_458 (by decide) ?_
  refine lv_iadd hx hb dL_law_459 ?_
  refine va_sld hx hb hX hbl hbA hS (lw_i2 i0 i8 hL) dL_law_460 ?_
  refine lv_aload_n hx hb dL_law_461 rfl (lv_at hl 0 rfl) ?_
  refine lv_iload_n hx hb dL_law_462 rfl (lv_at hl 3 rfl) ?_
  refine lv_iconst (v := 3) hx hb dL_law_463 (by decide) ?_
  refine lv_iadd hx hb dL_law_464 ?_
  refine va_sld hx hb hX hbl hbA hS (lw_i3 i0 i8 hL) dL_law_465 ?_
  refine lv_aload_n hx hb dL_law_466 rfl (lv_at hl 0 rfl) ?_
  refine lv_iload_n hx hb dL_law_467 rfl (lv_at hl 3 rfl) ?_
  refine lv_iconst (v := 4) hx hb dL_law_468 (by decide) ?_
  refine lv_iadd hx hb dL_law_469 ?_
  refine va_sld hx hb hX hbl hbA hS (lw_i4 i0 i8 hL) dL_law_470 ?_
  refine lv_aload_n hx hb dL_law_471 rfl (lv_at hl 0 rfl) ?_
  refine lv_iload_n hx hb dL_law_472 rfl (lv_at hl 3 rfl) ?_
  refine lv_iconst (v := 5) hx hb dL_law_473 (by decide) ?_
  refine lv_iadd hx hb dL_law_474 ?_
  refine va_sld hx hb hX hbl hbA hS (lw_i5 i0 i8 hL) dL_law_475 ?_
  have hB := b_tile J (xs (jI i + 1).toNatClampNeg) (xs (jI i + 2).toNatClampNeg) (xs (jI i + 3).toNatClampNeg) (xs (jI i + 4).toNatClampNeg) (xs (jI i + 5).toNatClampNeg)
  refine cd_ci (cd_runV (As := [.int (xs (jI i + 1).toNatClampNeg), .int (xs (jI i + 2).toNatClampNeg), .int (xs (jI i + 3).toNatClampNeg), .int (xs (jI i + 4).toNatClampNeg), .int (xs (jI i + 5).toNatClampNeg)]) (rest := []) (σ := σ) (k := 0) (ci := 5) X wm_L_59 (by decide) rfl rfl rfl (c_X5_tile l g (xs (jI i + 1).toNatClampNeg) (xs (jI i + 2).toNatClampNeg) (xs (jI i + 3).toNatClampNeg) (xs (jI i + 4).toNatClampNeg) (xs (jI i + 5).toNatClampNeg) σ _ hB _) hP hS rfl rfl hl.1 (Nat.le_of_ble_eq_true rfl) ⟨Nat.le_of_ble_eq_true rfl, Nat.le_of_ble_eq_true rfl⟩ ⟨Nat.le_of_ble_eq_true rfl, Nat.le_of_ble_eq_true rfl⟩ dL_law_476) hS (fun r1 σ1 H1 locs1 hB1 hP1 hS1 => ?_)
  refine lv_aload_n hx hb dL_law_479 rfl (lv_at hl 2 rfl) ?_
  refine lv_aload_n hx hb dL_law_480 rfl (lv_at hl 0 rfl) ?_
  refine lv_iload_n hx hb dL_law_481 rfl (lv_at hl 3 rfl) ?_
  refine lv_iconst (v := 1) hx hb dL_law_482 (by decide) ?_
  refine lv_iadd hx hb dL_law_483 ?_
  refine va_sld hx hb hX hbl hbA hS1 (lw_i1 i0 i8 hL) dL_law_484 ?_
  refine lv_aload_n hx hb dL_law_485 rfl (lv_at hl 0 rfl) ?_
  refine lv_iload_n hx hb dL_law_486 rfl (lv_at hl 3 rfl) ?_
  refine lv_iconst (v := 2) hx hb dL_law_487 (by decide) ?_
  refine lv_iadd hx hb dL_law_488 ?_
  refine va_sld hx hb hX hbl hbA hS1 (lw_i2 i0 i8 hL) dL_law_489 ?_
  refine lv_aload_n hx hb dL_law_490 rfl (lv_at hl 0 rfl) ?_
  refine lv_iload_n hx hb dL_law_491 rfl (lv_at hl 3 rfl) ?_
  refine lv_iconst (v := 3) hx hb dL_law_492 (by decide) ?_
  refine lv_iadd hx hb dL_law_493 ?_
  refine va_sld hx hb hX hbl hbA hS1 (lw_i3 i0 i8 hL) dL_law_494 ?_
  refine lv_aload_n hx hb dL_law_495 rfl (lv_at hl 0 rfl) ?_
  refine lv_iload_n hx hb dL_law_496 rfl (lv_at hl 3 rfl) ?_
  refine lv_iconst (v := 4) hx hb dL_law_497 (by decide) ?_
  refine lv_iadd hx hb dL_law_498 ?_
  refine va_sld hx hb hX hbl hbA hS1 (lw_i4 i0 i8 hL) dL_law_499 ?_
  refine lv_aload_n hx hb dL_law_500 rfl (lv_at hl 0 rfl) ?_
  refine lv_iload_n hx hb dL_law_501 rfl (lv_at hl 3 rfl) ?_
  refine lv_iconst (v := 5) hx hb dL_law_502 (by decide) ?_
  refine lv_iadd hx hb dL_law_503 ?_
  refine va_sld hx hb hX hbl hbA hS1 (lw_i5 i0 i8 hL) dL_law_504 ?_
  refine cd_ci (cd_runV (As := [.int (xs (jI i + 1).toNatClampNeg), .int (xs (jI i + 2).toNatClampNeg), .int (xs (jI i + 3).toNatClampNeg), .int (xs (jI i + 4).toNatClampNeg), .int (xs (jI i + 5).toNatClampNeg)]) (rest := [.int r1]) (σ := σ1) (k := 19) (ci := 6) X wm_L_63 (by decide) rfl rfl rfl (c_X6_tile l g (xs (jI i + 1).toNatClampNeg) (xs (jI i + 2).toNatClampNeg) (xs (jI i + 3).toNatClampNeg) (xs (jI i + 4).toNatClampNeg) (xs (jI i + 5).toNatClampNeg) σ1 _ hB1 _) hP1 hS1 rfl rfl hl.1 (Nat.le_of_ble_eq_true rfl) ⟨Nat.le_of_ble_eq_true rfl, Nat.le_of_ble_eq_true rfl⟩ ⟨Nat.le_of_ble_eq_true rfl, Nat.le_of_ble_eq_true rfl⟩ dL_law_505) hS1 (fun r2 σ2 H2 locs2 hB2 hP2 hS2 => ?_)
  exact lv_icmp_eq (tgt := 743) hx hb dL_law_508 (by decide) (fun _ => N σ2 H2 locs2 ls hB2.2 hP2 hS2 hl) (fun k => absurd hB2.1.symm k)
set_option maxHeartbeats 1000000 in
set_option maxRecDepth 100000 in
theorem lw_c11 (Y : lwX p s m c b L xs g) (i0 : 0 ≤ i) (i8 : i + 8 ≤ L) (N : lwN p l e s m below meth c b g Q i 743) : lwN p l e s m below meth c b g Q i 513 := by
  obtain ⟨X, hX, hbl, hbA, hL⟩ := Y
  have hx := X.1
  have hb := X.2.1
  intro σ H locs ls J hP hS hl
  refine lv_aload_n hx hb dL_law_513 rfl (lv_at hl 1 rfl) ?_
  refine lv_aload_n hx hb dL_law_514 rfl (lv_at hl 0 rfl) ?_
  refine lv_iload_n hx hb dL_law_515 rfl (lv_at hl 3 rfl) ?_
  refine lv_iconst (v := 1) hx hb dL_law_516 (by decide) ?_
  refine lv_iadd hx hb dL_law_517 ?_
  refine va_sld hx hb hX hbl hbA hS (lw_i1 i0 i8 hL) dL_law_518 ?_
  refine lv_aload_n hx hb dL_law_519 rfl (lv_at hl 0 rfl) ?_
  refine lv_iload_n hx hb dL_law_520 rfl (lv_at hl 3 rfl) ?_
  refine lv_iconst (v := 2) hx hb dL_law_521 (by decide) ?_
  refine lv_iadd hx hb dL_law_522 ?_
  refine va_sld hx hb hX hbl hbA hS (lw_i2 i0 i8 hL) dL_law_523 ?_
  refine lv_aload_n hx hb dL_law_524 rfl (lv_at hl 0 rfl) ?_
  refine lv_iload_n hx hb dL_law_525 rfl (lv_at hl 3 rfl) ?_
  refine lv_iconst (v := 3) hx hb dL_law_526 (by decide) ?_
  refine lv_iadd hx hb dL_law_527 ?_
  refine va_sld hx hb hX hbl hbA hS (lw_i3 i0 i8 hL) dL_law_528 ?_
  refine lv_aload_n hx hb dL_law_529 rfl (lv_at hl 0 rfl) ?_
  refine lv_iload_n hx hb dL_law_530 rfl (lv_at hl 3 rfl) ?_
  refine lv_iconst (v := 4) hx hb dL_law_531 (by decide) ?_
  refine lv_iadd hx hb dL_law_532 ?_
  refine va_sld hx hb hX hbl hbA hS (lw_i4 i0 i8 hL) dL_law_533 ?_
  refine lv_aload_n hx hb dL_law_534 rfl (lv_at hl 0 rfl) ?_
  refine lv_iload_n hx hb dL_law_535 rfl (lv_at hl 3 rfl) ?_
  refine lv_iconst (v := 5) hx hb dL_law_536 (by decide) ?_
  refine lv_iadd hx hb dL_law_537 ?_
  refine va_sld hx hb hX hbl hbA hS (lw_i5 i0 i8 hL) dL_law_538 ?_
  have hB := b_byTurns J (xs (jI i + 1).toNatClampNeg) (xs (jI i + 2).toNatClampNeg) (xs (jI i + 3).toNatClampNeg) (xs (jI i + 4).toNatClampNeg) (xs (jI i + 5).toNatClampNeg)
  refine cd_ci (cd_runV (As := [.int (xs (jI i + 1).toNatClampNeg), .int (xs (jI i + 2).toNatClampNeg), .int (xs (jI i + 3).toNatClampNeg), .int (xs (jI i + 4).toNatClampNeg), .int (xs (jI i + 5).toNatClampNeg)]) (rest := []) (σ := σ) (k := 0) (ci := 5) X wm_L_64 (by decide) rfl rfl rfl (c_X5_byTurns l g (xs (jI i + 1).toNatClampNeg) (xs (jI i + 2).toNatClampNeg) (xs (jI i + 3).toNatClampNeg) (xs (jI i + 4).toNatClampNeg) (xs (jI i + 5).toNatClampNeg) σ _ hB _) hP hS rfl rfl hl.1 (Nat.le_of_ble_eq_true rfl) ⟨Nat.le_of_ble_eq_true rfl, Nat.le_of_ble_eq_true rfl⟩ ⟨Nat.le_of_ble_eq_true rfl, Nat.le_of_ble_eq_true rfl⟩ dL_law_539) hS (fun r1 σ1 H1 locs1 hB1 hP1 hS1 => ?_)
  refine lv_aload_n hx hb dL_law_542 rfl (lv_at hl 2 rfl) ?_
  refine lv_aload_n hx hb dL_law_543 rfl (lv_at hl 0 rfl) ?_
  refine lv_iload_n hx hb dL_law_544 rfl (lv_at hl 3 rfl) ?_
  refine lv_iconst (v := 1) hx hb dL_law_545 (by decide) ?_
  refine lv_iadd hx hb dL_law_546 ?_
  refine va_sld hx hb hX hbl hbA hS1 (lw_i1 i0 i8 hL) dL_law_547 ?_
  refine lv_aload_n hx hb dL_law_548 rfl (lv_at hl 0 rfl) ?_
  refine lv_iload_n hx hb dL_law_549 rfl (lv_at hl 3 rfl) ?_
  refine lv_iconst (v := 2) hx hb dL_law_550 (by decide) ?_
  refine lv_iadd hx hb dL_law_551 ?_
  refine va_sld hx hb hX hbl hbA hS1 (lw_i2 i0 i8 hL) dL_law_552 ?_
  refine lv_aload_n hx hb dL_law_553 rfl (lv_at hl 0 rfl) ?_
  refine lv_iload_n hx hb dL_law_554 rfl (lv_at hl 3 rfl) ?_
  refine lv_iconst (v := 3) hx hb dL_law_555 (by decide) ?_
  refine lv_iadd hx hb dL_law_556 ?_
  refine va_sld hx hb hX hbl hbA hS1 (lw_i3 i0 i8 hL) dL_law_557 ?_
  refine lv_aload_n hx hb dL_law_558 rfl (lv_at hl 0 rfl) ?_
  refine lv_iload_n hx hb dL_law_559 rfl (lv_at hl 3 rfl) ?_
  refine lv_iconst (v := 4) hx hb dL_law_560 (by decide) ?_
  refine lv_iadd hx hb dL_law_561 ?_
  refine va_sld hx hb hX hbl hbA hS1 (lw_i4 i0 i8 hL) dL_law_562 ?_
  refine lv_aload_n hx hb dL_law_563 rfl (lv_at hl 0 rfl) ?_
  refine lv_iload_n hx hb dL_law_564 rfl (lv_at hl 3 rfl) ?_
  refine lv_iconst (v := 5) hx hb dL_law_565 (by decide) ?_
  refine lv_iadd hx hb dL_law_566 ?_
  refine va_sld hx hb hX hbl hbA hS1 (lw_i5 i0 i8 hL) dL_law_567 ?_
  refine cd_ci (cd_runV (As := [.int (xs (jI i + 1).toNatClampNeg), .int (xs (jI i + 2).toNatClampNeg), .int (xs (jI i + 3).toNatClampNeg), .int (xs (jI i + 4).toNatClampNeg), .int (xs (jI i + 5).toNatClampNeg)]) (rest := [.int r1]) (σ := σ1) (k := 19) (ci := 6) X wm_L_67 (by decide) rfl rfl rfl (c_X6_byTurns l g (xs (jI i + 1).toNatClampNeg) (xs (jI i + 2).toNatClampNeg) (xs (jI i + 3).toNatClampNeg) (xs (jI i + 4).toNatClampNeg) (xs (jI i + 5).toNatClampNeg) σ1 _ hB1 _) hP1 hS1 rfl rfl hl.1 (Nat.le_of_ble_eq_true rfl) ⟨Nat.le_of_ble_eq_true rfl, Nat.le_of_ble_eq_true rfl⟩ ⟨Nat.le_of_ble_eq_true rfl, Nat.le_of_ble_eq_true rfl⟩ dL_law_568) hS1 (fun r2 σ2 H2 locs2 hB2 hP2 hS2 => ?_)
  exact lv_icmp_eq (tgt := 743) hx hb dL_law_571 (by decide) (fun _ => N σ2 H2 locs2 ls hB2.2 hP2 hS2 hl) (fun k => absurd hB2.1.symm k)
set_option maxHeartbeats 1000000 in
set_option maxRecDepth 100000 in
theorem lw_c12 (Y : lwX p s m c b L xs g) (i0 : 0 ≤ i) (i8 : i + 8 ≤ L) (N : lwN p l e s m below meth c b g Q i 743) : lwN p l e s m below meth c b g Q i 576 := by
  obtain ⟨X, hX, hbl, hbA, hL⟩ := Y
  have hx := X.1
  have hb := X.2.1
  intro σ H locs ls J hP hS hl
  refine lv_aload_n hx hb dL_law_576 rfl (lv_at hl 1 rfl) ?_
  refine lv_aload_n hx hb dL_law_577 rfl (lv_at hl 0 rfl) ?_
  refine lv_iload_n hx hb dL_law_578 rfl (lv_at hl 3 rfl) ?_
  refine lv_iconst (v := 1) hx hb dL_law_579 (by decide) ?_
  refine lv_iadd hx hb dL_law_580 ?_
  refine va_sld hx hb hX hbl hbA hS (lw_i1 i0 i8 hL) dL_law_581 ?_
  refine lv_aload_n hx hb dL_law_582 rfl (lv_at hl 0 rfl) ?_
  refine lv_iload_n hx hb dL_law_583 rfl (lv_at hl 3 rfl) ?_
  refine lv_iconst (v := 2) hx hb dL_law_584 (by decide) ?_
  refine lv_iadd hx hb dL_law_585 ?_
  refine va_sld hx hb hX hbl hbA hS (lw_i2 i0 i8 hL) dL_law_586 ?_
  refine lv_aload_n hx hb dL_law_587 rfl (lv_at hl 0 rfl) ?_
  refine lv_iload_n hx hb dL_law_588 rfl (lv_at hl 3 rfl) ?_
  refine lv_iconst (v := 3) hx hb dL_law_589 (by decide) ?_
  refine lv_iadd hx hb dL_law_590 ?_
  refine va_sld hx hb hX hbl hbA hS (lw_i3 i0 i8 hL) dL_law_591 ?_
  have hB := b_best J (xs (jI i + 1).toNatClampNeg) (xs (jI i + 2).toNatClampNeg) (xs (jI i + 3).toNatClampNeg)
  refine cd_ci (cd_runV (As := [.int (xs (jI i + 1).toNatClampNeg), .int (xs (jI i + 2).toNatClampNeg), .int (xs (jI i + 3).toNatClampNeg)]) (rest := []) (σ := σ) (k := 0) (ci := 5) X wm_L_68 (by decide) rfl rfl rfl (c_X5_best l g (xs (jI i + 1).toNatClampNeg) (xs (jI i + 2).toNatClampNeg) (xs (jI i + 3).toNatClampNeg) σ _ hB _) hP hS rfl rfl hl.1 (Nat.le_of_ble_eq_true rfl) ⟨Nat.le_of_ble_eq_true rfl, Nat.le_of_ble_eq_true rfl⟩ ⟨Nat.le_of_ble_eq_true rfl, Nat.le_of_ble_eq_true rfl⟩ dL_law_592) hS (fun r1 σ1 H1 locs1 hB1 hP1 hS1 => ?_)
  refine lv_aload_n hx hb dL_law_595 rfl (lv_at hl 2 rfl) ?_
  refine lv_aload_n hx hb dL_law_596 rfl (lv_at hl 0 rfl) ?_
  refine lv_iload_n hx hb dL_law_597 rfl (lv_at hl 3 rfl) ?_
  refine lv_iconst (v := 1) hx hb dL_law_598 (by decide) ?_
  refine lv_iadd hx hb dL_law_599 ?_
  refine va_sld hx hb hX hbl hbA hS1 (lw_i1 i0 i8 hL) dL_law_600 ?_
  refine lv_aload_n hx hb dL_law_601 rfl (lv_at hl 0 rfl) ?_
  refine lv_iload_n hx hb dL_law_602 rfl (lv_at hl 3 rfl) ?_
  refine lv_iconst (v := 2) hx hb dL_law_603 (by decide) ?_
  refine lv_iadd hx hb dL_law_604 ?_
  refine va_sld hx hb hX hbl hbA hS1 (lw_i2 i0 i8 hL) dL_law_605 ?_
  refine lv_aload_n hx hb dL_law_606 rfl (lv_at hl 0 rfl) ?_
  refine lv_iload_n hx hb dL_law_607 rfl (lv_at hl 3 rfl) ?_
  refine lv_iconst (v := 3) hx hb dL_law_608 (by decide) ?_
  refine lv_iadd hx hb dL_law_609 ?_
  refine va_sld hx hb hX hbl hbA hS1 (lw_i3 i0 i8 hL) dL_law_610 ?_
  refine cd_ci (cd_runV (As := [.int (xs (jI i + 1).toNatClampNeg), .int (xs (jI i + 2).toNatClampNeg), .int (xs (jI i + 3).toNatClampNeg)]) (rest := [.int r1]) (σ := σ1) (k := 19) (ci := 6) X wm_L_71 (by decide) rfl rfl rfl (c_X6_best l g (xs (jI i + 1).toNatClampNeg) (xs (jI i + 2).toNatClampNeg) (xs (jI i + 3).toNatClampNeg) σ1 _ hB1 _) hP1 hS1 rfl rfl hl.1 (Nat.le_of_ble_eq_true rfl) ⟨Nat.le_of_ble_eq_true rfl, Nat.le_of_ble_eq_true rfl⟩ ⟨Nat.le_of_ble_eq_true rfl, Nat.le_of_ble_eq_true rfl⟩ dL_law_611) hS1 (fun r2 σ2 H2 locs2 hB2 hP2 hS2 => ?_)
  exact lv_icmp_eq (tgt := 743) hx hb dL_law_614 (by decide) (fun _ => N σ2 H2 locs2 ls hB2.2 hP2 hS2 hl) (fun k => absurd hB2.1.symm k)
set_option maxHeartbeats 1000000 in
set_option maxRecDepth 100000 in
theorem lw_c13 (Y : lwX p s m c b L xs g) (i0 : 0 ≤ i) (i8 : i + 8 ≤ L) (N : lwN p l e s m below meth c b g Q i 743) : lwN p l e s m below meth c b g Q i 619 := by
  obtain ⟨X, hX, hbl, hbA, hL⟩ := Y
  have hx := X.1
  have hb := X.2.1
  intro σ H locs ls J hP hS hl
  refine lv_aload_n hx hb dL_law_619 rfl (lv_at hl 1 rfl) ?_
  refine lv_aload_n hx hb dL_law_620 rfl (lv_at hl 0 rfl) ?_
  refine lv_iload_n hx hb dL_law_621 rfl (lv_at hl 3 rfl) ?_
  refine lv_iconst (v := 1) hx hb dL_law_622 (by decide) ?_
  refine lv_iadd hx hb dL_law_623 ?_
  refine va_sld hx hb hX hbl hbA hS (lw_i1 i0 i8 hL) dL_law_624 ?_
  refine lv_aload_n hx hb dL_law_625 rfl (lv_at hl 0 rfl) ?_
  refine lv_iload_n hx hb dL_law_626 rfl (lv_at hl 3 rfl) ?_
  refine lv_iconst (v := 2) hx hb dL_law_627 (by decide) ?_
  refine lv_iadd hx hb dL_law_628 ?_
  refine va_sld hx hb hX hbl hbA hS (lw_i2 i0 i8 hL) dL_law_629 ?_
  refine lv_aload_n hx hb dL_law_630 rfl (lv_at hl 0 rfl) ?_
  refine lv_iload_n hx hb dL_law_631 rfl (lv_at hl 3 rfl) ?_
  refine lv_iconst (v := 3) hx hb dL_law_632 (by decide) ?_
  refine lv_iadd hx hb dL_law_633 ?_
  refine va_sld hx hb hX hbl hbA hS (lw_i3 i0 i8 hL) dL_law_634 ?_
  refine lv_aload_n hx hb dL_law_635 rfl (lv_at hl 0 rfl) ?_
  refine lv_iload_n hx hb dL_law_636 rfl (lv_at hl 3 rfl) ?_
  refine lv_iconst (v := 4) hx hb dL_law_637 (by decide) ?_
  refine lv_iadd hx hb dL_law_638 ?_
  refine va_sld hx hb hX hbl hbA hS (lw_i4 i0 i8 hL) dL_law_639 ?_
  refine lv_aload_n hx hb dL_law_640 rfl (lv_at hl 0 rfl) ?_
  refine lv_iload_n hx hb dL_law_641 rfl (lv_at hl 3 rfl) ?_
  refine lv_iconst (v := 5) hx hb dL_law_642 (by decide) ?_
  refine lv_iadd hx hb dL_law_643 ?_
  refine va_sld hx hb hX hbl hbA hS (lw_i5 i0 i8 hL) dL_law_644 ?_
  refine lv_aload_n hx hb dL_law_645 rfl (lv_at hl 0 rfl) ?_
  refine lv_iload_n hx hb dL_law_646 rfl (lv_at hl 3 rfl) ?_
  refine lv_bipush (v := 6) hx hb dL_law_647 (by decide) ?_
  refine lv_iadd hx hb dL_law_649 ?_
  refine va_sld hx hb hX hbl hbA hS (lw_i6 i0 i8 hL) dL_law_650 ?_
  refine lv_aload_n hx hb dL_law_651 rfl (lv_at hl 0 rfl) ?_
  refine lv_iload_n hx hb dL_law_652 rfl (lv_at hl 3 rfl) ?_
  refine lv_bipush (v := 7) hx hb dL_law_653 (by decide) ?_
  refine lv_iadd hx hb dL_law_655 ?_
  refine va_sld hx hb hX hbl hbA hS (lw_i7 i0 i8 hL) dL_law_656 ?_
  have hB := b_field J (xs (jI i + 1).toNatClampNeg) (xs (jI i + 2).toNatClampNeg) (xs (jI i + 3).toNatClampNeg) (xs (jI i + 4).toNatClampNeg) (xs (jI i + 5).toNatClampNeg) (xs (jI i + 6).toNatClampNeg) (xs (jI i + 7).toNatClampNeg)
  refine cd_ci (cd_runV (As := [.int (xs (jI i + 1).toNatClampNeg), .int (xs (jI i + 2).toNatClampNeg), .int (xs (jI i + 3).toNatClampNeg), .int (xs (jI i + 4).toNatClampNeg), .int (xs (jI i + 5).toNatClampNeg), .int (xs (jI i + 6).toNatClampNeg), .int (xs (jI i + 7).toNatClampNeg)]) (rest := []) (σ := σ) (k := 0) (ci := 5) X wm_L_72 (by decide) rfl rfl rfl (c_X5_field l g (xs (jI i + 1).toNatClampNeg) (xs (jI i + 2).toNatClampNeg) (xs (jI i + 3).toNatClampNeg) (xs (jI i + 4).toNatClampNeg) (xs (jI i + 5).toNatClampNeg) (xs (jI i + 6).toNatClampNeg) (xs (jI i + 7).toNatClampNeg) σ _ hB _) hP hS rfl rfl hl.1 (Nat.le_of_ble_eq_true rfl) ⟨Nat.le_of_ble_eq_true rfl, Nat.le_of_ble_eq_true rfl⟩ ⟨Nat.le_of_ble_eq_true rfl, Nat.le_of_ble_eq_true rfl⟩ dL_law_657) hS (fun r1 σ1 H1 locs1 hB1 hP1 hS1 => ?_)
  refine lv_aload_n hx hb dL_law_660 rfl (lv_at hl 2 rfl) ?_
  refine lv_aload_n hx hb dL_law_661 rfl (lv_at hl 0 rfl) ?_
  refine lv_iload_n hx hb dL_law_662 rfl (lv_at hl 3 rfl) ?_
  refine lv_iconst (v := 1) hx hb dL_law_663 (by decide) ?_
  refine lv_iadd hx hb dL_law_664 ?_
  refine va_sld hx hb hX hbl hbA hS1 (lw_i1 i0 i8 hL) dL_law_665 ?_
  refine lv_aload_n hx hb dL_law_666 rfl (lv_at hl 0 rfl) ?_
  refine lv_iload_n hx hb dL_law_667 rfl (lv_at hl 3 rfl) ?_
  refine lv_iconst (v := 2) hx hb dL_law_668 (by decide) ?_
  refine lv_iadd hx hb dL_law_669 ?_
  refine va_sld hx hb hX hbl hbA hS1 (lw_i2 i0 i8 hL) dL_law_670 ?_
  refine lv_aload_n hx hb dL_law_671 rfl (lv_at hl 0 rfl) ?_
  refine lv_iload_n hx hb dL_law_672 rfl (lv_at hl 3 rfl) ?_
  refine lv_iconst (v := 3) hx hb dL_law_673 (by decide) ?_
  refine lv_iadd hx hb dL_law_674 ?_
  refine va_sld hx hb hX hbl hbA hS1 (lw_i3 i0 i8 hL) dL_law_675 ?_
  refine lv_aload_n hx hb dL_law_676 rfl (lv_at hl 0 rfl) ?_
  refine lv_iload_n hx hb dL_law_677 rfl (lv_at hl 3 rfl) ?_
  refine lv_iconst (v := 4) hx hb dL_law_678 (by decide) ?_
  refine lv_iadd hx hb dL_law_679 ?_
  refine va_sld hx hb hX hbl hbA hS1 (lw_i4 i0 i8 hL) dL_law_680 ?_
  refine lv_aload_n hx hb dL_law_681 rfl (lv_at hl 0 rfl) ?_
  refine lv_iload_n hx hb dL_law_682 rfl (lv_at hl 3 rfl) ?_
  refine lv_iconst (v := 5) hx hb dL_law_683 (by decide) ?_
  refine lv_iadd hx hb dL_law_684 ?_
  refine va_sld hx hb hX hbl hbA hS1 (lw_i5 i0 i8 hL) dL_law_685 ?_
  refine lv_aload_n hx hb dL_law_686 rfl (lv_at hl 0 rfl) ?_
  refine lv_iload_n hx hb dL_law_687 rfl (lv_at hl 3 rfl) ?_
  refine lv_bipush (v := 6) hx hb dL_law_688 (by decide) ?_
  refine lv_iadd hx hb dL_law_690 ?_
  refine va_sld hx hb hX hbl hbA hS1 (lw_i6 i0 i8 hL) dL_law_691 ?_
  refine lv_aload_n hx hb dL_law_692 rfl (lv_at hl 0 rfl) ?_
  refine lv_iload_n hx hb dL_law_693 rfl (lv_at hl 3 rfl) ?_
  refine lv_bipush (v := 7) hx hb dL_law_694 (by decide) ?_
  refine lv_iadd hx hb dL_law_696 ?_
  refine va_sld hx hb hX hbl hbA hS1 (lw_i7 i0 i8 hL) dL_law_697 ?_
  refine cd_ci (cd_runV (As := [.int (xs (jI i + 1).toNatClampNeg), .int (xs (jI i + 2).toNatClampNeg), .int (xs (jI i + 3).toNatClampNeg), .int (xs (jI i + 4).toNatClampNeg), .int (xs (jI i + 5).toNatClampNeg), .int (xs (jI i + 6).toNatClampNeg), .int (xs (jI i + 7).toNatClampNeg)]) (rest := [.int r1]) (σ := σ1) (k := 19) (ci := 6) X wm_L_76 (by decide) rfl rfl rfl (c_X6_field l g (xs (jI i + 1).toNatClampNeg) (xs (jI i + 2).toNatClampNeg) (xs (jI i + 3).toNatClampNeg) (xs (jI i + 4).toNatClampNeg) (xs (jI i + 5).toNatClampNeg) (xs (jI i + 6).toNatClampNeg) (xs (jI i + 7).toNatClampNeg) σ1 _ hB1 _) hP1 hS1 rfl rfl hl.1 (Nat.le_of_ble_eq_true rfl) ⟨Nat.le_of_ble_eq_true rfl, Nat.le_of_ble_eq_true rfl⟩ ⟨Nat.le_of_ble_eq_true rfl, Nat.le_of_ble_eq_true rfl⟩ dL_law_698) hS1 (fun r2 σ2 H2 locs2 hB2 hP2 hS2 => ?_)
  exact lv_icmp_eq (tgt := 743) hx hb dL_law_701 (by decide) (fun _ => N σ2 H2 locs2 ls hB2.2 hP2 hS2 hl) (fun k => absurd hB2.1.symm k)
set_option maxHeartbeats 1000000 in
set_option maxRecDepth 100000 in
theorem lw_c14 (Y : lwX p s m c b L xs g) (i0 : 0 ≤ i) (i8 : i + 8 ≤ L) (N : lwN p l e s m below meth c b g Q i 743) : lwN p l e s m below meth c b g Q i 706 := by
  obtain ⟨X, hX, hbl, hbA, hL⟩ := Y
  have hx := X.1
  have hb := X.2.1
  intro σ H locs ls J hP hS hl
  refine lv_aload_n hx hb dL_law_706 rfl (lv_at hl 1 rfl) ?_
  refine lv_aload_n hx hb dL_law_707 rfl (lv_at hl 0 rfl) ?_
  refine lv_iload_n hx hb dL_law_708 rfl (lv_at hl 3 rfl) ?_
  refine lv_iconst (v := 1) hx hb dL_law_709 (by decide) ?_
  refine lv_iadd hx hb dL_law_710 ?_
  refine va_sld hx hb hX hbl hbA hS (lw_i1 i0 i8 hL) dL_law_711 ?_
  have hB := b_count J (xs (jI i + 1).toNatClampNeg)
  refine cd_ci (cd_runV (As := [.int (xs (jI i + 1).toNatClampNeg)]) (rest := []) (σ := σ) (k := 0) (ci := 5) X wm_L_77 (by decide) rfl rfl rfl (c_X5_count l g (xs (jI i + 1).toNatClampNeg) σ _ hB _) hP hS rfl rfl hl.1 (Nat.le_of_ble_eq_true rfl) ⟨Nat.le_of_ble_eq_true rfl, Nat.le_of_ble_eq_true rfl⟩ ⟨Nat.le_of_ble_eq_true rfl, Nat.le_of_ble_eq_true rfl⟩ dL_law_712) hS (fun r1 σ1 H1 locs1 hB1 hP1 hS1 => ?_)
  obtain ⟨es, hB3⟩ := hB1
  rw [es] at hP1
  refine lv_aload_n hx hb dL_law_715 rfl (lv_at hl 2 rfl) ?_
  refine lv_aload_n hx hb dL_law_716 rfl (lv_at hl 0 rfl) ?_
  refine lv_iload_n hx hb dL_law_717 rfl (lv_at hl 3 rfl) ?_
  refine lv_iconst (v := 1) hx hb dL_law_718 (by decide) ?_
  refine lv_iadd hx hb dL_law_719 ?_
  refine va_sld hx hb hX hbl hbA hS1 (lw_i1 i0 i8 hL) dL_law_720 ?_
  refine cd_ci (cd_runV (As := [.int (xs (jI i + 1).toNatClampNeg)]) (rest := [.int r1]) (σ := σ) (k := 19) (ci := 6) X wm_L_80 (by decide) rfl rfl rfl (c_X6_count l g (xs (jI i + 1).toNatClampNeg) σ _ hB3 _) hP1 hS1 rfl rfl hl.1 (Nat.le_of_ble_eq_true rfl) ⟨Nat.le_of_ble_eq_true rfl, Nat.le_of_ble_eq_true rfl⟩ ⟨Nat.le_of_ble_eq_true rfl, Nat.le_of_ble_eq_true rfl⟩ dL_law_721) hS1 (fun r2 σ2 H2 locs2 hB2 hP2 hS2 => ?_)
  obtain ⟨es2, hB4⟩ := hB2
  rw [es2] at hP2
  exact lv_icmp_eq (tgt := 743) hx hb dL_law_724 (by decide) (fun _ => N σ H2 locs2 ls J hP2 hS2 hl) (fun k => absurd hB4.symm k)
set_option maxHeartbeats 1000000 in
set_option maxRecDepth 100000 in
theorem lw_c15 (Y : lwX p s m c b L xs g) (i0 : 0 ≤ i) (i8 : i + 8 ≤ L) (N : lwN p l e s m below meth c b g Q i 743) : lwN p l e s m below meth c b g Q i 729 := by
  obtain ⟨X, hX, hbl, hbA, hL⟩ := Y
  have hx := X.1
  have hb := X.2.1
  intro σ H locs ls J hP hS hl
  refine lv_aload_n hx hb dL_law_729 rfl (lv_at hl 1 rfl) ?_
  have hB := b_digest J 
  refine cd_cl (cd_runV (As := []) (rest := []) (σ := σ) (k := 0) (ci := 5) X wm_L_81 (by decide) rfl rfl rfl (c_X5_digest l g  σ _ hB _) hP hS rfl rfl hl.1 (Nat.le_of_ble_eq_true rfl) ⟨Nat.le_of_ble_eq_true rfl, Nat.le_of_ble_eq_true rfl⟩ ⟨Nat.le_of_ble_eq_true rfl, Nat.le_of_ble_eq_true rfl⟩ dL_law_730) hS (fun r1 σ1 H1 locs1 hB1 hP1 hS1 => ?_)
  refine lv_aload_n hx hb dL_law_733 rfl (lv_at hl 2 rfl) ?_
  refine cd_cl (cd_runV (As := []) (rest := [.long r1]) (σ := σ1) (k := 19) (ci := 6) X wm_L_85 (by decide) rfl rfl rfl (c_X6_digest l g  σ1 _ hB1 _) hP1 hS1 rfl rfl hl.1 (Nat.le_of_ble_eq_true rfl) ⟨Nat.le_of_ble_eq_true rfl, Nat.le_of_ble_eq_true rfl⟩ ⟨Nat.le_of_ble_eq_true rfl, Nat.le_of_ble_eq_true rfl⟩ dL_law_734) hS1 (fun r2 σ2 H2 locs2 hB2 hP2 hS2 => ?_)
  refine W.lcmp hx hb dL_law_737 ?_
  refine lv_if_eq (tgt := 743) hx hb dL_law_738 (by decide) (fun _ => N σ2 H2 locs2 ls hB2.2 hP2 hS2 hl) (fun k => absurd ((lg_cmp_eq _ _).mpr hB2.1.symm) k)
end LW
