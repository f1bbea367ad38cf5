/-! THE CONSTRUCTORS. -/
theorem wo_i : Cond.instanceMethod Lib.objectInit ∈ cdL := cd_t1 16 rfl rfl
theorem wo_c : Cond.code Lib.objectInit ⟨#[0xb1]⟩ 1 none ∈ cdL := cd_t1 17 rfl rfl
theorem wo_X5 : Cond.methodLink RX5 1 Lib.objectInit ∈ cdL := cd_t1 15 rfl rfl
theorem wo_X3 : Cond.methodLink RX3 1 Lib.objectInit ∈ cdL := cd_t1 23 rfl rfl
theorem wo_X1 : Cond.methodLink RX1 3 Lib.objectInit ∈ cdL := cd_t1 37 rfl rfl
theorem wo_X4 : Cond.methodLink RX4 1 Lib.objectInit ∈ cdL := cd_t1 43 rfl rfl
theorem wo_X0 : Cond.methodLink RX0 3 Lib.objectInit ∈ cdL := cd_t1 72 rfl rfl
theorem wo_X2 : Cond.methodLink RX2 3 Lib.objectInit ∈ cdL := cd_t1 97 rfl rfl
theorem wo_X6 : Cond.methodLink RX6 1 Lib.objectInit ∈ cdL := cd_t3 24 rfl rfl
theorem wa_I : Cond.arrayClass .int ∈ cdL := cd_t1 31 rfl rfl
/-- a class that is made: its link, its number of slots, that it is initialized; its constructor's code -/
def ctW (own : String) (idx : Nat) (C : String) (N : Nat) (y : MethodName) (cd : ByteArray) (mL : Nat) : Prop :=
  Cond.classLink own idx C ∈ cdL ∧ Cond.instantiable C N ∈ cdL ∧ Cond.initialized C ∈ cdL ∧ Cond.initialized y.cls ∈ cdL ∧ Cond.code y cd mL none ∈ cdL ∧ (y.cls ≠ "java/lang/invoke/MethodHandle" ∧ y.cls ≠ "java/lang/invoke/VarHandle" ∧ (parseMethodDescriptor y.desc).map (fun d => d.parameters.length) = some 0) ∧ y.name = "<init>" ∧ Cond.instanceMethod y ∈ cdL
theorem ct_w3 : ctW RX5 7 RX3 2 yX3_init cX3_init 1 := ⟨cd_t1 18 rfl rfl, cd_t1 19 rfl rfl, cd_t1 2 rfl rfl, cd_t1 2 rfl rfl, cd_t1 22 rfl rfl, by decide +kernel, rfl, cd_t1 21 rfl rfl⟩
theorem ct_w1 : ctW RX5 16 RX1 5 yX1_init cX1_init 1 := ⟨cd_t1 32 rfl rfl, cd_t1 33 rfl rfl, cd_t1 3 rfl rfl, cd_t1 3 rfl rfl, cd_t1 36 rfl rfl, by decide +kernel, rfl, cd_t1 35 rfl rfl⟩
theorem ct_w4 : ctW RX1 18 RX4 2 yX4_init cX4_init 1 := ⟨cd_t1 38 rfl rfl, cd_t1 39 rfl rfl, cd_t1 4 rfl rfl, cd_t1 4 rfl rfl, cd_t1 42 rfl rfl, by decide +kernel, rfl, cd_t1 41 rfl rfl⟩
theorem ct_w0 : ctW RX5 23 RX0 6 yX0_init cX0_init 1 := ⟨cd_t1 67 rfl rfl, cd_t1 68 rfl rfl, cd_t1 5 rfl rfl, cd_t1 5 rfl rfl, cd_t1 71 rfl rfl, by decide +kernel, rfl, cd_t1 70 rfl rfl⟩
theorem ct_w2 : ctW RX5 30 RX2 2 yX2_init cX2_init 1 := ⟨cd_t1 92 rfl rfl, cd_t1 93 rfl rfl, cd_t1 6 rfl rfl, cd_t1 6 rfl rfl, cd_t1 96 rfl rfl, by decide +kernel, rfl, cd_t1 95 rfl rfl⟩
theorem ct_w5 : ctW RL 7 RX5 9 yX5_init cX5_init 2 := ⟨cd_t1 10 rfl rfl, cd_t1 11 rfl rfl, cd_t1 1 rfl rfl, cd_t1 1 rfl rfl, cd_t1 14 rfl rfl, by decide +kernel, rfl, cd_t1 13 rfl rfl⟩
theorem ct_w6 : ctW RL 10 RX6 20 yX6_init cX6_init 1 := ⟨cd_t3 19 rfl rfl, cd_t3 20 rfl rfl, cd_t1 7 rfl rfl, cd_t1 7 rfl rfl, cd_t3 23 rfl rfl, by decide +kernel, rfl, cd_t3 22 rfl rfl⟩
/-- the nest's links, and the row of heads -/
def ctV (U : State) : Prop := va_Nw (.methodLinkNest RX5 9 yX3_init RX5) U ∧ va_Nw (.methodLinkNest RX5 18 yX1_init RX5) U ∧ va_Nw (.methodLinkNest RX5 25 yX0_init RX5) U ∧ va_Nw (.methodLinkNest RX5 32 yX2_init RX5) U ∧ va_Nw (.methodLinkNest RX1 20 yX4_init RX5) U ∧ va_AO RX2 U
theorem ctV_calling {U : State} {f : JFrame} {mk : MethodId} {a : Array Value} (h : ctV U) : ctV (U.calling f mk a) := by
  obtain ⟨h1, h2, h3, h4, h5, h6⟩ := h
  exact ⟨va_Nw.same rfl rfl h1, va_Nw.same rfl rfl h2, va_Nw.same rfl rfl h3, va_Nw.same rfl rfl h4, va_Nw.same rfl rfl h5, va_AO.moved (u := U) (U := U.calling f mk a) (Vm.Alike.refl U.vm) h6⟩
theorem ctV_warm {s U : State} (hW : s.WarmedH U.vm) (h : ctV s) : ctV U := by
  obtain ⟨h1, h2, h3, h4, h5, h6⟩ := h
  exact ⟨va_Nw.warmM hW h1, va_Nw.warmM hW h2, va_Nw.warmM hW h3, va_Nw.warmM hW h4, va_Nw.warmM hW h5, va_AO.moved hW.alike h6⟩
abbrev ctT (I Hc : ClassId) : List (ClassId × FieldType) := [(I, .int), (Hc, .object "CanDepths$Head")]
def ctP (D : va_G) (I Hc : ClassId) (sz : Nat) (ws : va_W) (U : State) : Prop := U.heap.size = sz ∧ va_P D vwCl ws U.heap ∧ va_K D vwCl (ctT I Hc) U ∧ va_D (fun _ => True) ws ∧ ctV U
theorem ctP_blind {av : List Value} {D : va_G} {I Hc : ClassId} {sz : Nat} {ws : va_W} : FrameBlind (va_Pc av (ctP D I Hc sz ws)) := by
  intro a U f mk h
  obtain ⟨h0, h1, h2, h3, h4, h5⟩ := h
  exact ⟨h0, h1, h2, va_K.moved (u := U) (U := U.calling f mk a) (Vm.Alike.refl U.vm) h3, h4, ctV_calling h5⟩
def ctRm (fr lo mc ms : Nat) : Room := { frames := fr, cells := mc, slots := ms, locals := lo }
def ctM (l : Launch) (D : va_G) (I Hc : ClassId) (y : MethodName) (cd : ByteArray) (mL fr lo mc ms h0 : Nat) (e0 : va_E) (Rs : va_W → Prop) : Prop :=
  ∀ sz : Nat, Met l y (cdWs y cd mL none) (ctRm fr lo mc ms) (va_Pc [.ref h0] (ctP D I Hc sz [(h0, e0)])) (va_Qv Rs (fun u t => va_P D vwCl u t.heap ∧ va_D (va_A [(h0, e0)] sz) u) (va_A [(h0, e0)] sz)) mc ms (va_A [(h0, e0)] sz)
section CT
variable {p : Program} {l : Launch} {e : Env} {R : Room} {s : State} {m : MethodId} {args : Array Value} {below : List Frame} {meth : Method} {c : Code} {H : Heap} {locs : List Loc} {cells slots : Nat} {Q : State → Prop}
variable {D : va_G} {I Hc : ClassId} {ws : va_W} {A : Nat → Prop} {cc : ByteArray} {pc : Nat} {ls : Array Slot} {rest : List Value}
theorem ct_na (hx : p.tables.exec = Jvm.exec) (hb : c.code = cc) (hts : ∀ w ∈ cdL, w.before args s = true) (hK : va_K D vwCl (ctT I Hc) s) (hP : va_P D vwCl ws H) (hD : va_D A ws) (hS : va_S A s.heap H locs) (hA : ∀ q, s.heap.size ≤ q → A q) {n : Int32} {N : Nat} (hn : ¬ n < 0) (hN : n.toNatClampNeg = N) (hbytes : N * 4 ≤ 536870912) (hcells : cells + 1 ≤ R.cells) (hslots : slots + N ≤ R.slots) (hdg : decode cc pc = .ok (.newarray .int, 2))
    (kk : ∀ (q : Nat) (H1 : Heap), va_P D vwCl (ws ++ [(q, .inl (I, N, .inl (fun _ => 0)))]) H1 → va_D A (ws ++ [(q, .inl (I, N, .inl (fun _ => 0)))]) → va_S A s.heap H1 locs → W p l e R s m args below meth c H1 locs (cells + 1) (slots + N) Q (F0 m (pc + 2) ls (.ref q :: rest))) : W p l e R s m args below meth c H locs cells slots Q (F0 m pc ls (.int n :: rest)) := by
  refine va_newa (atype := .int) (ty := .int) (a0 := (N, .inl (fun _ => 0))) hx hb (hts _ wa_I) rfl hK hP hD hS hA (fun cA => by rw [vp_cell_i]; rfl) hn hN hbytes hcells hslots hdg (fun q cA H1 hK1 hP1 hD1 hS1 => ?_)
  have e1 : cA = I := Option.some.inj ((show s.vm.findClass ("[" ++ (FieldType.int).toString) = some cA from (hK1.2 2 _ rfl).2).symm.trans (show s.vm.findClass ("[" ++ (FieldType.int).toString) = some I from (hK.2 0 _ rfl).2))
  subst e1
  exact kk q H1 hP1 hD1 hS1
theorem ct_nq (hx : p.tables.exec = Jvm.exec) (hb : c.code = cc) (hts : ∀ w ∈ cdL, w.before args s = true) {own : String} {index : Nat} (hown : s.vm.findClass own = some m.cls) (hcl : Cond.classLink own index RX2 ∈ cdL) (hV : ctV s) (hK : va_K D vwCl (ctT I Hc) s) (hP : va_P D vwCl ws H) (hD : va_D A ws) (hS : va_S A s.heap H locs) (hA : ∀ q, s.heap.size ≤ q → A q) {n : Int32} {N : Nat} (hn : ¬ n < 0) (hN : n.toNatClampNeg = N) (hbytes : N * 4 ≤ 536870912) (hcells : cells + 1 ≤ R.cells) (hslots : slots + N ≤ R.slots) (hdg : decode cc pc = .ok (.anewarray index, 3))
    (kk : ∀ (q : Nat) (H1 : Heap), va_P D vwCl (ws ++ [(q, .inl (Hc, N, .inr (.inr (.inr (.inr (fun _ => none))))))]) H1 → va_D A (ws ++ [(q, .inl (Hc, N, .inr (.inr (.inr (.inr (fun _ => none))))))]) → va_S A s.heap H1 locs → W p l e R s m args below meth c H1 locs (cells + 1) (slots + N) Q (F0 m (pc + 3) ls (.ref q :: rest))) : W p l e R s m args below meth c H locs cells slots Q (F0 m pc ls (.int n :: rest)) := by
  refine va_newq (C := RX2) hx hb hown (hts _ hcl) hV.2.2.2.2.2 hK hP hD hS hA hn hN hbytes hcells hslots hdg (fun q cA H1 hK1 hP1 hD1 hS1 => ?_)
  obtain ⟨_, _, _, _, _, f1⟩ := (hK1.2 2 _ rfl).2
  obtain ⟨_, _, _, _, _, f2⟩ := (hK.2 1 _ rfl).2
  have e1 : cA = Hc := Option.some.inj (f1.symm.trans f2)
  subst e1
  exact kk q H1 hP1 hD1 hS1
theorem ct_mkN {own C : String} {host : String} {nL i1 i2 ci N mL fr lo mc ms : Nat} {T : u_T} {y : MethodName} {cd : ByteArray} {fs : List Value} {Rs : Nat → va_W → Prop} (X : CallFix p m c cc nL s args cdL own) (hV : ctV s) (hK : va_K D vwCl (ctT I Hc) s) (hw : ctW own i1 C N y cd mL) (hin : ∀ w ∈ u_ws C T N, w ∈ cdL) (ty : Nat → FieldType) (hty : ∀ k, k < N → parseFieldDescriptor (T k).2.2.1 = some (ty k)) (hc : vwCl[ci]? = some (C, T, N)) (hfs : ∀ j, j < N → defaultValue (ty j) = vp_V fs j)
    (hlink : va_Nw (.methodLinkNest own i2 y host) s) (hM : ∀ q, ctM l D I Hc y cd mL fr lo mc ms q (.inr (ci, fs)) (Rs q)) (hP : va_P D vwCl ws H) (hD : va_D A ws) (hS : va_S A s.heap H locs) (hA : ∀ q, s.heap.size ≤ q → A q) (hls : ls.size = nL) (hr : ∀ q, ((Value.ref q :: rest).map fun v => v.category).sum ≤ 8) (hR : fr + 1 ≤ R.frames ∧ 8 + (mL + 11) + lo ≤ R.locals) (hcells : cells + 1 + mc ≤ R.cells) (hslots : slots + N + ms ≤ R.slots)
    (isR : List Nat) (hRr : ∀ x, isR.map (fun i => (ws ++ [x])[i]?) = ws.map some) (hn : va_nd isR = true) (hdis : ∀ i ∈ isR, i ∉ [ws.length]) (d1 : decode cc pc = .ok (.new i1, 3)) (d2 : decode cc (pc + 3) = .ok (.dup, 1)) (d3 : decode cc (pc + 4) = .ok (.invokespecial i2, 3))
    (kk : ∀ (q : Nat) (u : va_W) (H1 : Heap) (locs1 : List Loc), Rs q u → va_P D vwCl (ws ++ u) H1 → va_D A (ws ++ u) → va_S A s.heap H1 locs1 → W p l e R s m args below meth c H1 locs1 (cells + 1 + mc) (slots + N + ms) Q (F0 m (pc + 7) ls (.ref q :: rest))) : W p l e R s m args below meth c H locs cells slots Q (F0 m pc ls rest) := by
  obtain ⟨hx, hb, hml, hown, hts⟩ := X
  obtain ⟨w1, w2, w3, w4, w5, w6, w7, w8⟩ := hw
  refine va_new (ci := ci) (fs := fs) hx hb hts hin ty hty hown (hts _ w1) (hts _ w2) (hts _ w3) hK hP hD hS hA hc hfs (by omega) (by omega) d1 (fun q H1 hP1 hD1 hS1 => ?_)
  refine lv_dup hx hb d2 rfl ?_
  have hC : [ws.length].map (fun i => (ws ++ [(q, (.inr (ci, fs) : va_E))])[i]?) = [(q, (.inr (ci, fs) : va_E))].map some := by simp
  have hPc := hP1.sub (ws' := [(q, .inr (ci, fs))]) [ws.length] (by simp)
  have hDc := hD1.sub (ws' := [(q, .inr (ci, fs))]) [ws.length] (by rfl) hC
  have hFc := va_free (wc := [(q, .inr (ci, fs))]) hD1 hS1 hA [ws.length] hC
  refine va_callv (va_runIN (As := []) (rest := .ref q :: rest) ⟨hx, hb, hml, hown, hts⟩ (hM q H1.size) ⟨va_cnB 0 hts (cd_goodIn w5) rfl rfl rfl hlink (hts _ w4) w6 hR, w7, hts _ w8⟩ ⟨ctP_blind, fun U hU hW => ⟨rfl, by rw [hU], by rw [hU]; exact hPc, va_K.moved hW.alike hK, hDc.weaken (fun _ _ _ _ => trivial), ctV_warm hW hV⟩⟩ rfl rfl hls rfl (lv_room (hr q)) d3 ⟨by omega, by omega⟩) hS1 (fun q _ h => hFc q h) hFc (fun u t H2 locs2 ht _ hRu hB _ hk1 hS2 => ?_)
  obtain ⟨hP2, hD2⟩ := hB
  rw [ht] at hP2
  obtain ⟨hP3, hD3⟩ := va_join (wr := ws) (w1 := u) hP1 hD1 [ws.length] isR hC (hRr _) hn hdis hk1 hFc hP2 hD2
  exact kk q u H2 locs2 hRu hP3 hD3 hS2
theorem ct_mkI {own C : String} {nL i1 i2 ci N mL fr lo mc ms : Nat} {T : u_T} {y : MethodName} {cd : ByteArray} {fs : List Value} {Rs : Nat → va_W → Prop} (X : CallFix p m c cc nL s args cdL own) (hV : ctV s) (hK : va_K D vwCl (ctT I Hc) s) (hw : ctW own i1 C N y cd mL) (hin : ∀ w ∈ u_ws C T N, w ∈ cdL) (ty : Nat → FieldType) (hty : ∀ k, k < N → parseFieldDescriptor (T k).2.2.1 = some (ty k)) (hc : vwCl[ci]? = some (C, T, N)) (hfs : ∀ j, j < N → defaultValue (ty j) = vp_V fs j)
    (hlink : Cond.methodLink own i2 y ∈ cdL) (hM : ∀ q, ctM l D I Hc y cd mL fr lo mc ms q (.inr (ci, fs)) (Rs q)) (hP : va_P D vwCl ws H) (hD : va_D A ws) (hS : va_S A s.heap H locs) (hA : ∀ q, s.heap.size ≤ q → A q) (hls : ls.size = nL) (hr : ∀ q, ((Value.ref q :: rest).map fun v => v.category).sum ≤ 8) (hR : fr + 1 ≤ R.frames ∧ 8 + (mL + 11) + lo ≤ R.locals) (hcells : cells + 1 + mc ≤ R.cells) (hslots : slots + N + ms ≤ R.slots)
    (isR : List Nat) (hRr : ∀ x, isR.map (fun i => (ws ++ [x])[i]?) = ws.map some) (hn : va_nd isR = true) (hdis : ∀ i ∈ isR, i ∉ [ws.length]) (d1 : decode cc pc = .ok (.new i1, 3)) (d2 : decode cc (pc + 3) = .ok (.dup, 1)) (d3 : decode cc (pc + 4) = .ok (.invokespecial i2, 3))
    (kk : ∀ (q : Nat) (u : va_W) (H1 : Heap) (locs1 : List Loc), Rs q u → va_P D vwCl (ws ++ u) H1 → va_D A (ws ++ u) → va_S A s.heap H1 locs1 → W p l e R s m args below meth c H1 locs1 (cells + 1 + mc) (slots + N + ms) Q (F0 m (pc + 7) ls (.ref q :: rest))) : W p l e R s m args below meth c H locs cells slots Q (F0 m pc ls rest) := by
  obtain ⟨hx, hb, hml, hown, hts⟩ := X
  obtain ⟨w1, w2, w3, w4, w5, w6, w7, w8⟩ := hw
  refine va_new (ci := ci) (fs := fs) hx hb hts hin ty hty hown (hts _ w1) (hts _ w2) (hts _ w3) hK hP hD hS hA hc hfs (by omega) (by omega) d1 (fun q H1 hP1 hD1 hS1 => ?_)
  refine lv_dup hx hb d2 rfl ?_
  have hC : [ws.length].map (fun i => (ws ++ [(q, (.inr (ci, fs) : va_E))])[i]?) = [(q, (.inr (ci, fs) : va_E))].map some := by simp
  have hPc := hP1.sub (ws' := [(q, .inr (ci, fs))]) [ws.length] (by simp)
  have hDc := hD1.sub (ws' := [(q, .inr (ci, fs))]) [ws.length] (by rfl) hC
  have hFc := va_free (wc := [(q, .inr (ci, fs))]) hD1 hS1 hA [ws.length] hC
  refine va_callv (va_runI (As := []) (rest := .ref q :: rest) ⟨hx, hb, hml, hown, hts⟩ (hM q H1.size) ⟨callB_of 0 hts (cd_goodIn w5) rfl rfl rfl (hts _ w4) (hts _ hlink) w6 hR, w7, hts _ w8⟩ ⟨ctP_blind, fun U hU hW => ⟨rfl, by rw [hU], by rw [hU]; exact hPc, va_K.moved hW.alike hK, hDc.weaken (fun _ _ _ _ => trivial), ctV_warm hW hV⟩⟩ rfl rfl hls rfl (lv_room (hr q)) d3 ⟨by omega, by omega⟩) hS1 (fun q _ h => hFc q h) hFc (fun u t H2 locs2 ht _ hRu hB _ hk1 hS2 => ?_)
  obtain ⟨hP2, hD2⟩ := hB
  rw [ht] at hP2
  obtain ⟨hP3, hD3⟩ := va_join (wr := ws) (w1 := u) hP1 hD1 [ws.length] isR hC (hRr _) hn hdis hk1 hFc hP2 hD2
  exact kk q u H2 locs2 hRu hP3 hD3 hS2
end CT
set_option maxHeartbeats 4000000 in
set_option maxRecDepth 100000 in
theorem ct_X3 (l : Launch) (D : va_G) (I Hc : ClassId) (h0 : Nat) : ctM l D I Hc yX3_init cX3_init 1 1 12 1 60 h0 (.inr (3, [.null, .int 0])) (fun u => ∃ q2 : Nat, u = [(h0, .inr (3, [.ref q2, .int 0])), (q2, .inl (I, 60, .inl (fun _ => 0)))]) := by
  intro sz
  refine Met.ofW (cc := cX3_init) (maxL := 1) (ret := none) (by decide) rfl ?_
  intro p e s m args below meth c s₁ B hml hv
  obtain ⟨rfl, hsz, hP, hK, hD0, hV⟩ := hv
  have hx := B.exec
  have hb := B.bytes
  have hr := B.returns
  have hlocks := B.notSynchronized
  have hown : s.vm.findClass RX3 = some m.cls := findClass_of_methodNamed B.named
  have hin : meth.name = "<init>" := (name_of_methodNamed B.named B.method).1
  have hts : ∀ w ∈ cdL, w.before _ s = true := fun w hw => atoms_spec (ws := cdWs yX3_init cX3_init 1 none) B.pre w (List.mem_cons_of_mem _ hw)
  subst hsz
  have hD := hD0.self (sz := s.heap.size)
  generalize hAe : va_A [(h0, (.inr (3, [.null, .int 0]) : va_E))] s.heap.size = A at hD ⊢
  have hA : ∀ q : Nat, s.heap.size ≤ q → A q := fun q h => by rw [← hAe]; exact Or.inr h
  have hS : va_S A s.heap s.heap [] := va_S.rf
  have hl := lv_entry ([.ref h0]) (n := 1) (Nat.le_of_ble_eq_true rfl)
  rw [lg_entry_eq]
  generalize (lg_sl ([.ref h0]) ++ List.replicate (1 - (lg_sl ([.ref h0])).length) Slot.unset).toArray = ls at hl ⊢
  have hl : lv_has ls 1 [(0, .ref h0)] := hl
  obtain ⟨Qm, hQm⟩ : ∃ z, z = MQ below (va_Qv (fun u => ∃ q2 : Nat, u = [(h0, .inr (3, [.ref q2, .int 0])), (q2, .inl (I, 60, .inl (fun _ => 0)))]) (fun u t => va_P D vwCl u t.heap ∧ va_D A u) A) ([.ref h0] : List Value).toArray s 1 60 A := ⟨_, rfl⟩
  rw [← hQm]
  refine lv_aload_n hx hb dX3_init_0 rfl (lv_at hl 0 rfl) ?_
  refine W.objInit hx hb hown (hts _ wo_X3) (hts _ wo_i) (hts _ wo_c) rfl (by rw [hml]; exact hl.1) rfl dX3_init_1 (Nat.le_of_ble_eq_true rfl) (Nat.le_of_ble_eq_true rfl) ?_
  refine W.eq (g2 := F0 m 4 ls []) rfl ?_
  refine lv_aload_n hx hb dX3_init_4 rfl (lv_at hl 0 rfl) ?_
  refine lv_bipush (v := 60) hx hb dX3_init_5 (by decide) ?_
  refine ct_na (N := 60) hx hb hts hK hP hD hS hA (by decide) (by decide) (Nat.le_of_ble_eq_true rfl) (Nat.le_of_ble_eq_true rfl) (Nat.le_of_ble_eq_true rfl) dX3_init_7 (fun q2 H hP hD hS => ?_)
  refine W.widen (k := 1) (n := 60) (Nat.le_of_ble_eq_true rfl) (Nat.le_of_ble_eq_true rfl) ?_
  have hP : va_P D vwCl [(h0, .inr (3, [.null, .int 0])), (q2, .inl (I, 60, .inl (fun _ => 0)))] H := hP
  have hD : va_D A [(h0, .inr (3, [.null, .int 0])), (q2, .inl (I, 60, .inl (fun _ => 0)))] := hD
  refine va_putF (D := D) (ci := 3) (v := .ref q2) (ty := .array .int) (C := RX3) (T := TX3) (N := 2) hx hb hts inX3 tyX3 tyX3_ok nmX3 hown hK hP hD hS 0 rfl rfl 0 (by decide) (hts _ wf_X3_9) (fun _ h9 => h9) rfl hin rfl (by decide +kernel) rfl rfl (Nat.le_of_ble_eq_true rfl) dX3_init_9 (fun H locs hP hD hS => ?_)
  have hP : va_P D vwCl [(h0, .inr (3, [.ref q2, .int 0])), (q2, .inl (I, 60, .inl (fun _ => 0)))] H := hP
  have hD : va_D A [(h0, .inr (3, [.ref q2, .int 0])), (q2, .inl (I, 60, .inl (fun _ => 0)))] := hD
  refine W.widen (k := 1) (n := 60) (Nat.le_of_ble_eq_true rfl) (Nat.le_of_ble_eq_true rfl) ?_
  rw [hQm]
  exact W.vret hx hb hr (fun t ht hW => ⟨⟨_, rfl, ⟨q2, rfl⟩, by rw [ht]; exact hP, hD⟩, hS.F ht⟩) hS.2.2 dX3_init_12
set_option maxHeartbeats 4000000 in
set_option maxRecDepth 100000 in
theorem ct_X2 (l : Launch) (D : va_G) (I Hc : ClassId) (h0 : Nat) : ctM l D I Hc yX2_init cX2_init 1 1 12 1 49 h0 (.inr (2, [.null, .int 0])) (fun u => ∃ q2 : Nat, u = [(h0, .inr (2, [.ref q2, .int 3])), (q2, .inl (I, 49, .inl (fun _ => 0)))]) := by
  intro sz
  refine Met.ofW (cc := cX2_init) (maxL := 1) (ret := none) (by decide) rfl ?_
  intro p e s m args below meth c s₁ B hml hv
  obtain ⟨rfl, hsz, hP, hK, hD0, hV⟩ := hv
  have hx := B.exec
  have hb := B.bytes
  have hr := B.returns
  have hlocks := B.notSynchronized
  have hown : s.vm.findClass RX2 = some m.cls := findClass_of_methodNamed B.named
  have hin : meth.name = "<init>" := (name_of_methodNamed B.named B.method).1
  have hts : ∀ w ∈ cdL, w.before _ s = true := fun w hw => atoms_spec (ws := cdWs yX2_init cX2_init 1 none) B.pre w (List.mem_cons_of_mem _ hw)
  subst hsz
  have hD := hD0.self (sz := s.heap.size)
  generalize hAe : va_A [(h0, (.inr (2, [.null, .int 0]) : va_E))] s.heap.size = A at hD ⊢
  have hA : ∀ q : Nat, s.heap.size ≤ q → A q := fun q h => by rw [← hAe]; exact Or.inr h
  have hS : va_S A s.heap s.heap [] := va_S.rf
  have hl := lv_entry ([.ref h0]) (n := 1) (Nat.le_of_ble_eq_true rfl)
  rw [lg_entry_eq]
  generalize (lg_sl ([.ref h0]) ++ List.replicate (1 - (lg_sl ([.ref h0])).length) Slot.unset).toArray = ls at hl ⊢
  have hl : lv_has ls 1 [(0, .ref h0)] := hl
  obtain ⟨Qm, hQm⟩ : ∃ z, z = MQ below (va_Qv (fun u => ∃ q2 : Nat, u = [(h0, .inr (2, [.ref q2, .int 3])), (q2, .inl (I, 49, .inl (fun _ => 0)))]) (fun u t => va_P D vwCl u t.heap ∧ va_D A u) A) ([.ref h0] : List Value).toArray s 1 49 A := ⟨_, rfl⟩
  rw [← hQm]
  refine lv_aload_n hx hb dX2_init_0 rfl (lv_at hl 0 rfl) ?_
  refine W.objInit hx hb hown (hts _ wo_X2) (hts _ wo_i) (hts _ wo_c) rfl (by rw [hml]; exact hl.1) rfl dX2_init_1 (Nat.le_of_ble_eq_true rfl) (Nat.le_of_ble_eq_true rfl) ?_
  refine W.eq (g2 := F0 m 4 ls []) rfl ?_
  refine lv_aload_n hx hb dX2_init_4 rfl (lv_at hl 0 rfl) ?_
  refine lv_bipush (v := 49) hx hb dX2_init_5 (by decide) ?_
  refine ct_na (N := 49) hx hb hts hK hP hD hS hA (by decide) (by decide) (Nat.le_of_ble_eq_true rfl) (Nat.le_of_ble_eq_true rfl) (Nat.le_of_ble_eq_true rfl) dX2_init_7 (fun q2 H hP hD hS => ?_)
  refine W.widen (k := 1) (n := 49) (Nat.le_of_ble_eq_true rfl) (Nat.le_of_ble_eq_true rfl) ?_
  have hP : va_P D vwCl [(h0, .inr (2, [.null, .int 0])), (q2, .inl (I, 49, .inl (fun _ => 0)))] H := hP
  have hD : va_D A [(h0, .inr (2, [.null, .int 0])), (q2, .inl (I, 49, .inl (fun _ => 0)))] := hD
  refine va_putF (D := D) (ci := 2) (v := .ref q2) (ty := .array .int) (C := RX2) (T := TX2) (N := 2) hx hb hts inX2 tyX2 tyX2_ok nmX2 hown hK hP hD hS 0 rfl rfl 0 (by decide) (hts _ wf_X2_11) (fun _ h9 => h9) rfl hin rfl (by decide +kernel) rfl rfl (Nat.le_of_ble_eq_true rfl) dX2_init_9 (fun H locs hP hD hS => ?_)
  have hP : va_P D vwCl [(h0, .inr (2, [.ref q2, .int 0])), (q2, .inl (I, 49, .inl (fun _ => 0)))] H := hP
  have hD : va_D A [(h0, .inr (2, [.ref q2, .int 0])), (q2, .inl (I, 49, .inl (fun _ => 0)))] := hD
  refine lv_aload_n hx hb dX2_init_12 rfl (lv_at hl 0 rfl) ?_
  refine lv_iconst (v := 3) hx hb dX2_init_13 (by decide) ?_
  refine va_put (D := D) (ci := 2) (v := .int 3) (ty := .int) (C := RX2) (T := TX2) (N := 2) hx hb hts inX2 tyX2 tyX2_ok nmX2 hown hK hP hD hS 0 rfl rfl 1 (by decide) (hts _ wf_X2_15) (fun _ h9 => h9) rfl (by decide +kernel) rfl rfl (Nat.le_of_ble_eq_true rfl) dX2_init_14 (fun H locs hP hD hS => ?_)
  have hP : va_P D vwCl [(h0, .inr (2, [.ref q2, .int 3])), (q2, .inl (I, 49, .inl (fun _ => 0)))] H := hP
  have hD : va_D A [(h0, .inr (2, [.ref q2, .int 3])), (q2, .inl (I, 49, .inl (fun _ => 0)))] := hD
  refine W.widen (k := 1) (n := 49) (Nat.le_of_ble_eq_true rfl) (Nat.le_of_ble_eq_true rfl) ?_
  rw [hQm]
  exact W.vret hx hb hr (fun t ht hW => ⟨⟨_, rfl, ⟨q2, rfl⟩, by rw [ht]; exact hP, hD⟩, hS.F ht⟩) hS.2.2 dX2_init_17
set_option maxHeartbeats 4000000 in
set_option maxRecDepth 100000 in
theorem ct_X0 (l : Launch) (D : va_G) (I Hc : ClassId) (h0 : Nat) : ctM l D I Hc yX0_init cX0_init 1 1 12 0 0 h0 (.inr (0, [.int 0, .int 0, .int 0, .int 0, .int 0, .int 0])) (fun u => u = [(h0, .inr (0, [.int 0, .int 0, .int 0, .int 0, .int 0, .int 0]))]) := by
  intro sz
  refine Met.ofW (cc := cX0_init) (maxL := 1) (ret := none) (by decide) rfl ?_
  intro p e s m args below meth c s₁ B hml hv
  obtain ⟨rfl, hsz, hP, hK, hD0, hV⟩ := hv
  have hx := B.exec
  have hb := B.bytes
  have hr := B.returns
  have hlocks := B.notSynchronized
  have hown : s.vm.findClass RX0 = some m.cls := findClass_of_methodNamed B.named
  have hin : meth.name = "<init>" := (name_of_methodNamed B.named B.method).1
  have hts : ∀ w ∈ cdL, w.before _ s = true := fun w hw => atoms_spec (ws := cdWs yX0_init cX0_init 1 none) B.pre w (List.mem_cons_of_mem _ hw)
  subst hsz
  have hD := hD0.self (sz := s.heap.size)
  generalize hAe : va_A [(h0, (.inr (0, [.int 0, .int 0, .int 0, .int 0, .int 0, .int 0]) : va_E))] s.heap.size = A at hD ⊢
  have hA : ∀ q : Nat, s.heap.size ≤ q → A q := fun q h => by rw [← hAe]; exact Or.inr h
  have hS : va_S A s.heap s.heap [] := va_S.rf
  have hl := lv_entry ([.ref h0]) (n := 1) (Nat.le_of_ble_eq_true rfl)
  rw [lg_entry_eq]
  generalize (lg_sl ([.ref h0]) ++ List.replicate (1 - (lg_sl ([.ref h0])).length) Slot.unset).toArray = ls at hl ⊢
  have hl : lv_has ls 1 [(0, .ref h0)] := hl
  obtain ⟨Qm, hQm⟩ : ∃ z, z = MQ below (va_Qv (fun u => u = [(h0, .inr (0, [.int 0, .int 0, .int 0, .int 0, .int 0, .int 0]))]) (fun u t => va_P D vwCl u t.heap ∧ va_D A u) A) ([.ref h0] : List Value).toArray s 0 0 A := ⟨_, rfl⟩
  rw [← hQm]
  refine lv_aload_n hx hb dX0_init_0 rfl (lv_at hl 0 rfl) ?_
  refine W.objInit hx hb hown (hts _ wo_X0) (hts _ wo_i) (hts _ wo_c) rfl (by rw [hml]; exact hl.1) rfl dX0_init_1 (Nat.le_of_ble_eq_true rfl) (Nat.le_of_ble_eq_true rfl) ?_
  refine W.eq (g2 := F0 m 4 ls []) rfl ?_
  refine W.widen (k := 0) (n := 0) (Nat.le_of_ble_eq_true rfl) (Nat.le_of_ble_eq_true rfl) ?_
  rw [hQm]
  exact W.vret hx hb hr (fun t ht hW => ⟨⟨_, rfl, rfl, by rw [ht]; exact hP, hD⟩, hS.F ht⟩) hS.2.2 dX0_init_4
set_option maxHeartbeats 4000000 in
set_option maxRecDepth 100000 in
theorem ct_X4 (l : Launch) (D : va_G) (I Hc : ClassId) (h0 : Nat) : ctM l D I Hc yX4_init cX4_init 1 1 12 0 0 h0 (.inr (4, [.int 0, .int 0])) (fun u => u = [(h0, .inr (4, [.int 0, .int 1]))]) := by
  intro sz
  refine Met.ofW (cc := cX4_init) (maxL := 1) (ret := none) (by decide) rfl ?_
  intro p e s m args below meth c s₁ B hml hv
  obtain ⟨rfl, hsz, hP, hK, hD0, hV⟩ := hv
  have hx := B.exec
  have hb := B.bytes
  have hr := B.returns
  have hlocks := B.notSynchronized
  have hown : s.vm.findClass RX4 = some m.cls := findClass_of_methodNamed B.named
  have hin : meth.name = "<init>" := (name_of_methodNamed B.named B.method).1
  have hts : ∀ w ∈ cdL, w.before _ s = true := fun w hw => atoms_spec (ws := cdWs yX4_init cX4_init 1 none) B.pre w (List.mem_cons_of_mem _ hw)
  subst hsz
  have hD := hD0.self (sz := s.heap.size)
  generalize hAe : va_A [(h0, (.inr (4, [.int 0, .int 0]) : va_E))] s.heap.size = A at hD ⊢
  have hA : ∀ q : Nat, s.heap.size ≤ q → A q := fun q h => by rw [← hAe]; exact Or.inr h
  have hS : va_S A s.heap s.heap [] := va_S.rf
  have hl := lv_entry ([.ref h0]) (n := 1) (Nat.le_of_ble_eq_true rfl)
  rw [lg_entry_eq]
  generalize (lg_sl ([.ref h0]) ++ List.replicate (1 - (lg_sl ([.ref h0])).length) Slot.unset).toArray = ls at hl ⊢
  have hl : lv_has ls 1 [(0, .ref h0)] := hl
  obtain ⟨Qm, hQm⟩ : ∃ z, z = MQ below (va_Qv (fun u => u = [(h0, .inr (4, [.int 0, .int 1]))]) (fun u t => va_P D vwCl u t.heap ∧ va_D A u) A) ([.ref h0] : List Value).toArray s 0 0 A := ⟨_, rfl⟩
  rw [← hQm]
  refine lv_aload_n hx hb dX4_init_0 rfl (lv_at hl 0 rfl) ?_
  refine W.objInit hx hb hown (hts _ wo_X4) (hts _ wo_i) (hts _ wo_c) rfl (by rw [hml]; exact hl.1) rfl dX4_init_1 (Nat.le_of_ble_eq_true rfl) (Nat.le_of_ble_eq_true rfl) ?_
  refine W.eq (g2 := F0 m 4 ls []) rfl ?_
  refine lv_aload_n hx hb dX4_init_4 rfl (lv_at hl 0 rfl) ?_
  refine lv_iconst (v := 1) hx hb dX4_init_5 (by decide) ?_
  refine va_put (D := D) (ci := 4) (v := .int 1) (ty := .int) (C := RX4) (T := TX4) (N := 2) hx hb hts inX4 tyX4 tyX4_ok nmX4 hown hK hP hD hS 0 rfl rfl 1 (by decide) (hts _ wf_X4_7) (fun _ h9 => h9) rfl (by decide +kernel) rfl rfl (Nat.le_of_ble_eq_true rfl) dX4_init_6 (fun H locs hP hD hS => ?_)
  have hP : va_P D vwCl [(h0, .inr (4, [.int 0, .int 1]))] H := hP
  have hD : va_D A [(h0, .inr (4, [.int 0, .int 1]))] := hD
  refine W.widen (k := 0) (n := 0) (Nat.le_of_ble_eq_true rfl) (Nat.le_of_ble_eq_true rfl) ?_
  rw [hQm]
  exact W.vret hx hb hr (fun t ht hW => ⟨⟨_, rfl, rfl, by rw [ht]; exact hP, hD⟩, hS.F ht⟩) hS.2.2 dX4_init_9
set_option maxHeartbeats 4000000 in
set_option maxRecDepth 100000 in
theorem ct_X6 (l : Launch) (D : va_G) (I Hc : ClassId) (h0 : Nat) : ctM l D I Hc yX6_init cX6_init 1 1 12 4 671 h0 (.inr (6, [.int 0, .null, .int 0, .null, .null, .int 0, .int 0, .int 0, .int 0, .int 0, .int 0, .int 0, .int 0, .null, .int 0, .int 0, .int 0, .long 0, .long 0, .long 0])) (fun u => ∃ q20 q21 q22 q23 : Nat, u = [(h0, .inr (6, [.int 0, .ref q20, .int 0, .ref q21, .ref q22, .int 0, .int 0, .int 0, .int 0, .int 0, .int 0, .int 0, .int 0, .ref q23, .int 0, .int 0, .int 0, .long 0, .long 0, .long 0])), (q20, .inl (I, 60, .inl (fun _ => 0))), (q21, .inl (I, 5, .inl (fun _ => 0))), (q22, .inl (I, 245, .inl (fun _ => 0))), (q23, .inl (I, 361, .inl (fun _ => 0)))]) := by
  intro sz
  refine Met.ofW (cc := cX6_init) (maxL := 1) (ret := none) (by decide) rfl ?_
  intro p e s m args below meth c s₁ B hml hv
  obtain ⟨rfl, hsz, hP, hK, hD0, hV⟩ := hv
  have hx := B.exec
  have hb := B.bytes
  have hr := B.returns
  have hlocks := B.notSynchronized
  have hown : s.vm.findClass RX6 = some m.cls := findClass_of_methodNamed B.named
  have hin : meth.name = "<init>" := (name_of_methodNamed B.named B.method).1
  have hts : ∀ w ∈ cdL, w.before _ s = true := fun w hw => atoms_spec (ws := cdWs yX6_init cX6_init 1 none) B.pre w (List.mem_cons_of_mem _ hw)
  subst hsz
  have hD := hD0.self (sz := s.heap.size)
  generalize hAe : va_A [(h0, (.inr (6, [.int 0, .null, .int 0, .null, .null, .int 0, .int 0, .int 0, .int 0, .int 0, .int 0, .int 0, .int 0, .null, .int 0, .int 0, .int 0, .long 0, .long 0, .long 0]) : va_E))] s.heap.size = A at hD ⊢
  have hA : ∀ q : Nat, s.heap.size ≤ q → A q := fun q h => by rw [← hAe]; exact Or.inr h
  have hS : va_S A s.heap s.heap [] := va_S.rf
  have hl := lv_entry ([.ref h0]) (n := 1) (Nat.le_of_ble_eq_true rfl)
  rw [lg_entry_eq]
  generalize (lg_sl ([.ref h0]) ++ List.replicate (1 - (lg_sl ([.ref h0])).length) Slot.unset).toArray = ls at hl ⊢
  have hl : lv_has ls 1 [(0, .ref h0)] := hl
  obtain ⟨Qm, hQm⟩ : ∃ z, z = MQ below (va_Qv (fun u => ∃ q20 q21 q22 q23 : Nat, u = [(h0, .inr (6, [.int 0, .ref q20, .int 0, .ref q21, .ref q22, .int 0, .int 0, .int 0, .int 0, .int 0, .int 0, .int 0, .int 0, .ref q23, .int 0, .int 0, .int 0, .long 0, .long 0, .long 0])), (q20, .inl (I, 60, .inl (fun _ => 0))), (q21, .inl (I, 5, .inl (fun _ => 0))), (q22, .inl (I, 245, .inl (fun _ => 0))), (q23, .inl (I, 361, .inl (fun _ => 0)))]) (fun u t => va_P D vwCl u t.heap ∧ va_D A u) A) ([.ref h0] : List Value).toArray s 4 671 A := ⟨_, rfl⟩
  rw [← hQm]
  refine lv_aload_n hx hb dX6_init_0 rfl (lv_at hl 0 rfl) ?_
  refine W.objInit hx hb hown (hts _ wo_X6) (hts _ wo_i) (hts _ wo_c) rfl (by rw [hml]; exact hl.1) rfl dX6_init_1 (Nat.le_of_ble_eq_true rfl) (Nat.le_of_ble_eq_true rfl) ?_
  refine W.eq (g2 := F0 m 4 ls []) rfl ?_
  refine lv_aload_n hx hb dX6_init_4 rfl (lv_at hl 0 rfl) ?_
  refine lv_bipush (v := 60) hx hb dX6_init_5 (by decide) ?_
  refine ct_na (N := 60) hx hb hts hK hP hD hS hA (by decide) (by decide) (Nat.le_of_ble_eq_true rfl) (Nat.le_of_ble_eq_true rfl) (Nat.le_of_ble_eq_true rfl) dX6_init_7 (fun q20 H hP hD hS => ?_)
  refine W.widen (k := 1) (n := 60) (Nat.le_of_ble_eq_true rfl) (Nat.le_of_ble_eq_true rfl) ?_
  have hP : va_P D vwCl [(h0, .inr (6, [.int 0, .null, .int 0, .null, .null, .int 0, .int 0, .int 0, .int 0, .int 0, .int 0, .int 0, .int 0, .null, .int 0, .int 0, .int 0, .long 0, .long 0, .long 0])), (q20, .inl (I, 60, .inl (fun _ => 0)))] H := hP
  have hD : va_D A [(h0, .inr (6, [.int 0, .null, .int 0, .null, .null, .int 0, .int 0, .int 0, .int 0, .int 0, .int 0, .int 0, .int 0, .null, .int 0, .int 0, .int 0, .long 0, .long 0, .long 0])), (q20, .inl (I, 60, .inl (fun _ => 0)))] := hD
  refine va_putF (D := D) (ci := 6) (v := .ref q20) (ty := .array .int) (C := RX6) (T := TX6) (N := 20) hx hb hts inX6 tyX6 tyX6_ok nmX6 hown hK hP hD hS 0 rfl rfl 1 (by decide) (hts _ wf_X6_7) (fun _ h9 => h9) rfl hin rfl (by decide +kernel) rfl rfl (Nat.le_of_ble_eq_true rfl) dX6_init_9 (fun H locs hP hD hS => ?_)
  have hP : va_P D vwCl [(h0, .inr (6, [.int 0, .ref q20, .int 0, .null, .null, .int 0, .int 0, .int 0, .int 0, .int 0, .int 0, .int 0, .int 0, .null, .int 0, .int 0, .int 0, .long 0, .long 0, .long 0])), (q20, .inl (I, 60, .inl (fun _ => 0)))] H := hP
  have hD : va_D A [(h0, .inr (6, [.int 0, .ref q20, .int 0, .null, .null, .int 0, .int 0, .int 0, .int 0, .int 0, .int 0, .int 0, .int 0, .null, .int 0, .int 0, .int 0, .long 0, .long 0, .long 0])), (q20, .inl (I, 60, .inl (fun _ => 0)))] := hD
  refine lv_aload_n hx hb dX6_init_12 rfl (lv_at hl 0 rfl) ?_
  refine lv_iconst (v := 5) hx hb dX6_init_13 (by decide) ?_
  refine ct_na (N := 5) hx hb hts hK hP hD hS hA (by decide) (by decide) (Nat.le_of_ble_eq_true rfl) (Nat.le_of_ble_eq_true rfl) (Nat.le_of_ble_eq_true rfl) dX6_init_14 (fun q21 H hP hD hS => ?_)
  refine W.widen (k := 2) (n := 65) (Nat.le_of_ble_eq_true rfl) (Nat.le_of_ble_eq_true rfl) ?_
  have hP : va_P D vwCl [(h0, .inr (6, [.int 0, .ref q20, .int 0, .null, .null, .int 0, .int 0, .int 0, .int 0, .int 0, .int 0, .int 0, .int 0, .null, .int 0, .int 0, .int 0, .long 0, .long 0, .long 0])), (q20, .inl (I, 60, .inl (fun _ => 0))), (q21, .inl (I, 5, .inl (fun _ => 0)))] H := hP
  have hD : va_D A [(h0, .inr (6, [.int 0, .ref q20, .int 0, .null, .null, .int 0, .int 0, .int 0, .int 0, .int 0, .int 0, .int 0, .int 0, .null, .int 0, .int 0, .int 0, .long 0, .long 0, .long 0])), (q20, .inl (I, 60, .inl (fun _ => 0))), (q21, .inl (I, 5, .inl (fun _ => 0)))] := hD
  refine va_putF (D := D) (ci := 6) (v := .ref q21) (ty := .array .int) (C := RX6) (T := TX6) (N := 20) hx hb hts inX6 tyX6 tyX6_ok nmX6 hown hK hP hD hS 0 rfl rfl 3 (by decide) (hts _ wf_X6_13) (fun _ h9 => h9) rfl hin rfl (by decide +kernel) rfl rfl (Nat.le_of_ble_eq_true rfl) dX6_init_16 (fun H locs hP hD hS => ?_)
  have hP : va_P D vwCl [(h0, .inr (6, [.int 0, .ref q20, .int 0, .ref q21, .null, .int 0, .int 0, .int 0, .int 0, .int 0, .int 0, .int 0, .int 0, .null, .int 0, .int 0, .int 0, .long 0, .long 0, .long 0])), (q20, .inl (I, 60, .inl (fun _ => 0))), (q21, .inl (I, 5, .inl (fun _ => 0)))] H := hP
  have hD : va_D A [(h0, .inr (6, [.int 0, .ref q20, .int 0, .ref q21, .null, .int 0, .int 0, .int 0, .int 0, .int 0, .int 0, .int 0, .int 0, .null, .int 0, .int 0, .int 0, .long 0, .long 0, .long 0])), (q20, .inl (I, 60, .inl (fun _ => 0))), (q21, .inl (I, 5, .inl (fun _ => 0)))] := hD
  refine lv_aload_n hx hb dX6_init_19 rfl (lv_at hl 0 rfl) ?_
  refine lv_sipush (v := 245) hx hb dX6_init_20 (by decide) ?_
  refine ct_na (N := 245) hx hb hts hK hP hD hS hA (by decide) (by decide) (Nat.le_of_ble_eq_true rfl) (Nat.le_of_ble_eq_true rfl) (Nat.le_of_ble_eq_true rfl) dX6_init_23 (fun q22 H hP hD hS => ?_)
  refine W.widen (k := 3) (n := 310) (Nat.le_of_ble_eq_true rfl) (Nat.le_of_ble_eq_true rfl) ?_
  have hP : va_P D vwCl [(h0, .inr (6, [.int 0, .ref q20, .int 0, .ref q21, .null, .int 0, .int 0, .int 0, .int 0, .int 0, .int 0, .int 0, .int 0, .null, .int 0, .int 0, .int 0, .long 0, .long 0, .long 0])), (q20, .inl (I, 60, .inl (fun _ => 0))), (q21, .inl (I, 5, .inl (fun _ => 0))), (q22, .inl (I, 245, .inl (fun _ => 0)))] H := hP
  have hD : va_D A [(h0, .inr (6, [.int 0, .ref q20, .int 0, .ref q21, .null, .int 0, .int 0, .int 0, .int 0, .int 0, .int 0, .int 0, .int 0, .null, .int 0, .int 0, .int 0, .long 0, .long 0, .long 0])), (q20, .inl (I, 60, .inl (fun _ => 0))), (q21, .inl (I, 5, .inl (fun _ => 0))), (q22, .inl (I, 245, .inl (fun _ => 0)))] := hD
  refine va_putF (D := D) (ci := 6) (v := .ref q22) (ty := .array .int) (C := RX6) (T := TX6) (N := 20) hx hb hts inX6 tyX6 tyX6_ok nmX6 hown hK hP hD hS 0 rfl rfl 4 (by decide) (hts _ wf_X6_16) (fun _ h9 => h9) rfl hin rfl (by decide +kernel) rfl rfl (Nat.le_of_ble_eq_true rfl) dX6_init_25 (fun H locs hP hD hS => ?_)
  have hP : va_P D vwCl [(h0, .inr (6, [.int 0, .ref q20, .int 0, .ref q21, .ref q22, .int 0, .int 0, .int 0, .int 0, .int 0, .int 0, .int 0, .int 0, .null, .int 0, .int 0, .int 0, .long 0, .long 0, .long 0])), (q20, .inl (I, 60, .inl (fun _ => 0))), (q21, .inl (I, 5, .inl (fun _ => 0))), (q22, .inl (I, 245, .inl (fun _ => 0)))] H := hP
  have hD : va_D A [(h0, .inr (6, [.int 0, .ref q20, .int 0, .ref q21, .ref q22, .int 0, .int 0, .int 0, .int 0, .int 0, .int 0, .int 0, .int 0, .null, .int 0, .int 0, .int 0, .long 0, .long 0, .long 0])), (q20, .inl (I, 60, .inl (fun _ => 0))), (q21, .inl (I, 5, .inl (fun _ => 0))), (q22, .inl (I, 245, .inl (fun _ => 0)))] := hD
  refine lv_aload_n hx hb dX6_init_28 rfl (lv_at hl 0 rfl) ?_
  refine lv_sipush (v := 361) hx hb dX6_init_29 (by decide) ?_
  refine ct_na (N := 361) hx hb hts hK hP hD hS hA (by decide) (by decide) (Nat.le_of_ble_eq_true rfl) (Nat.le_of_ble_eq_true rfl) (Nat.le_of_ble_eq_true rfl) dX6_init_32 (fun q23 H hP hD hS => ?_)
  refine W.widen (k := 4) (n := 671) (Nat.le_of_ble_eq_true rfl) (Nat.le_of_ble_eq_true rfl) ?_
  have hP : va_P D vwCl [(h0, .inr (6, [.int 0, .ref q20, .int 0, .ref q21, .ref q22, .int 0, .int 0, .int 0, .int 0, .int 0, .int 0, .int 0, .int 0, .null, .int 0, .int 0, .int 0, .long 0, .long 0, .long 0])), (q20, .inl (I, 60, .inl (fun _ => 0))), (q21, .inl (I, 5, .inl (fun _ => 0))), (q22, .inl (I, 245, .inl (fun _ => 0))), (q23, .inl (I, 361, .inl (fun _ => 0)))] H := hP
  have hD : va_D A [(h0, .inr (6, [.int 0, .ref q20, .int 0, .ref q21, .ref q22, .int 0, .int 0, .int 0, .int 0, .int 0, .int 0, .int 0, .int 0, .null, .int 0, .int 0, .int 0, .long 0, .long 0, .long 0])), (q20, .inl (I, 60, .inl (fun _ => 0))), (q21, .inl (I, 5, .inl (fun _ => 0))), (q22, .inl (I, 245, .inl (fun _ => 0))), (q23, .inl (I, 361, .inl (fun _ => 0)))] := hD
  refine va_putF (D := D) (ci := 6) (v := .ref q23) (ty := .array .int) (C := RX6) (T := TX6) (N := 20) hx hb hts inX6 tyX6 tyX6_ok nmX6 hown hK hP hD hS 0 rfl rfl 13 (by decide) (hts _ wf_X6_19) (fun _ h9 => h9) rfl hin rfl (by decide +kernel) rfl rfl (Nat.le_of_ble_eq_true rfl) dX6_init_34 (fun H locs hP hD hS => ?_)
  have hP : va_P D vwCl [(h0, .inr (6, [.int 0, .ref q20, .int 0, .ref q21, .ref q22, .int 0, .int 0, .int 0, .int 0, .int 0, .int 0, .int 0, .int 0, .ref q23, .int 0, .int 0, .int 0, .long 0, .long 0, .long 0])), (q20, .inl (I, 60, .inl (fun _ => 0))), (q21, .inl (I, 5, .inl (fun _ => 0))), (q22, .inl (I, 245, .inl (fun _ => 0))), (q23, .inl (I, 361, .inl (fun _ => 0)))] H := hP
  have hD : va_D A [(h0, .inr (6, [.int 0, .ref q20, .int 0, .ref q21, .ref q22, .int 0, .int 0, .int 0, .int 0, .int 0, .int 0, .int 0, .int 0, .ref q23, .int 0, .int 0, .int 0, .long 0, .long 0, .long 0])), (q20, .inl (I, 60, .inl (fun _ => 0))), (q21, .inl (I, 5, .inl (fun _ => 0))), (q22, .inl (I, 245, .inl (fun _ => 0))), (q23, .inl (I, 361, .inl (fun _ => 0)))] := hD
  refine W.widen (k := 4) (n := 671) (Nat.le_of_ble_eq_true rfl) (Nat.le_of_ble_eq_true rfl) ?_
  rw [hQm]
  exact W.vret hx hb hr (fun t ht hW => ⟨⟨_, rfl, ⟨q20, q21, q22, q23, rfl⟩, by rw [ht]; exact hP, hD⟩, hS.F ht⟩) hS.2.2 dX6_init_37
