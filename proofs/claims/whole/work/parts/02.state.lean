/-! THE STATE. 24 cells, by number: 0 CanDepths, 1 its Page, 2 the page's codes, 3 the row of heads, 4 Ground, 5 its cells, 6 its tally, 7 its Ratio, 8 Best, 9..13 five Heads, 14..18 their depths, 19 CanDepthsModel, 20 page, 21 sideOf, 22 depths, 23 grounds. A state: what each cell holds at each place (ints; a Head that is held: its number, 0..4), and the reference's three longs. -/
/-- the words that all methods share -/
def cdL : List Cond := lw_tbl.filter goodWord
theorem cd_in {w : Cond} (h : w ∈ lw_tbl) (hg : goodWord w = true) : w ∈ cdL := List.mem_filter.mpr ⟨h, hg⟩
theorem cd_t0 {w : Cond} (i : Nat) (h : (k2_sels lw_privs)[i]? = some w) (hg : goodWord w = true) : w ∈ cdL := cd_in (List.mem_append_left _ (List.mem_of_getElem? h)) hg
theorem cd_t1 {w : Cond} (i : Nat) (h : tables_1_1[i]? = some w) (hg : goodWord w = true) : w ∈ cdL := cd_in (List.mem_append_right _ (List.mem_append_left _ (List.mem_of_getElem? h))) hg
theorem cd_t2 {w : Cond} (i : Nat) (h : tables_1_2[i]? = some w) (hg : goodWord w = true) : w ∈ cdL := cd_in (List.mem_append_right _ (List.mem_append_right _ (List.mem_append_left _ (List.mem_of_getElem? h)))) hg
theorem cd_t3 {w : Cond} (i : Nat) (h : tables_1_3[i]? = some w) (hg : goodWord w = true) : w ∈ cdL := cd_in (List.mem_append_right _ (List.mem_append_right _ (List.mem_append_right _ (List.mem_append_left _ (List.mem_of_getElem? h))))) hg
theorem cd_t4 {w : Cond} (i : Nat) (h : tables_1_4[i]? = some w) (hg : goodWord w = true) : w ∈ cdL := cd_in (List.mem_append_right _ (List.mem_append_right _ (List.mem_append_right _ (List.mem_append_right _ (List.mem_of_getElem? h))))) hg
theorem cd_us {C : String} {T : u_T} {N : Nat} (h : ∀ k, k < N → u_lay C T k ∈ cdL) : ∀ w ∈ u_ws C T N, w ∈ cdL := fun w hw => by
  obtain ⟨k, hk, rfl⟩ := List.mem_map.mp hw
  exact h k (List.mem_range.mp hk)
abbrev cdS : Type := (Nat → Nat → Int32) × (Nat → Int64)
abbrev cdG : Type := (Nat → ClassId) × (Nat → Nat → Nat) × (Nat → Nat) × ClassId × ClassId × Nat
def cdD (g : cdG) : va_G := (g.1, g.2.1)
def cdA (g : cdG) (k : Nat) : Nat := g.2.2.1 k
def cdI (g : cdG) : ClassId := g.2.2.2.1
def cdH (g : cdG) : ClassId := g.2.2.2.2.1
def cdSd (g : cdG) : Nat := g.2.2.2.2.2
def cdh (v : Int32) : Nat := v.toNatClampNeg
def cdU (σ : cdS) (k j : Nat) (v : Int32) : cdS := (fun a b => if a = k ∧ b = j then v else σ.1 a b, σ.2)
def cdJ (σ : cdS) (j : Nat) (v : Int64) : cdS := (σ.1, fun b => if b = j then v else σ.2 b)
def cdEc (g : cdG) (f : Nat → Int32) (J : Nat → Int64) (k : Nat) : va_E := match k with
  | 0 => .inr (5, [.ref (cdA g 1), .ref (cdA g 3), .ref (cdA g 4), .ref (cdA g 8), .ref (cdA g (9 + cdh (f 4))), .int (f 5), .int (f 6), .int (f 7), .int (f 8)])
  | 1 => .inr (3, [.ref (cdA g 2), .int (f 1)])
  | 2 => .inl (cdI g, 60, .inl f)
  | 3 => .inl (cdH g, 4, .inr (.inr (.inr (.inr (fun j => some (cdA g (9 + cdh (f j))))))))
  | 4 => .inr (1, [.ref (cdA g 5), .ref (cdA g 6), .ref (cdA g 7), .int (f 3), .int (f 4)])
  | 5 => .inl (cdI g, 361, .inl f)
  | 6 => .inl (cdI g, 561, .inl f)
  | 7 => .inr (4, [.int (f 0), .int (f 1)])
  | 8 => .inr (0, [.int (f 0), .int (f 1), .int (f 2), .int (f 3), .int (f 4), .int (f 5)])
  | 9 => .inr (2, [.ref (cdA g 14), .int (f 1)])
  | 10 => .inr (2, [.ref (cdA g 15), .int (f 1)])
  | 11 => .inr (2, [.ref (cdA g 16), .int (f 1)])
  | 12 => .inr (2, [.ref (cdA g 17), .int (f 1)])
  | 13 => .inr (2, [.ref (cdA g 18), .int (f 1)])
  | 19 => .inr (6, [.int (f 0), .ref (cdA g 20), .int (f 2), .ref (cdA g 21), .ref (cdA g 22), .int (f 5), .int (f 6), .int (f 7), .int (f 8), .int (f 9), .int (f 10), .int (f 11), .int (f 12), .ref (cdA g 23), .int (f 14), .int (f 15), .int (f 16), .long (J 17), .long (J 18), .long (J 19)])
  | 20 => .inl (cdI g, 60, .inl f)
  | 21 => .inl (cdI g, 5, .inl f)
  | 22 => .inl (cdI g, 245, .inl f)
  | 23 => .inl (cdI g, 361, .inl f)
  | _ => .inl (cdI g, 49, .inl f)
def cdE (g : cdG) (σ : cdS) (k : Nat) : va_E := cdEc g (σ.1 k) σ.2 k
def cdW (g : cdG) (σ : cdS) : va_W := (List.range 24).map (fun k => (cdA g k, cdE g σ k))
def cdZ (g : cdG) (sz : Nat) : Nat → Prop := fun q => (∃ k, k < 24 ∧ q = cdA g k) ∨ sz ≤ q
abbrev cdT (g : cdG) : List (ClassId × FieldType) := [(cdI g, .int), (cdH g, .object "CanDepths$Head")]
def cdSides : Nat → Int32 := fun j => if j = 0 then 3 else if j = 1 then 5 else 7
/-- what is no cell of ours: the nest's links, the static row of sides -/
def cdV (g : cdG) (sz : Nat) (U : State) : Prop :=
  (va_Nw (.methodLinkNest RX1 113 yX5_isWithin RX5) U ∧ va_Nw (.methodLinkNest RX2 70 yX5_isWithin RX5) U) ∧
  va_Z "CanDepths$Page" "SIDES" "[I" (.ref (cdSd g)) (cdZ g sz) U U.heap ∧ va_X (cdSd g) 3 cdSides U U.heap ∧ cdSd g < sz ∧ ¬ cdZ g sz (cdSd g)
def cdDi (g : cdG) : Prop := ∀ i j, i < 24 → j < 24 → cdA g i = cdA g j → i = j
def cdP (g : cdG) (sz : Nat) (σ : cdS) (U : State) : Prop :=
  U.heap.size = sz ∧ va_P (cdD g) vwCl (cdW g σ) U.heap ∧ va_K (cdD g) vwCl (cdT g) U ∧ cdDi g ∧ cdV g sz U
theorem cdW_at (g : cdG) (σ : cdS) {k : Nat} (h : k < 24) : (cdW g σ)[k]? = some (cdA g k, cdE g σ k) := by
  unfold cdW
  rw [List.getElem?_map, List.getElem?_range h]
  rfl
theorem cdW_len (g : cdG) (σ : cdS) : (cdW g σ).length = 24 := by simp [cdW]
theorem cdW_lt {g : cdG} {σ : cdS} {k : Nat} {q : Nat × va_E} (h : (cdW g σ)[k]? = some q) : k < 24 := by
  have := (List.getElem?_eq_some_iff.mp h).1
  rwa [cdW_len] at this
theorem cdW_set (g : cdG) (σ σ' : cdS) {k : Nat} (h : k < 24) {e : va_E} (h1 : cdE g σ' k = e) (h2 : ∀ i, i ≠ k → cdE g σ' i = cdE g σ i) : (cdW g σ).set k (cdA g k, e) = cdW g σ' := by
  apply List.ext_getElem?
  intro i
  rw [List.getElem?_set, cdW_len]
  by_cases hi : k = i
  · subst hi
    rw [if_pos rfl, if_pos h, cdW_at g σ' h, h1]
  · rw [if_neg hi]
    by_cases hl : i < 24
    · rw [cdW_at g σ hl, cdW_at g σ' hl, h2 i (fun e => hi e.symm)]
    · rw [List.getElem?_eq_none (by rw [cdW_len]; omega), List.getElem?_eq_none (by rw [cdW_len]; omega)]
theorem cdU_ne {σ : cdS} {k j i : Nat} {v : Int32} (h : i ≠ k) : (cdU σ k j v).1 i = σ.1 i := by
  funext b
  simp [cdU, h]
theorem cdU_row {σ : cdS} {k j : Nat} {v : Int32} : (cdU σ k j v).1 k = upd (σ.1 k) j v := by
  funext b
  simp [cdU, upd]
theorem cdE_U {g : cdG} {σ : cdS} {k j i : Nat} {v : Int32} (h : i ≠ k) : cdE g (cdU σ k j v) i = cdE g σ i := by
  unfold cdE
  rw [cdU_ne h]
  rfl
theorem cdEc_J {g : cdG} {f : Nat → Int32} {J J' : Nat → Int64} {i : Nat} (h : i ≠ 19) : cdEc g f J i = cdEc g f J' i := by
  unfold cdEc
  split <;> first | rfl | exact absurd rfl h
theorem cdE_J {g : cdG} {σ : cdS} {j i : Nat} {v : Int64} (h : i ≠ 19) : cdE g (cdJ σ j v) i = cdE g σ i := cdEc_J h
/-- a place of a cell is written -/
theorem cdW_U {g : cdG} {σ : cdS} {k j : Nat} {v : Int32} {e : va_E} (h : k < 24) (h1 : cdEc g (upd (σ.1 k) j v) σ.2 k = e) : (cdW g σ).set k (cdA g k, e) = cdW g (cdU σ k j v) :=
  cdW_set g σ _ h (by unfold cdE; rw [cdU_row]; exact h1) (fun _ hi => cdE_U hi)
theorem cdW_J {g : cdG} {σ : cdS} {j : Nat} {v : Int64} {e : va_E} (h1 : cdE g (cdJ σ j v) 19 = e) : (cdW g σ).set 19 (cdA g 19, e) = cdW g (cdJ σ j v) :=
  cdW_set g σ _ (by decide) h1 (fun _ hi => cdE_J hi)
/-- the Heads, by their numbers -/
theorem cdE_head (g : cdG) (σ : cdS) {h : Nat} (hh : h < 5) : cdE g σ (9 + h) = .inr (2, [.ref (cdA g (14 + h)), .int (σ.1 (9 + h) 1)]) := by
  rcases (show h = 0 ∨ h = 1 ∨ h = 2 ∨ h = 3 ∨ h = 4 by omega) with rfl | rfl | rfl | rfl | rfl <;> rfl
theorem cdE_deps (g : cdG) (σ : cdS) {h : Nat} (hh : h < 5) : cdE g σ (14 + h) = .inl (cdI g, 49, .inl (σ.1 (14 + h))) := by
  rcases (show h = 0 ∨ h = 1 ∨ h = 2 ∨ h = 3 ∨ h = 4 by omega) with rfl | rfl | rfl | rfl | rfl <;> rfl
theorem cdD_all {g : cdG} (hd : cdDi g) (sz : Nat) (σ : cdS) : va_D (cdZ g sz) (cdW g σ) := by
  refine ⟨fun i j p q hp hq e => ?_, fun k q hq => ?_⟩
  · have h1 := cdW_lt hp
    have h2 := cdW_lt hq
    rw [cdW_at g σ h1] at hp
    rw [cdW_at g σ h2] at hq
    cases hp
    cases hq
    exact hd i j h1 h2 e
  · have h1 := cdW_lt hq
    rw [cdW_at g σ h1] at hq
    cases hq
    exact Or.inl ⟨k, h1, rfl⟩
theorem cdZ_mono {g : cdG} {a b : Nat} (h : a ≤ b) : ∀ q, cdZ g b q → cdZ g a q := fun q hq => hq.elim Or.inl (fun h2 => Or.inr (Nat.le_trans h h2))
theorem cdV_calling {g : cdG} {sz : Nat} {U : State} {f : JFrame} {mk : MethodId} {a : Array Value} (h : cdV g sz U) : cdV g sz (U.calling f mk a) := by
  obtain ⟨⟨h1, h2⟩, h3, h4, h5, h6⟩ := h
  exact ⟨⟨va_Nw.same rfl rfl h1, va_Nw.same rfl rfl h2⟩, va_Z.moved (u := U) (U := U.calling f mk a) (Vm.Alike.refl U.vm) h3, va_X.moved (u := U) (U := U.calling f mk a) (Vm.Alike.refl U.vm) h4, h5, h6⟩
theorem cdP_blind (av : List Value) (g : cdG) (sz : Nat) (σ : cdS) : FrameBlind (va_Pc av (cdP g sz σ)) := by
  intro a U f mk h
  obtain ⟨h0, h1, h2, h3, h4, h5⟩ := h
  exact ⟨h0, h1, h2, va_K.moved (u := U) (U := U.calling f mk a) (Vm.Alike.refl U.vm) h3, h4, cdV_calling h5⟩
/-- what a method has at every step: the machine, its code, the words, the cells' kinds -/
def cdX (p : Program) (s : State) (m : MethodId) (args : Array Value) (c : Code) (cc : ByteArray) (nL : Nat) (own : String) (g : cdG) : Prop :=
  p.tables.exec = Jvm.exec ∧ c.code = cc ∧ c.maxLocals = nL ∧ s.vm.findClass own = some m.cls ∧ (∀ w ∈ cdL, w.before args s = true) ∧ va_K (cdD g) vwCl (cdT g) s ∧ cdDi g ∧ cdV g s.heap.size s
/-- at a call: the world as it stands then -/
theorem cdP_at {p : Program} {s : State} {m : MethodId} {args : Array Value} {c : Code} {cc : ByteArray} {nL : Nat} {own : String} {g : cdG} (X : cdX p s m args c cc nL own g) {σ : cdS} {H : Heap} {locs : List Loc} (hP : va_P (cdD g) vwCl (cdW g σ) H) (hS : va_S (cdZ g s.heap.size) s.heap H locs) :
    ∀ U : State, U.heap = H → s.WarmedH U.vm → cdP g H.size σ U := by
  intro U hU hW
  obtain ⟨-, -, -, -, -, hK, hd, ⟨⟨n1, n2⟩, hZ, hX, h5, h6⟩⟩ := X
  have hsub : ∀ q, cdZ g H.size q → cdZ g s.heap.size q := cdZ_mono hS.1
  refine ⟨by rw [hU], by rw [hU]; exact hP, va_K.moved hW.alike hK, hd, ⟨va_Nw.warmM hW n1, va_Nw.warmM hW n2⟩, ?_, ?_, Nat.lt_of_lt_of_le h5 hS.1, fun h => h6 (hsub _ h)⟩
  · rw [hU]
    exact va_Z.moved hW.alike ((va_Z.kept hZ hS.2.1).narrow hsub)
  · rw [hU]
    exact va_X.moved hW.alike (hX.kept (hS.2.1 _ h5 h6))
-- contracts: the room (frames, locals), the arguments, the state ahead, what holds behind
def cdRm (fr lo : Nat) : Room := { frames := fr, cells := 0, slots := 0, locals := lo }
def cdWs (y : MethodName) (cd : ByteArray) (nL : Nat) (rt : Option FieldType) : List Cond := .code y cd nL rt :: cdL
def cdCi (l : Launch) (g : cdG) (y : MethodName) (cd : ByteArray) (nL : Nat) (rt : Option FieldType) (fr lo : Nat) (av : List Value) (σ : cdS) (Q : Int32 → cdS → Prop) : Prop :=
  ∀ sz : Nat, Met l y (cdWs y cd nL rt) (cdRm fr lo) (va_Pc av (cdP g sz σ)) (va_Qi Q (fun σ' t => va_P (cdD g) vwCl (cdW g σ') t.heap) (cdZ g sz)) 0 0 (cdZ g sz)
def cdCl (l : Launch) (g : cdG) (y : MethodName) (cd : ByteArray) (nL : Nat) (rt : Option FieldType) (fr lo : Nat) (av : List Value) (σ : cdS) (Q : Int64 → cdS → Prop) : Prop :=
  ∀ sz : Nat, Met l y (cdWs y cd nL rt) (cdRm fr lo) (va_Pc av (cdP g sz σ)) (va_Ql Q (fun σ' t => va_P (cdD g) vwCl (cdW g σ') t.heap) (cdZ g sz)) 0 0 (cdZ g sz)
def cdCv (l : Launch) (g : cdG) (y : MethodName) (cd : ByteArray) (nL : Nat) (rt : Option FieldType) (fr lo : Nat) (av : List Value) (σ : cdS) (Q : cdS → Prop) : Prop :=
  ∀ sz : Nat, Met l y (cdWs y cd nL rt) (cdRm fr lo) (va_Pc av (cdP g sz σ)) (va_Qv Q (fun σ' t => va_P (cdD g) vwCl (cdW g σ') t.heap) (cdZ g sz)) 0 0 (cdZ g sz)
/-- an answer that is the Ratio, cell 7 -/
def cdCr (l : Launch) (g : cdG) (y : MethodName) (cd : ByteArray) (nL : Nat) (rt : Option FieldType) (fr lo : Nat) (av : List Value) (σ : cdS) (Q : cdS → Prop) : Prop :=
  ∀ sz : Nat, Met l y (cdWs y cd nL rt) (cdRm fr lo) (va_Pc av (cdP g sz σ)) (va_Qr Q (fun σ' ra t => ra = cdA g 7 ∧ va_P (cdD g) vwCl (cdW g σ') t.heap) (cdZ g sz)) 0 0 (cdZ g sz)
theorem cd_goodIn {y : MethodName} {cd : ByteArray} {nL : Nat} {rt : Option FieldType} (h : Cond.code y cd nL rt ∈ cdL) : GoodIn cdL (cdWs y cd nL rt) := by
  intro w hw
  have hm : w ∈ cdL := by
    rcases List.mem_cons.mp hw with rfl | h2
    · exact h
    · exact h2
  exact ⟨hm, good_of_word (List.mem_filter.mp hm).2⟩
/-- the words of a call -/
def cdLk (own : String) (idx : Nat) (y : MethodName) (cd : ByteArray) (nL : Nat) (rt : Option FieldType) (n : Nat) : Prop :=
  Cond.initialized y.cls ∈ cdL ∧ Cond.code y cd nL rt ∈ cdL ∧ (y.cls ≠ "java/lang/invoke/MethodHandle" ∧ y.cls ≠ "java/lang/invoke/VarHandle" ∧ (parseMethodDescriptor y.desc).map (fun d => d.parameters.length) = some n) ∧ Cond.methodLink own idx y ∈ cdL
def cdLv (own : String) (idx : Nat) (C : String) (y : MethodName) (cd : ByteArray) (nL : Nat) (rt : Option FieldType) (n : Nat) : Prop :=
  cdLk own idx y cd nL rt n ∧ Cond.instanceMethod y ∈ cdL ∧ Cond.selects C y y ∈ cdL
def cdLs (own : String) (idx : Nat) (y : MethodName) (cd : ByteArray) (nL : Nat) (rt : Option FieldType) (n : Nat) : Prop :=
  cdLk own idx y cd nL rt n ∧ Cond.static y ∈ cdL
def cdLn (y : MethodName) (cd : ByteArray) (nL : Nat) (rt : Option FieldType) (n : Nat) : Prop :=
  Cond.initialized y.cls ∈ cdL ∧ Cond.code y cd nL rt ∈ cdL ∧ (y.cls ≠ "java/lang/invoke/MethodHandle" ∧ y.cls ≠ "java/lang/invoke/VarHandle" ∧ (parseMethodDescriptor y.desc).map (fun d => d.parameters.length) = some n) ∧ Cond.static y ∈ cdL
section CDR
variable {p : Program} {l : Launch} {e : Env} {R : Room} {s : State} {m : MethodId} {args : Array Value} {below : List Frame} {meth : Method} {c : Code} {H : Heap} {locs : List Loc} {cells slots : Nat} {Q : State → Prop}
variable {g : cdG} {cc : ByteArray} {nL : Nat} {own : String} {idx : Nat} {y : MethodName} {cd : ByteArray} {mL : Nat} {rt : Option FieldType} {n fr lo : Nat} {σ : cdS} {As rest st0 : List Value} {pc : Nat} {ls : Array Slot} {C : String} {Qc : Array Value → State → Outcome → State → Prop}
theorem cd_runV (X : cdX p s m args c cc nL own g) (L : cdLv own idx C y cd mL rt n) {k ci : Nat} {fs : List Value} {r : vw_C} (hk : k < 24) (he : cdE g σ k = .inr (ci, fs)) (hc : vwCl[ci]? = some r) (hC : r.1 = C)
    (hM : Met l y (cdWs y cd mL rt) (cdRm fr lo) (va_Pc (.ref (cdA g k) :: As) (cdP g H.size σ)) Qc 0 0 (cdZ g H.size))
    (hP : va_P (cdD g) vwCl (cdW g σ) H) (hS : va_S (cdZ g s.heap.size) s.heap H locs) (hst : st0 = As.reverse ++ .ref (cdA g k) :: rest) (hn : As.length = n) (hls : ls.size = nL) (hr : (rest.map fun v => v.category).sum ≤ 8) (hR : fr + 1 ≤ R.frames ∧ 8 + (mL + 11) + lo ≤ R.locals) (hce : cells ≤ R.cells ∧ slots ≤ R.slots)
    (hdg : decode cc pc = .ok (.invokevirtual idx, 3)) : va_Run p l e R s m args below meth c H locs cells slots 0 0 (F0 m pc ls st0) rest (Qc (Value.ref (cdA g k) :: As).toArray) (cdZ g H.size) := by
  have X0 := X
  obtain ⟨hx, hb, hml, hown, hts, hK, hd, hV⟩ := X
  obtain ⟨⟨l1, l2, l3, l4⟩, l5, l6⟩ := L
  have hcw : CallW R s args own C idx y cd mL rt (cdWs y cd mL rt) (cdRm fr lo) 0 0 n := ⟨callB_of n hts (cd_goodIn l2) rfl rfl rfl (hts _ l1) (hts _ l4) l3 hR, hts _ l5, hts _ l6⟩
  refine va_runV (Ts := cdL) ⟨hx, hb, hml, hown, hts⟩ hM hcw ⟨cdP_blind _ _ _ _, ?_, fun U hU hW => ⟨rfl, cdP_at X0 hP hS U hU hW⟩⟩ rfl hn hls hst (lv_room hr) hdg ⟨hce.1, hce.2⟩
  have := va_recv hK hP hc (by rw [cdW_at g σ hk, he])
  rwa [hC] at this
theorem cd_runS (X : cdX p s m args c cc nL own g) (L : cdLs own idx y cd mL rt n)
    (hM : Met l y (cdWs y cd mL rt) (cdRm fr lo) (va_Pc As (cdP g H.size σ)) Qc 0 0 (cdZ g H.size))
    (hP : va_P (cdD g) vwCl (cdW g σ) H) (hS : va_S (cdZ g s.heap.size) s.heap H locs) (hst : st0 = As.reverse ++ rest) (hn : As.length = n) (hls : ls.size = nL) (hr : (rest.map fun v => v.category).sum ≤ 8) (hR : fr + 1 ≤ R.frames ∧ 8 + (mL + 11) + lo ≤ R.locals) (hce : cells ≤ R.cells ∧ slots ≤ R.slots)
    (hdg : decode cc pc = .ok (.invokestatic idx, 3)) : va_Run p l e R s m args below meth c H locs cells slots 0 0 (F0 m pc ls st0) rest (Qc As.toArray) (cdZ g H.size) := by
  have X0 := X
  obtain ⟨hx, hb, hml, hown, hts, hK, hd, hV⟩ := X
  obtain ⟨⟨l1, l2, l3, l4⟩, l5⟩ := L
  exact va_runS (Ts := cdL) ⟨hx, hb, hml, hown, hts⟩ hM ⟨callB_of n hts (cd_goodIn l2) rfl rfl rfl (hts _ l1) (hts _ l4) l3 hR, hts _ l5⟩ ⟨cdP_blind _ _ _ _, fun U hU hW => ⟨rfl, cdP_at X0 hP hS U hU hW⟩⟩ rfl hn hls hst (lv_room hr) hdg ⟨hce.1, hce.2⟩
theorem cd_runN {host : String} (X : cdX p s m args c cc nL own g) (L : cdLn y cd mL rt n) (hN : va_Nw (.methodLinkNest own idx y host) s)
    (hM : Met l y (cdWs y cd mL rt) (cdRm fr lo) (va_Pc As (cdP g H.size σ)) Qc 0 0 (cdZ g H.size))
    (hP : va_P (cdD g) vwCl (cdW g σ) H) (hS : va_S (cdZ g s.heap.size) s.heap H locs) (hst : st0 = As.reverse ++ rest) (hn : As.length = n) (hls : ls.size = nL) (hr : (rest.map fun v => v.category).sum ≤ 8) (hR : fr + 1 ≤ R.frames ∧ 8 + (mL + 11) + lo ≤ R.locals) (hce : cells ≤ R.cells ∧ slots ≤ R.slots)
    (hdg : decode cc pc = .ok (.invokestatic idx, 3)) : va_Run p l e R s m args below meth c H locs cells slots 0 0 (F0 m pc ls st0) rest (Qc As.toArray) (cdZ g H.size) := by
  have X0 := X
  obtain ⟨hx, hb, hml, hown, hts, hK, hd, hV⟩ := X
  obtain ⟨l1, l2, l3, l5⟩ := L
  exact va_runSN (Ts := cdL) ⟨hx, hb, hml, hown, hts⟩ hM ⟨va_cnB n hts (cd_goodIn l2) rfl rfl rfl hN (hts _ l1) l3 hR, hts _ l5, trivial⟩ ⟨cdP_blind _ _ _ _, fun U hU hW => ⟨rfl, cdP_at X0 hP hS U hU hW⟩⟩ rfl hn hls hst (lv_room hr) hdg ⟨hce.1, hce.2⟩
/-- behind a call -/
theorem cd_ci {Qp : Int32 → cdS → Prop} {a : Array Value} (hr : va_Run p l e R s m args below meth c H locs cells slots 0 0 (F0 m pc ls st0) rest (va_Qi Qp (fun σ' t => va_P (cdD g) vwCl (cdW g σ') t.heap) (cdZ g H.size) a) (cdZ g H.size)) (hS : va_S (cdZ g s.heap.size) s.heap H locs)
    (kk : ∀ (r : Int32) (σ' : cdS) (H1 : Heap) (locs1 : List Loc), Qp r σ' → va_P (cdD g) vwCl (cdW g σ') H1 → va_S (cdZ g s.heap.size) s.heap H1 locs1 → W p l e R s m args below meth c H1 locs1 cells slots Q (F0 m (pc + 3) ls (.int r :: rest))) : W p l e R s m args below meth c H locs cells slots Q (F0 m pc ls st0) :=
  va_calli hr hS (fun q _ h => cdZ_mono hS.1 q h) (cdZ_mono hS.1) (fun r u t H1 locs1 ht _ hq hB _ _ hS1 => kk r u H1 locs1 hq (by rw [← ht]; exact hB) hS1)
theorem cd_cl {Qp : Int64 → cdS → Prop} {a : Array Value} (hr : va_Run p l e R s m args below meth c H locs cells slots 0 0 (F0 m pc ls st0) rest (va_Ql Qp (fun σ' t => va_P (cdD g) vwCl (cdW g σ') t.heap) (cdZ g H.size) a) (cdZ g H.size)) (hS : va_S (cdZ g s.heap.size) s.heap H locs)
    (kk : ∀ (r : Int64) (σ' : cdS) (H1 : Heap) (locs1 : List Loc), Qp r σ' → va_P (cdD g) vwCl (cdW g σ') H1 → va_S (cdZ g s.heap.size) s.heap H1 locs1 → W p l e R s m args below meth c H1 locs1 cells slots Q (F0 m (pc + 3) ls (.long r :: rest))) : W p l e R s m args below meth c H locs cells slots Q (F0 m pc ls st0) :=
  va_calll hr hS (fun q _ h => cdZ_mono hS.1 q h) (cdZ_mono hS.1) (fun r u t H1 locs1 ht _ hq hB _ _ hS1 => kk r u H1 locs1 hq (by rw [← ht]; exact hB) hS1)
theorem cd_cv {Qp : cdS → Prop} {a : Array Value} (hr : va_Run p l e R s m args below meth c H locs cells slots 0 0 (F0 m pc ls st0) rest (va_Qv Qp (fun σ' t => va_P (cdD g) vwCl (cdW g σ') t.heap) (cdZ g H.size) a) (cdZ g H.size)) (hS : va_S (cdZ g s.heap.size) s.heap H locs)
    (kk : ∀ (σ' : cdS) (H1 : Heap) (locs1 : List Loc), Qp σ' → va_P (cdD g) vwCl (cdW g σ') H1 → va_S (cdZ g s.heap.size) s.heap H1 locs1 → W p l e R s m args below meth c H1 locs1 cells slots Q (F0 m (pc + 3) ls rest)) : W p l e R s m args below meth c H locs cells slots Q (F0 m pc ls st0) :=
  va_callv hr hS (fun q _ h => cdZ_mono hS.1 q h) (cdZ_mono hS.1) (fun u t H1 locs1 ht _ hq hB _ _ hS1 => kk u H1 locs1 hq (by rw [← ht]; exact hB) hS1)
theorem cd_cr {Qp : cdS → Prop} {a : Array Value} (hr : va_Run p l e R s m args below meth c H locs cells slots 0 0 (F0 m pc ls st0) rest (va_Qr Qp (fun σ' ra t => ra = cdA g 7 ∧ va_P (cdD g) vwCl (cdW g σ') t.heap) (cdZ g H.size) a) (cdZ g H.size)) (hS : va_S (cdZ g s.heap.size) s.heap H locs)
    (kk : ∀ (σ' : cdS) (H1 : Heap) (locs1 : List Loc), Qp σ' → va_P (cdD g) vwCl (cdW g σ') H1 → va_S (cdZ g s.heap.size) s.heap H1 locs1 → W p l e R s m args below meth c H1 locs1 cells slots Q (F0 m (pc + 3) ls (.ref (cdA g 7) :: rest))) : W p l e R s m args below meth c H locs cells slots Q (F0 m pc ls st0) :=
  va_callr hr hS (fun q _ h => cdZ_mono hS.1 q h) (cdZ_mono hS.1) (fun u ra t H1 locs1 ht _ hq hB _ _ hS1 => by
    obtain ⟨rfl, hB⟩ := hB
    exact kk u H1 locs1 hq (by rw [← ht]; exact hB) hS1)
/-- fields and rows -/
theorem cd_get (X : cdX p s m args c cc nL own g) (hP : va_P (cdD g) vwCl (cdW g σ) H) {ref C : String} {T : u_T} {N ci k j : Nat} {fs : List Value} {v : Value} (hin : ∀ w ∈ u_ws C T N, w ∈ cdL) (hk : k < 24) (he : cdE g σ k = .inr (ci, fs)) (hc : vwCl[ci]? = some (C, T, N)) (hj : j < N) (hl : Cond.fieldLink own idx ref (T j).2.1 (T j).2.2.1 ∈ cdL) (hsame : (T j).1 = ref) (hv : fs[j]? = some v) (hdg : decode cc pc = .ok (.getfield idx, 3))
    (kk : W p l e R s m args below meth c H locs cells slots Q (F0 m (pc + 3) ls (v :: rest))) : W p l e R s m args below meth c H locs cells slots Q (F0 m pc ls (.ref (cdA g k) :: rest)) := by
  obtain ⟨hx, hb, hml, hown, hts, hK, hd, hV⟩ := X
  subst hsame
  exact va_get hx hb hts hin hown hK hP k (by rw [cdW_at g σ hk, he]) hc j hj (hts _ hl) (fun _ h => h) hv hdg kk
theorem cd_put (X : cdX p s m args c cc nL own g) (hP : va_P (cdD g) vwCl (cdW g σ) H) (hS : va_S (cdZ g s.heap.size) s.heap H locs) {ref C : String} {T : u_T} {N ci k j : Nat} {fs : List Value} {v : Value} {ty : FieldType} {σ' : cdS} (hin : ∀ w ∈ u_ws C T N, w ∈ cdL) (ty0 : Nat → FieldType) (hty : ∀ k, k < N → parseFieldDescriptor (T k).2.2.1 = some (ty0 k)) (hnm : ∀ a, a < N → ∀ b, b < N → a ≠ b → (T a).2.1 ≠ (T b).2.1) (hk : k < 24) (he : cdE g σ k = .inr (ci, fs)) (hc : vwCl[ci]? = some (C, T, N)) (hj : j < N) (hl : Cond.fieldLink own idx ref (T j).2.1 (T j).2.2.1 ∈ cdL) (hsame : (T j).1 = ref) (hfin : (T j).2.2.2 = false) (hd : parseFieldDescriptor (T j).2.2.1 = some ty) (hn : narrow ty v = v) (hfit : fits ty v = true) (hlen : j < fs.length)
    (hσ : (cdW g σ).set k (cdA g k, .inr (ci, fs.set j v)) = cdW g σ') (hdg : decode cc pc = .ok (.putfield idx, 3))
    (kk : ∀ (H1 : Heap) (locs1 : List Loc), va_P (cdD g) vwCl (cdW g σ') H1 → va_S (cdZ g s.heap.size) s.heap H1 locs1 → W p l e R s m args below meth c H1 locs1 cells slots Q (F0 m (pc + 3) ls rest)) : W p l e R s m args below meth c H locs cells slots Q (F0 m pc ls (v :: .ref (cdA g k) :: rest)) := by
  obtain ⟨hx, hb, hml, hown, hts, hK, hdi, hV⟩ := X
  subst hsame
  refine va_put hx hb hts hin ty0 hty hnm hown hK hP (cdD_all hdi _ σ) hS k (by rw [cdW_at g σ hk, he]) hc j hj (hts _ hl) (fun _ h => h) hfin hd hn hfit hlen hdg (fun H1 locs1 hP1 _ hS1 => ?_)
  rw [hσ] at hP1
  exact kk H1 locs1 hP1 hS1
theorem cd_ald (X : cdX p s m args c cc nL own g) (hP : va_P (cdD g) vwCl (cdW g σ) H) {k N : Nat} {i : Int32} (hk : k < 24) (he : cdE g σ k = .inl (cdI g, N, .inl (σ.1 k))) (hi : vp_in i N) (hdg : decode cc pc = .ok (.iaload, 1))
    (kk : W p l e R s m args below meth c H locs cells slots Q (F0 m (pc + 1) ls (.int (σ.1 k i.toNatClampNeg) :: rest))) : W p l e R s m args below meth c H locs cells slots Q (F0 m pc ls (.int i :: .ref (cdA g k) :: rest)) :=
  va_iald X.1 X.2.1 X.2.2.2.2.2.1 hP k 0 (by rw [cdW_at g σ hk, he]) rfl hi hdg kk
theorem cd_ast (X : cdX p s m args c cc nL own g) (hP : va_P (cdD g) vwCl (cdW g σ) H) (hS : va_S (cdZ g s.heap.size) s.heap H locs) {k N : Nat} {i x : Int32} (hk : k < 24) (he : ∀ σ : cdS, cdE g σ k = .inl (cdI g, N, .inl (σ.1 k))) (hi : vp_in i N) (hdg : decode cc pc = .ok (.iastore, 1))
    (kk : ∀ (H1 : Heap) (locs1 : List Loc), va_P (cdD g) vwCl (cdW g (cdU σ k i.toNatClampNeg x)) H1 → va_S (cdZ g s.heap.size) s.heap H1 locs1 → W p l e R s m args below meth c H1 locs1 cells slots Q (F0 m (pc + 1) ls rest)) : W p l e R s m args below meth c H locs cells slots Q (F0 m pc ls (.int x :: .int i :: .ref (cdA g k) :: rest)) := by
  refine va_iast X.1 X.2.1 X.2.2.2.2.2.1 hP (cdD_all X.2.2.2.2.2.2.1 _ σ) hS k 0 (by rw [cdW_at g σ hk, he]) rfl hi hdg (fun H1 locs1 hP1 _ hS1 => ?_)
  rw [cdW_set g σ (cdU σ k i.toNatClampNeg x) hk (by rw [he, cdU_row]) (fun _ h => cdE_U h)] at hP1
  exact kk H1 locs1 hP1 hS1
/-- the row of heads -/
theorem cd_hld (X : cdX p s m args c cc nL own g) (hP : va_P (cdD g) vwCl (cdW g σ) H) {i : Int32} (hi : vp_in i 4) (hdg : decode cc pc = .ok (.aaload, 1))
    (kk : W p l e R s m args below meth c H locs cells slots Q (F0 m (pc + 1) ls (.ref (cdA g (9 + cdh (σ.1 3 i.toNatClampNeg))) :: rest))) : W p l e R s m args below meth c H locs cells slots Q (F0 m pc ls (.int i :: .ref (cdA g 3) :: rest)) :=
  va_aldq (C := "CanDepths$Head") X.1 X.2.1 X.2.2.2.2.2.1 hP 3 1 (cdW_at g σ (by decide)) rfl hi hdg kk
theorem cdh_nI {h : Nat} (hh : h < 5) : cdh (nI h) = h := nI_clamp (by omega)
theorem cd_hst (X : cdX p s m args c cc nL own g) (hP : va_P (cdD g) vwCl (cdW g σ) H) (hS : va_S (cdZ g s.heap.size) s.heap H locs) {i : Int32} {h : Nat} (hh : h < 5) (hi : vp_in i 4) (hdg : decode cc pc = .ok (.aastore, 1))
    (kk : ∀ (H1 : Heap) (locs1 : List Loc), va_P (cdD g) vwCl (cdW g (cdU σ 3 i.toNatClampNeg (nI h))) H1 → va_S (cdZ g s.heap.size) s.heap H1 locs1 → W p l e R s m args below meth c H1 locs1 cells slots Q (F0 m (pc + 1) ls rest)) : W p l e R s m args below meth c H locs cells slots Q (F0 m pc ls (.ref (cdA g (9 + h)) :: .int i :: .ref (cdA g 3) :: rest)) := by
  refine va_astq (r := (RX2, TX2, 2)) X.1 X.2.1 X.2.2.2.2.2.1 hP (cdD_all X.2.2.2.2.2.2.1 _ σ) hS 3 1 (9 + h) 2 (cdW_at g σ (by decide)) rfl (by rw [cdW_at g σ (show 9 + h < 24 by omega), cdE_head g σ hh]) rfl hi hdg (fun H1 locs1 hP1 _ hS1 => ?_)
  rw [cdW_set g σ (cdU σ 3 i.toNatClampNeg (nI h)) (by decide) ?_ (fun _ h => cdE_U h)] at hP1
  · exact kk H1 locs1 hP1 hS1
  · unfold cdE
    rw [cdU_row]
    show Sum.inl (cdH g, 4, Sum.inr (Sum.inr (Sum.inr (Sum.inr (fun j => some (cdA g (9 + cdh (upd (σ.1 3) i.toNatClampNeg (nI h) j)))))))) = _
    refine congrArg (fun z : Nat → Option Nat => (Sum.inl (cdH g, 4, Sum.inr (Sum.inr (Sum.inr (Sum.inr z)))) : va_E)) ?_
    funext j
    by_cases hj : j = i.toNatClampNeg
    · simp [upd, va_up, hj, cdh_nI hh]
    · simp [upd, va_up, hj]
/-- the static row of sides -/
theorem cd_gts (X : cdX p s m args c cc nL own g) (hS : va_S (cdZ g s.heap.size) s.heap H locs) (hl : Cond.fieldLink own idx "CanDepths$Page" "SIDES" "[I" ∈ cdL) (hdg : decode cc pc = .ok (.getstatic idx, 3))
    (kk : W p l e R s m args below meth c H locs cells slots Q (F0 m (pc + 3) ls (.ref (cdSd g) :: rest))) : W p l e R s m args below meth c H locs cells slots Q (F0 m pc ls rest) := by
  obtain ⟨hx, hb, hml, hown, hts, hK, hdi, hV⟩ := X
  exact va_gets hx hb hV.2.1 hS hown (hts _ hl) (fun _ h => h) hdg kk
theorem cd_sld (X : cdX p s m args c cc nL own g) (hS : va_S (cdZ g s.heap.size) s.heap H locs) {i : Int32} (hi : vp_in i 3) (hdg : decode cc pc = .ok (.iaload, 1))
    (kk : W p l e R s m args below meth c H locs cells slots Q (F0 m (pc + 1) ls (.int (cdSides i.toNatClampNeg) :: rest))) : W p l e R s m args below meth c H locs cells slots Q (F0 m pc ls (.int i :: .ref (cdSd g) :: rest)) := by
  obtain ⟨hx, hb, hml, hown, hts, hK, hdi, hV⟩ := X
  exact va_sld hx hb hV.2.2.1 hV.2.2.2.1 hV.2.2.2.2 hS hi hdg kk
end CDR
/-- a place in a method, with its state: the walk goes on from there -/
def cdCut (p : Program) (l : Launch) (e : Env) (R : Room) (s : State) (m : MethodId) (args : Array Value) (below : List Frame) (meth : Method) (c : Code) (Q : State → Prop) (g : cdG) (nL pc : Nat) (lv : List (Nat × Value)) (st : List Value) (σ : cdS) : Prop :=
  ∀ (H : Heap) (locs : List Loc) (ls : Array Slot), va_P (cdD g) vwCl (cdW g σ) H → va_S (cdZ g s.heap.size) s.heap H locs → lv_has ls nL lv → W p l e R s m args below meth c H locs 0 0 Q (F0 m pc ls st)
