/-! rows that the walks share -/
def cdm (x y : Int32) : Int32 := x - x / y * y
def cdmL (x y : Int64) : Int64 := x - x / y * y
def cdb (x : Int32) : Prop := x = 0 ∨ x = 1
theorem cdb_n {x : Int32} (h : cdb x) : narrow .boolean (.int x) = .int x := by
  rcases h with rfl | rfl <;> rfl
theorem cd_ni {x v : Int32} {z : Int} (hz : v.toInt = z) (h : ¬ x = v) : ¬ x.toInt = z := fun e => h (Int32.toInt_inj.mp (e.trans hz.symm))
theorem cdW_Uh {g : cdG} {σ : cdS} {h : Nat} {v : Int32} (hh : h < 5) : (cdW g σ).set (9 + h) (cdA g (9 + h), .inr (2, [.ref (cdA g (14 + h)), .int v])) = cdW g (cdU σ (9 + h) 1 v) :=
  cdW_set g σ _ (by omega) (by rw [cdE_head g _ hh]; simp [cdU]) (fun _ hi => cdE_U hi)
theorem cdW_sp {g : cdG} {σ : cdS} {h : Nat} (hh : h < 5) : (cdW g σ).set 0 (cdA g 0, .inr (5, [.ref (cdA g 1), .ref (cdA g 3), .ref (cdA g 4), .ref (cdA g 8), .ref (cdA g (9 + h)), .int (σ.1 0 5), .int (σ.1 0 6), .int (σ.1 0 7), .int (σ.1 0 8)])) = cdW g (cdU σ 0 4 (nI h)) := by
  refine cdW_set g σ _ (by decide) ?_ (fun _ hi => cdE_U hi)
  have h4 : (cdU σ 0 4 (nI h)).1 0 4 = nI h := by simp [cdU]
  have h5 : ∀ j, j ≠ 4 → (cdU σ 0 4 (nI h)).1 0 j = σ.1 0 j := fun j hj => by simp [cdU, hj]
  show Sum.inr (5, [Value.ref (cdA g 1), .ref (cdA g 3), .ref (cdA g 4), .ref (cdA g 8), .ref (cdA g (9 + cdh ((cdU σ 0 4 (nI h)).1 0 4))), .int ((cdU σ 0 4 (nI h)).1 0 5), .int ((cdU σ 0 4 (nI h)).1 0 6), .int ((cdU σ 0 4 (nI h)).1 0 7), .int ((cdU σ 0 4 (nI h)).1 0 8)]) = _
  rw [h4, h5 5 (by decide), h5 6 (by decide), h5 7 (by decide), h5 8 (by decide), cdh_nI hh]
theorem cd_hp {D : va_G} {cl : List vw_C} {ws : va_W} {t : State} {H : Heap} (ht : t.heap = H) (hP : va_P D cl ws H) : va_P D cl ws t.heap := by
  rw [ht]
  exact hP
/-- as Met.ofW, of the JDK's own methods that are no natives -/
theorem cd_ofW {l : Launch} {y : MethodName} {ws ws' : List Cond} {rm : Room} {Pc : Array Value → State → Prop} {Qc : Array Value → State → Outcome → State → Prop} {mc ms : Nat} {free : Addr → Prop} {cc : ByteArray} {maxL : Nat} {ret : Option FieldType}
    (hy : plainFor y = true) (hw : ws = Cond.code y cc maxL ret :: ws')
    (body : ∀ p e s m args below meth c s₁, BodyLoose p l y (headSpec ws rm) cc maxL ret e s m args below meth c s₁ → c.maxLocals = maxL → Pc args s →
      W p l e (headSpec ws rm).room s m args below meth c s.heap [] 0 0 (MQ below Qc args s mc ms free) (entryFrame m args maxL)) : Met l y ws rm Pc Qc mc ms free := by
  refine MetFree.of_bodySF (code := cc) (maxLocals := maxL) (ret := ret) hy ?_ ?_
  · intro args s m h hn
    obtain ⟨meth, c, h1, h2, h3, h4, h5, h6, -, -⟩ := Cond.code_spec hn (atoms_spec (ws := ws) h _ (by rw [hw]; exact List.mem_cons_self))
    exact ⟨meth, c, h1, h2, h3, h4, h5, h6⟩
  · intro p e s m args below meth c s₁ B hml hP _
    have hh0 : s₁.heap = s.heap := by rw [B.state]; rfl
    obtain ⟨t, a1, o, b1, b2, b3⟩ := body p e s m args below meth c s₁ B hml hP s₁ hh0 (Stand.of_body B)
    exact ⟨t, o, a1, b1, b2, ⟨b3.1, b3.2⟩⟩
section CDQ
variable {p : Program} {l : Launch} {e : Env} {R : Room} {s : State} {m : MethodId} {args : Array Value} {below : List Frame} {meth : Method} {c : Code} {H : Heap} {locs : List Loc} {cells slots : Nat} {Q : State → Prop}
variable {g : cdG} {cc : ByteArray} {nL : Nat} {own : String} {idx : Nat} {σ : cdS} {rest : List Value} {pc : Nat} {ls : Array Slot}
theorem cd_len (X : cdX p s m args c cc nL own g) (hP : va_P (cdD g) vwCl (cdW g σ) H) {k N : Nat} {v : Int32} (hk : k < 24) (he : cdE g σ k = .inl (cdI g, N, .inl (σ.1 k))) (hv : Int32.ofNat N = v) (hdg : decode cc pc = .ok (.arraylength, 1))
    (kk : W p l e R s m args below meth c H locs cells slots Q (F0 m (pc + 1) ls (.int v :: rest))) : W p l e R s m args below meth c H locs cells slots Q (F0 m pc ls (.ref (cdA g k) :: rest)) :=
  va_alen (ty := .int) X.1 X.2.1 X.2.2.2.2.2.1 hP k 0 (by rw [cdW_at g σ hk, he]) rfl hv hdg kk
theorem cd_sln (X : cdX p s m args c cc nL own g) (hS : va_S (cdZ g s.heap.size) s.heap H locs) (hdg : decode cc pc = .ok (.arraylength, 1))
    (kk : W p l e R s m args below meth c H locs cells slots Q (F0 m (pc + 1) ls (.int 3 :: rest))) : W p l e R s m args below meth c H locs cells slots Q (F0 m pc ls (.ref (cdSd g) :: rest)) := by
  obtain ⟨hx, hb, hml, hown, hts, hK, hdi, hV⟩ := X
  exact va_slen hx hb hV.2.2.1 hV.2.2.2.1 hV.2.2.2.2 hS hdg kk
end CDQ
