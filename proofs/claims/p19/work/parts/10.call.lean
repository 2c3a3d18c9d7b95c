/-! ===== contracts: a method's end, its start, its calls ===== -/
def Qm (E : En) (r : Option V) (M' : Mem) : Array Value → State → Outcome → State → Prop := fun _ st oc t => oc = .returned (r.map (e_v E)) ∧ MOK M' ∧ (∀ v ∈ r, vok v) ∧ Rep E M' t.heap ∧ va_F (AE E) st t
abbrev QZ (E : En) (below : List Frame) (args : Array Value) (s : State) (R : Room) (r : Option V) (M' : Mem) : State → Prop := MQ below (Qm E r M') args s R.cells R.slots (AE E)
def Pm (E : En) (as : List V) (M : Mem) : Array Value → State → Prop := va_Pc (as.map (e_v E)) (fun U => MOK M ∧ (∀ v ∈ as, vok v) ∧ Rep E M U.heap ∧ va_K E.1 vwCl (tysOf E) U ∧ SpF E U U.heap)
abbrev rmOf (h k n : Nat) : Room := { frames := h, cells := k, slots := n, locals := 64 * h }
/-- a method, called with these values over this memory, answers so and leaves that memory; it nests h frames and makes at most k cells of n slots -/
def Ct (h k n : Nat) (y : MethodName) (cc : ByteArray) (mL : Nat) (ret : Option FieldType) (as : List V) (M : Mem) (r : Option V) (M' : Mem) : Prop := ∀ (E : En) (l : Launch), Met l y (Cond.code y cc mL ret :: tblG) (rmOf h k n) (Pm E as M) (Qm E r M') k n (AE E)
theorem Pm_blind (E : En) (as : List V) (M : Mem) : FrameBlind (Pm E as M) := fun a U g mk h => by
  obtain ⟨h1, hM, hv, hR, hK, hSp⟩ := h
  exact ⟨h1, hM, hv, hR, va_K.moved (u := U) (U := U.calling g mk a) (Vm.Alike.refl U.vm) hK, SpF.same (u := U) (U := U.calling g mk a) rfl hSp⟩
def vargs : Nat → List V → List (Nat × V)
  | _, [] => []
  | i, v :: vs => (i, v) :: vargs (if vcat v = 2 then i + 2 else i + 1) vs
theorem enc_vargs (E : En) : ∀ (vs : List V) (i : Nat), lv_args i (vs.map (e_v E)) = enc E (vargs i vs)
  | [], _ => rfl
  | v :: vs, i => by
    show (i, e_v E v) :: lv_args (if (e_v E v).category = 2 then i + 2 else i + 1) (vs.map (e_v E)) = (i, e_v E v) :: enc E (vargs (if vcat v = 2 then i + 2 else i + 1) vs)
    rw [e_cat, enc_vargs E vs]
theorem lok_vargs {vs : List V} (h : ∀ v ∈ vs, vok v) : ∀ (i : Nat), ∀ q ∈ vargs i vs, vok q.2 := by
  induction vs with
  | nil => intro i q hq; cases hq
  | cons v vs ih =>
    intro i q hq
    rcases List.mem_cons.mp hq with e | e
    · rw [e]; exact vhd h
    · exact ih (vtl h) _ q e
theorem lg_len (E : En) : ∀ vs : List V, (lg_sl (vs.map (e_v E))).length = (vs.map vcat).sum
  | [] => rfl
  | v :: vs => by
    have ih := lg_len E vs
    unfold lg_sl at ih ⊢
    rw [List.map_cons, List.flatMap_cons, List.length_append, ih, List.map_cons, List.sum_cons, e_cat]
    congr 1
    obtain ⟨t, x⟩ := v
    match t with
    | 0 => rfl
    | 1 => rfl
    | t + 2 => rfl
theorem Ct.of {h k n mL : Nat} {y : MethodName} {cc : ByteArray} {ret : Option FieldType} {as : List V} {M M' : Mem} {r : Option V} (hy : plainName y.cls = true) (hn : (as.map vcat).sum ≤ mL)
    (body : ∀ (E : En) (p : Program) (l : Launch) (e : Env) (s : State) (m : MethodId) (args : Array Value) (below : List Frame) (meth : Method) (c : Code), Fx E p s m args meth c cc mL y.cls ret y.name → G E p l e (rmOf h k n) s m args below meth c mL (QZ E below args s (rmOf h k n) r M') k n M 0 (vargs 0 as) []) : Ct h k n y cc mL ret as M r M' := by
  intro E l
  refine Met.ofW (cc := cc) (maxL := mL) (ret := ret) hy rfl ?_
  intro p e s m args below meth c s₁ B hml hv
  obtain ⟨hargs, hM, hvk, hR, hK, hSp⟩ := hv
  have hts := atoms_spec (ws := Cond.code y cc mL ret :: tblG) B.pre
  have F : Fx E p s m args meth c cc mL y.cls ret y.name := ⟨B.exec, B.bytes, hml, findClass_of_methodNamed B.named, fun w hw => hts w (List.mem_cons_of_mem _ hw), hK, hSp, by rw [hR.1]; exact Nat.le_add_right _ _, B.returns, B.notSynchronized, (name_of_methodNamed B.named B.method).1⟩
  have hl := lv_entry (as.map (e_v E)) (n := mL) (by rw [lg_len]; exact hn)
  rw [enc_vargs] at hl
  have hE : entryFrame m args mL = F0 m 0 ((lg_sl (as.map (e_v E)) ++ List.replicate (mL - (lg_sl (as.map (e_v E))).length) Slot.unset).toArray) [] := by rw [hargs, lg_entry_eq]
  rw [hE]
  exact body E p l e s m args below meth c F (lok_vargs hvk 0) (fun v hv => by cases hv) hM s.heap [] _ 0 0 hR va_S.rf hl (Nat.le_of_eq (Nat.zero_add k)) (Nat.le_of_eq (Nat.zero_add n))
section GC
variable {E : En} {p : Program} {l : Launch} {e : Env} {R : Room} {s : State} {m : MethodId} {args : Array Value} {below : List Frame} {meth : Method} {c : Code} {Q : State → Prop} {cc : ByteArray} {nL : Nat} {own : String} {ret : Option FieldType} {nm : String} {k n pc : Nat} {M M1 : Mem} {ls : List (Nat × V)} {st : List V}
theorem r_iret {x : Int} (F : Fx E p s m args meth c cc nL own (some .int) nm) (d : decode cc pc = .ok (.ireturn, 1)) : G E p l e R s m args below meth c nL (QZ E below args s R (some (vI x)) M) k n M pc ls [vI x] := by
  intro hls hst hM H locs lsA cells slots hR hS hl hc hs
  refine W.widen (k := R.cells) (n := R.slots) (by omega) (by omega) ?_
  exact W.iret F.1 F.2.1 F.2.2.2.2.2.2.2.2.1 (fun t ht hW => ⟨rfl, hM, (fun v hv => by cases hv; exact vhd hst), by rw [ht]; exact hR, hS.F ht⟩) hS.2.2 d F.2.2.2.2.2.2.2.2.2.1
theorem r_zret {x : Int} (hx : x = 0 ∨ x = 1) (F : Fx E p s m args meth c cc nL own (some .boolean) nm) (d : decode cc pc = .ok (.ireturn, 1)) : G E p l e R s m args below meth c nL (QZ E below args s R (some (vI x)) M) k n M pc ls [vI x] := by
  intro hls hst hM H locs lsA cells slots hR hS hl hc hs
  refine W.widen (k := R.cells) (n := R.slots) (by omega) (by omega) ?_
  exact W.zret F.1 F.2.1 F.2.2.2.2.2.2.2.2.1 (by show narrow .boolean (.int (Int32.ofInt x)) = .int (Int32.ofInt x); rcases hx with z | z <;> subst z <;> rfl) (fun t ht hW => ⟨rfl, hM, (fun v hv => by cases hv; exact vhd hst), by rw [ht]; exact hR, hS.F ht⟩) hS.2.2 d F.2.2.2.2.2.2.2.2.2.1
theorem r_lret {x : Int} (F : Fx E p s m args meth c cc nL own (some .long) nm) (d : decode cc pc = .ok (.lreturn, 1)) : G E p l e R s m args below meth c nL (QZ E below args s R (some (vL x)) M) k n M pc ls [vL x] := by
  intro hls hst hM H locs lsA cells slots hR hS hl hc hs
  refine W.widen (k := R.cells) (n := R.slots) (by omega) (by omega) ?_
  exact W.lret F.1 F.2.1 F.2.2.2.2.2.2.2.2.1 (fun t ht hW => ⟨rfl, hM, (fun v hv => by cases hv; exact vhd hst), by rw [ht]; exact hR, hS.F ht⟩) hS.2.2 d F.2.2.2.2.2.2.2.2.2.1
theorem r_aret {x : Int} {rt : FieldType} (hrt : (∃ n, rt = .object n) ∨ ∃ t, rt = .array t) (F : Fx E p s m args meth c cc nL own (some rt) nm) (d : decode cc pc = .ok (.areturn, 1)) : G E p l e R s m args below meth c nL (QZ E below args s R (some (vR x)) M) k n M pc ls [vR x] := by
  intro hls hst hM H locs lsA cells slots hR hS hl hc hs
  refine W.widen (k := R.cells) (n := R.slots) (by omega) (by omega) ?_
  exact W.aret F.1 F.2.1 F.2.2.2.2.2.2.2.2.1 hrt (va_rf_or (e_rf E x)) (fun t ht hW => ⟨rfl, hM, (fun v hv => by cases hv; trivial), by rw [ht]; exact hR, hS.F ht⟩) hS.2.2 d F.2.2.2.2.2.2.2.2.2.1
theorem r_vret  (F : Fx E p s m args meth c cc nL own none nm) (d : decode cc pc = .ok (.return_, 1)) : G E p l e R s m args below meth c nL (QZ E below args s R none M) k n M pc ls [] := by
  intro hls hst hM H locs lsA cells slots hR hS hl hc hs
  refine W.widen (k := R.cells) (n := R.slots) (by omega) (by omega) ?_
  exact W.vret F.1 F.2.1 F.2.2.2.2.2.2.2.2.1 (fun t ht hW => ⟨rfl, hM, (fun v hv => by cases hv), by rw [ht]; exact hR, hS.F ht⟩) hS.2.2 d F.2.2.2.2.2.2.2.2.2.1
/-- behind a call -/
theorem r_after {kc nc : Nat} {rv : Option V} {lsA : Array Slot} {H : Heap} {locs : List Loc} {cells slots : Nat} {st0 : List Value} {a0 : Array Value} (hrun : va_Run p l e R s m args below meth c H locs cells slots kc nc (F0 m pc lsA st0) (st.map (e_v E)) (Qm E rv M1 a0) (AE E)) (hS : va_S (AE E) s.heap H locs) (hls : ∀ q ∈ ls, vok q.2) (hst : ∀ v ∈ st, vok v) (hl : lv_has lsA nL (enc E ls)) (hc : cells + (k + kc) ≤ R.cells) (hs : slots + (n + nc) ≤ R.slots)
    (kk : G E p l e R s m args below meth c nL Q k n M1 (pc + 3) ls (rv.toList ++ st)) : W p l e R s m args below meth c H locs cells slots Q (F0 m pc lsA st0) := by
  intro T hT X
  obtain ⟨v, st₀, t, T', L, h0, X', hL, e1, e2, ⟨hv, hM1, hr, hR1, hz, hk⟩, go⟩ := hrun T hT X
  rw [h0] at hz hk
  have hv2 : v = rv.map (e_v E) := by injection hv
  have hS1 : va_S (AE E) s.heap T'.heap (locs ++ L) := ⟨Nat.le_trans hS.1 (by rw [e1]; exact hz), fun q h1 h2 => by rw [e1, hk q (Nat.lt_of_lt_of_le h1 hS.1) h2]; exact hS.2.1 q h1 h2, fun q hq => by
      rcases List.mem_append.mp hq with h | h
      · exact hS.2.2 q h
      · exact hL q h⟩
  have hst1 : ∀ w ∈ rv.toList ++ st, vok w := fun w hw => by
    rcases List.mem_append.mp hw with h | h
    · exact hr w (by simpa using h)
    · exact hst w h
  have h9 := kk hls hst1 hM1 T'.heap (locs ++ L) lsA (cells + kc) (slots + nc) (by rw [e1]; exact hR1) hS1 hl (by omega) (by omega)
  have e3 : (rv.toList ++ st).map (e_v E) = v.toList ++ st.map (e_v E) := by
    rw [hv2, List.map_append]
    cases rv <;> rfl
  rw [e3] at h9
  obtain ⟨t2, a1, b1⟩ := h9 T' rfl X'
  exact ⟨t2, go t2 a1, b1⟩
theorem e_cats (E : En) (st : List V) : ((st.map (e_v E)).map fun v => v.category).sum = (st.map vcat).sum := by
  rw [List.map_map]
  congr 1
  apply List.map_congr_left
  intro v _
  exact e_cat E v
theorem Pm_at {as : List V} {H : Heap} (F : Fx E p s m args meth c cc nL own ret nm) (hM : MOK M) (hv : ∀ v ∈ as, vok v) (hR : Rep E M H) {locs : List Loc} (hS : va_S (AE E) s.heap H locs) : ∀ U : State, U.heap = H → s.WarmedH U.vm → Pm E as M (as.map (e_v E)).toArray U := fun U hU hW =>
  ⟨rfl, hM, hv, by rw [hU]; exact hR, va_K.moved hW.alike F.2.2.2.2.2.1, by rw [hU]; exact (F.2.2.2.2.2.2.1.warm hW).kept (fun a h1 h2 => hS.2.1 a h1 h2)⟩
theorem vrev {as : List V} {st : List V} (h : ∀ v ∈ as.reverse ++ st, vok v) : (∀ v ∈ as, vok v) ∧ ∀ v ∈ st, vok v := ⟨fun v hv => h v (List.mem_append_left _ (List.mem_reverse.mpr hv)), fun v hv => h v (List.mem_append_right _ hv)⟩
/-- invokevirtual -/
theorem r_callV {a : Int} {ci N : Nat} {C : String} {T : u_T} {ty : Nat → FieldType} {as : List V} {rv : Option V} {h kc nc idx mL' : Nat} {y : MethodName} {cc' : ByteArray} {ret' : Option FieldType} (C0 : Ct h kc nc y cc' mL' ret' (vR a :: as) M rv M1) (hC : ClOk ci C T N ty) (F : Fx E p s m args meth c cc nL own ret nm) (hk : (mK M a).1 = ci) (w1 : Cond.methodLink own idx y ∈ tblG) (w2 : Cond.instanceMethod y ∈ tblG) (w3 : Cond.selects C y y ∈ tblG) (w5 : Cond.code y cc' mL' ret' ∈ tblG) (w4 : Cond.initialized y.cls ∈ tblG) (hy : y.cls ≠ "java/lang/invoke/MethodHandle" ∧ y.cls ≠ "java/lang/invoke/VarHandle" ∧ (parseMethodDescriptor y.desc).map (fun d => d.parameters.length) = some as.length) (hf : h + 1 ≤ R.frames ∧ 8 + (mL' + 11) + 64 * h ≤ R.locals) (hcat : (st.map vcat).sum ≤ 8) (d : decode cc pc = .ok (.invokevirtual idx, 3)) (kk : G E p l e R s m args below meth c nL Q k n M1 (pc + 3) ls (rv.toList ++ st)) : G E p l e R s m args below meth c nL Q (k + kc) (n + nc) M pc ls (as.reverse ++ vR a :: st) := by
  intro hls hst hM H locs lsA cells slots hR hS hl hc hs
  obtain ⟨c1, c2, -⟩ := hC
  obtain ⟨hva, hvs⟩ := vrev hst
  have h17 : (mK M a).1 < 17 := by omega
  have hP : va_P E.1 vwCl [(eB E + (a - 1).toNat, cellOf E M a)] H := fun k q hq => by
    match k, hq with
    | 0, hq => cases hq; exact hR.at hM h17
  have ea := e_v_R (E := E) (hM.2.1 a h17).1
  have hrun := va_runV (l := l) (e := e) (R := R) (below := below) (meth := meth) (H := H) (locs := locs) (cells := cells) (slots := slots) (C := C) (b := eB E + (a - 1).toNat) (As := as.map (e_v E)) (rest := st.map (e_v E)) (g := F0 m pc lsA ((as.reverse ++ vR a :: st).map (e_v E))) ⟨F.1, F.2.1, F.2.2.1, F.2.2.2.1, F.2.2.2.2.1⟩ (C0 E l) ⟨callB_of (ws' := tblG) as.length F.2.2.2.2.1 (goodWs w5) rfl rfl rfl (F.2.2.2.2.1 _ w4) (F.2.2.2.2.1 _ w1) hy hf, F.2.2.2.2.1 _ w2, F.2.2.2.2.1 _ w3⟩
    ⟨Pm_blind E _ _, va_recv (q0 := 0) F.2.2.2.2.2.1 hP c2 (by rw [cellOf_obj hk c1]; rfl), fun U hU hW => by rw [← ea, ← List.map_cons]; exact Pm_at F hM (vst1 (v := vR a) (show vok (vR a) from trivial) hva) hR hS U hU hW⟩ rfl (List.length_map ..) hl.1 (by rw [List.map_append, List.map_reverse, List.map_cons, ea]) (lv_room (by rw [e_cats]; exact hcat)) d ⟨by omega, by omega⟩
  exact r_after hrun hS hls (vtl hvs) hl hc hs kk
/-- invokestatic -/
theorem r_callS {as : List V} {rv : Option V} {h kc nc idx mL' : Nat} {y : MethodName} {cc' : ByteArray} {ret' : Option FieldType} (C0 : Ct h kc nc y cc' mL' ret' as M rv M1) (F : Fx E p s m args meth c cc nL own ret nm) (w1 : Cond.methodLink own idx y ∈ tblG) (w2 : Cond.static y ∈ tblG) (w5 : Cond.code y cc' mL' ret' ∈ tblG) (w4 : Cond.initialized y.cls ∈ tblG) (hy : y.cls ≠ "java/lang/invoke/MethodHandle" ∧ y.cls ≠ "java/lang/invoke/VarHandle" ∧ (parseMethodDescriptor y.desc).map (fun d => d.parameters.length) = some as.length) (hf : h + 1 ≤ R.frames ∧ 8 + (mL' + 11) + 64 * h ≤ R.locals) (hcat : (st.map vcat).sum ≤ 8) (d : decode cc pc = .ok (.invokestatic idx, 3)) (kk : G E p l e R s m args below meth c nL Q k n M1 (pc + 3) ls (rv.toList ++ st)) : G E p l e R s m args below meth c nL Q (k + kc) (n + nc) M pc ls (as.reverse ++ st) := by
  intro hls hst hM H locs lsA cells slots hR hS hl hc hs
  obtain ⟨hva, hvs⟩ := vrev hst
  have hrun := va_runS (l := l) (e := e) (R := R) (below := below) (meth := meth) (H := H) (locs := locs) (cells := cells) (slots := slots) (As := as.map (e_v E)) (rest := st.map (e_v E)) (g := F0 m pc lsA ((as.reverse ++ st).map (e_v E))) ⟨F.1, F.2.1, F.2.2.1, F.2.2.2.1, F.2.2.2.2.1⟩ (C0 E l) ⟨callB_of (ws' := tblG) as.length F.2.2.2.2.1 (goodWs w5) rfl rfl rfl (F.2.2.2.2.1 _ w4) (F.2.2.2.2.1 _ w1) hy hf, F.2.2.2.2.1 _ w2⟩
    ⟨Pm_blind E _ _, Pm_at F hM hva hR hS⟩ rfl (List.length_map ..) hl.1 (by rw [List.map_append, List.map_reverse]) (lv_room (by rw [e_cats]; exact hcat)) d ⟨by omega, by omega⟩
  exact r_after hrun hS hls hvs hl hc hs kk
/-- invokespecial <init> -/
theorem r_callI {a : Int} {as : List V} {rv : Option V} {h kc nc idx mL' : Nat} {y : MethodName} {cc' : ByteArray} {ret' : Option FieldType} (C0 : Ct h kc nc y cc' mL' ret' (vR a :: as) M rv M1) (hret : ret' = none) (ha : 0 < a) (F : Fx E p s m args meth c cc nL own ret nm) (w1 : Cond.methodLink own idx y ∈ tblG) (w2 : Cond.instanceMethod y ∈ tblG) (hnm : y.name = "<init>") (w5 : Cond.code y cc' mL' ret' ∈ tblG) (w4 : Cond.initialized y.cls ∈ tblG) (hy : y.cls ≠ "java/lang/invoke/MethodHandle" ∧ y.cls ≠ "java/lang/invoke/VarHandle" ∧ (parseMethodDescriptor y.desc).map (fun d => d.parameters.length) = some as.length) (hf : h + 1 ≤ R.frames ∧ 8 + (mL' + 11) + 64 * h ≤ R.locals) (hcat : (st.map vcat).sum ≤ 8) (d : decode cc pc = .ok (.invokespecial idx, 3)) (kk : G E p l e R s m args below meth c nL Q k n M1 (pc + 3) ls (rv.toList ++ st)) : G E p l e R s m args below meth c nL Q (k + kc) (n + nc) M pc ls (as.reverse ++ vR a :: st) := by
  intro hls hst hM H locs lsA cells slots hR hS hl hc hs
  subst hret
  obtain ⟨hva, hvs⟩ := vrev hst
  have ea := e_v_R (E := E) ha
  have hrun := va_runI (l := l) (e := e) (R := R) (below := below) (meth := meth) (H := H) (locs := locs) (cells := cells) (slots := slots) (b := eB E + (a - 1).toNat) (As := as.map (e_v E)) (rest := st.map (e_v E)) (g := F0 m pc lsA ((as.reverse ++ vR a :: st).map (e_v E))) ⟨F.1, F.2.1, F.2.2.1, F.2.2.2.1, F.2.2.2.2.1⟩ (C0 E l) ⟨callB_of (ws' := tblG) as.length F.2.2.2.2.1 (goodWs w5) rfl rfl rfl (F.2.2.2.2.1 _ w4) (F.2.2.2.2.1 _ w1) hy hf, hnm, F.2.2.2.2.1 _ w2⟩
    ⟨Pm_blind E _ _, fun U hU hW => by rw [← ea, ← List.map_cons]; exact Pm_at F hM (vst1 (v := vR a) (show vok (vR a) from trivial) hva) hR hS U hU hW⟩ rfl (List.length_map ..) hl.1 (by rw [List.map_append, List.map_reverse, List.map_cons, ea]) (lv_room (by rw [e_cats]; exact hcat)) d ⟨by omega, by omega⟩
  exact r_after hrun hS hls (vtl hvs) hl hc hs kk
/-- invokespecial <init> -/
theorem r_callIN {a : Int} {as : List V} {rv : Option V} {h kc nc idx mL' : Nat} {y : MethodName} {cc' : ByteArray} {ret' : Option FieldType} (C0 : Ct h kc nc y cc' mL' ret' (vR a :: as) M rv M1) (hret : ret' = none) (ha : 0 < a) (F : Fx E p s m args meth c cc nL own ret nm) (w1 : (own, idx, y) ∈ nestM) (w2 : Cond.instanceMethod y ∈ tblG) (hnm : y.name = "<init>") (w5 : Cond.code y cc' mL' ret' ∈ tblG) (w4 : Cond.initialized y.cls ∈ tblG) (hy : y.cls ≠ "java/lang/invoke/MethodHandle" ∧ y.cls ≠ "java/lang/invoke/VarHandle" ∧ (parseMethodDescriptor y.desc).map (fun d => d.parameters.length) = some as.length) (hf : h + 1 ≤ R.frames ∧ 8 + (mL' + 11) + 64 * h ≤ R.locals) (hcat : (st.map vcat).sum ≤ 8) (d : decode cc pc = .ok (.invokespecial idx, 3)) (kk : G E p l e R s m args below meth c nL Q k n M1 (pc + 3) ls (rv.toList ++ st)) : G E p l e R s m args below meth c nL Q (k + kc) (n + nc) M pc ls (as.reverse ++ vR a :: st) := by
  intro hls hst hM H locs lsA cells slots hR hS hl hc hs
  subst hret
  obtain ⟨hva, hvs⟩ := vrev hst
  have ea := e_v_R (E := E) ha
  have hrun := va_runIN (l := l) (e := e) (R := R) (below := below) (meth := meth) (H := H) (locs := locs) (cells := cells) (slots := slots) (b := eB E + (a - 1).toNat) (As := as.map (e_v E)) (rest := st.map (e_v E)) (g := F0 m pc lsA ((as.reverse ++ vR a :: st).map (e_v E))) ⟨F.1, F.2.1, F.2.2.1, F.2.2.2.1, F.2.2.2.2.1⟩ (C0 E l) ⟨va_cnB (ws' := tblG) as.length F.2.2.2.2.1 (goodWs w5) rfl rfl rfl (F.2.2.2.2.2.2.1.2.2.2.2.2.2.2.1 _ w1) (F.2.2.2.2.1 _ w4) hy hf, hnm, F.2.2.2.2.1 _ w2⟩
    ⟨Pm_blind E _ _, fun U hU hW => by rw [← ea, ← List.map_cons]; exact Pm_at F hM (vst1 (v := vR a) (show vok (vR a) from trivial) hva) hR hS U hU hW⟩ rfl (List.length_map ..) hl.1 (by rw [List.map_append, List.map_reverse, List.map_cons, ea]) (lv_room (by rw [e_cats]; exact hcat)) d ⟨by omega, by omega⟩
  exact r_after hrun hS hls (vtl hvs) hl hc hs kk
theorem r_objI {a : Int} {idx : Nat} (F : Fx E p s m args meth c cc nL own ret nm) (ha : 0 < a) (w1 : Cond.methodLink own idx Lib.objectInit ∈ tblG) (w2 : Cond.instanceMethod Lib.objectInit ∈ tblG) (w3 : Cond.code Lib.objectInit ⟨#[0xb1]⟩ 1 none ∈ tblG) (hf : 1 ≤ R.frames ∧ 20 ≤ R.locals) (hcat : (st.map vcat).sum ≤ 8) (d : decode cc pc = .ok (.invokespecial idx, 3)) (kk : G E p l e R s m args below meth c nL Q k n M (pc + 3) ls st) : G E p l e R s m args below meth c nL Q k n M pc ls (vR a :: st) := by
  intro hls hst hM H locs lsA cells slots hR hS hl hc hs
  have hh := kk hls (vtl hst) hM H locs lsA cells slots hR hS hl hc hs
  rw [List.map_cons, e_v_R ha]
  have hcat2 := e_cats E st
  exact W.objInit F.1 F.2.1 F.2.2.2.1 (F.2.2.2.2.1 _ w1) (F.2.2.2.2.1 _ w2) (F.2.2.2.2.1 _ w3) rfl (by rw [F.2.2.1]; exact hl.1) rfl d hf.1 (by show 2 * 0 + _ + 12 ≤ _; omega) hh
theorem r_max {x y : Int} {idx : Nat} (F : Fx E p s m args meth c cc nL own ret nm) (w1 : Cond.methodLink own idx Lib.Math.max.name ∈ tblG) (w2 : Cond.static Lib.Math.max.name ∈ tblG) (w3 : Cond.initialized "java/lang/Math" ∈ tblG) (w4 : Cond.code Lib.Math.max.name Lib.Math.max.code 2 (some .int) ∈ tblG) (hf : 1 ≤ R.frames ∧ 21 ≤ R.locals) (hcat : (st.map vcat).sum ≤ 8) (d : decode cc pc = .ok (.invokestatic idx, 3)) (kk : G E p l e R s m args below meth c nL Q k n M (pc + 3) ls (vI (if x < y then y else x) :: st)) : G E p l e R s m args below meth c nL Q k n M pc ls (vI y :: vI x :: st) := by
  intro hls hst hM H locs lsA cells slots hR hS hl hc hs
  have hx : InI x := vhd (vtl hst)
  have hy : InI y := vhd hst
  have hh := kk hls (vst1 (show InI (if x < y then y else x) by split <;> assumption) (vtl (vtl hst))) hM H locs lsA cells slots hR hS hl hc hs
  have hcat2 := e_cats E st
  refine va_mmax F.1 F.2.1 (by rw [F.2.2.1]; exact hl.1.symm) F.2.2.2.1 (F.2.2.2.2.1 _ w1) (F.2.2.2.2.1 _ w2) (F.2.2.2.2.1 _ w3) (F.2.2.2.2.1 _ w4) hf.1 (by omega) (by omega) (by omega) d ?_
  have e1 : (if Int32.ofInt x < Int32.ofInt y then Int32.ofInt y else Int32.ofInt x) = Int32.ofInt (if x < y then y else x) := by
    simp only [lt_I hx hy]
    split <;> rfl
  rw [show (if Int32.ofInt x < Int32.ofInt y then Int32.ofInt y else Int32.ofInt x) = Int32.ofInt (if x < y then y else x) from e1]
  exact hh
theorem r_min {x y : Int} {idx : Nat} (F : Fx E p s m args meth c cc nL own ret nm) (w1 : Cond.methodLink own idx Lib.Math.min.name ∈ tblG) (w2 : Cond.static Lib.Math.min.name ∈ tblG) (w3 : Cond.initialized "java/lang/Math" ∈ tblG) (w4 : Cond.code Lib.Math.min.name Lib.Math.min.code 2 (some .int) ∈ tblG) (hf : 1 ≤ R.frames ∧ 21 ≤ R.locals) (hcat : (st.map vcat).sum ≤ 8) (d : decode cc pc = .ok (.invokestatic idx, 3)) (kk : G E p l e R s m args below meth c nL Q k n M (pc + 3) ls (vI (if y < x then y else x) :: st)) : G E p l e R s m args below meth c nL Q k n M pc ls (vI y :: vI x :: st) := by
  intro hls hst hM H locs lsA cells slots hR hS hl hc hs
  have hx : InI x := vhd (vtl hst)
  have hy : InI y := vhd hst
  have hh := kk hls (vst1 (show InI (if y < x then y else x) by split <;> assumption) (vtl (vtl hst))) hM H locs lsA cells slots hR hS hl hc hs
  have hcat2 := e_cats E st
  refine va_mmin F.1 F.2.1 (by rw [F.2.2.1]; exact hl.1.symm) F.2.2.2.1 (F.2.2.2.2.1 _ w1) (F.2.2.2.2.1 _ w2) (F.2.2.2.2.1 _ w3) (F.2.2.2.2.1 _ w4) hf.1 (by omega) (by omega) (by omega) d ?_
  have e1 : (if Int32.ofInt y < Int32.ofInt x then Int32.ofInt y else Int32.ofInt x) = Int32.ofInt (if y < x then y else x) := by
    simp only [lt_I hy hx]
    split <;> rfl
  rw [show (if Int32.ofInt y < Int32.ofInt x then Int32.ofInt y else Int32.ofInt x) = Int32.ofInt (if y < x then y else x) from e1]
  exact hh
end GC
