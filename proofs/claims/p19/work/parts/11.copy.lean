/-! ===== System.arraycopy ===== -/
def mC (M : Mem) (a0 sp a dp n : Int) : Mem := (M.1, fun b j => if b = a ∧ dp ≤ j ∧ j < dp + n then M.2.1 a0 (sp + (j - dp)) else M.2.1 b j, M.2.2)
def aC (t : Nat) (M : Mem) (a0 sp a dp n : Int) : Option Mem := if (mK M a0).1 = t ∧ (mK M a).1 = t ∧ 0 ≤ sp ∧ 0 ≤ dp ∧ 0 ≤ n ∧ sp + n ≤ ((mK M a0).2 : Int) ∧ dp + n ≤ ((mK M a).2 : Int) then some (mC M a0 sp a dp n) else none
def aCZ (t : Nat) (M : Mem) (a0 sp a dp n : Int) : Option Mem := if ((mK M a0).1 = t ∧ (mK M a).1 = t ∧ 0 ≤ sp ∧ 0 ≤ dp ∧ 0 ≤ n ∧ sp + n ≤ ((mK M a0).2 : Int) ∧ dp + n ≤ ((mK M a).2 : Int)) ∧ ∀ j : Nat, j < n.toNat → (mG M a0 (sp + (j : Int)) = 0 ∨ mG M a0 (sp + (j : Int)) = 1) then some (mC M a0 sp a dp n) else none
theorem MOK.copy {M : Mem} {a0 sp a dp n : Int} {t : Nat} (h : MOK M) (ht : 10 ≤ t) (h0 : (mK M a0).1 = t) (h1 : (mK M a).1 = t) (hs : 0 ≤ sp) : MOK (mC M a0 sp a dp n) := by
  refine ⟨fun b k => ?_, h.2.1, h.2.2⟩
  show vok (mT M b k, if b = a ∧ dp ≤ (k : Int) ∧ (k : Int) < dp + n then M.2.1 a0 (sp + ((k : Int) - dp)) else M.2.1 b k)
  by_cases e : b = a ∧ dp ≤ (k : Int) ∧ (k : Int) < dp + n
  · rw [if_pos e, e.1]
    have h2 := h.1 a0 (sp + ((k : Int) - dp)).toNat
    unfold mT at h2 ⊢
    rw [h0, if_neg (by omega), show (((sp + ((k : Int) - dp)).toNat : Nat) : Int) = sp + ((k : Int) - dp) by omega] at h2
    rw [h1, if_neg (by omega)]
    exact h2
  · rw [if_neg e]; exact h.1 b k
theorem mC_other {M : Mem} {a0 sp a dp n b j : Int} (h : b ≠ a) : mG (mC M a0 sp a dp n) b j = mG M b j := by
  show (if b = a ∧ dp ≤ j ∧ j < dp + n then M.2.1 a0 (sp + (j - dp)) else M.2.1 b j) = _
  rw [if_neg (fun z => h z.1)]
theorem nfw {a b : Nat} (h : a ≤ 8) (h2 : 60 ≤ b) : 2 * 0 + a + (nativeFrameWords "java/lang/System" "arraycopy" 5 + 11) ≤ b := by
  have h3 : nativeFrameWords "java/lang/System" "arraycopy" 5 + 11 ≤ 52 := by decide
  omega
section GZ
variable {E : En} {p : Program} {l : Launch} {e : Env} {R : Room} {s : State} {m : MethodId} {args : Array Value} {below : List Frame} {meth : Method} {c : Code} {Q : State → Prop} {cc : ByteArray} {nL : Nat} {own : String} {ret : Option FieldType} {nm : String} {k n pc : Nat} {M M1 : Mem} {ls : List (Nat × V)} {st : List V}
theorem r_copyi {a0 sp a dp x : Int} {idx : Nat} (F : Fx E p s m args meth c cc nL own ret nm) (h : aC 10 M a0 sp a dp x = some M1) (w1 : Cond.methodLink own idx arraycopyName ∈ tblG) (w2 : Cond.native arraycopyName ∈ tblG) (w3 : Cond.static arraycopyName ∈ tblG) (w4 : Cond.initialized "java/lang/System" ∈ tblG) (hf : 1 ≤ R.frames ∧ 60 ≤ R.locals) (hcat : (st.map vcat).sum ≤ 8) (d : decode cc pc = .ok (.invokestatic idx, 3)) (kk : G E p l e R s m args below meth c nL Q k n M1 (pc + 3) ls st) : G E p l e R s m args below meth c nL Q k n M pc ls (vI x :: vI dp :: vR a :: vI sp :: vR a0 :: st) := by
  intro hls hst hM H locs lsA cells slots hR hS hl hc hs
  obtain ⟨⟨k0, k1, g0, g1, g2, g3, g4⟩, rfl⟩ := ite_so h
  have h17 : (mK M a).1 < 17 := by omega
  have h170 : (mK M a0).1 < 17 := by omega
  have ix : InI x := vhd hst
  have id : InI dp := vhd (vtl hst)
  have is : InI sp := vhd (vtl (vtl (vtl hst)))
  have hA : AE E (eB E + (a - 1).toNat) := Nat.le_add_right _ _
  have ea := e_v_R (E := E) (hM.2.1 a h17).1
  have ea0 := e_v_R (E := E) (hM.2.1 a0 h170).1
  have hat := hR.at hM h17
  have hat0 := hR.at hM h170
  rw [cellOf_arr k1 (by omega), acell_i k1 rfl] at hat
  rw [cellOf_arr k0 (by omega), acell_i k0 rfl] at hat0
  have hc1 : H[eB E + (a - 1).toNat]? = some (vp_cell (E.2.2.1 10) ((mK M a).2, .inl ((fun j : Nat => Int32.ofInt (mG M a (j : Int)))))) := hat
  have hc0 : H[eB E + (a0 - 1).toNat]? = some (vp_cell (E.2.2.1 10) ((mK M a0).2, .inl ((fun j : Nat => Int32.ofInt (mG M a0 (j : Int)))))) := hat0
  have hty := (F.2.2.2.2.2.1.2 0 _ (tysOf_at E (c := 10) (by omega) (by omega))).1
  obtain ⟨-, kk0, hk0, cm0, hkk0⟩ := hty (mK M a0).2 (fun j => Value.int ((fun j : Nat => Int32.ofInt (mG M a0 (j : Int))) j))
  obtain ⟨-, kk1, hk1, cm1, hkk1⟩ := hty (mK M a).2 (fun j => Value.int ((fun j : Nat => Int32.ofInt (mG M a (j : Int))) j))
  have hM1 : MOK (mC M a0 sp a dp x) := hM.copy (by omega) k0 k1 g0
  have hcat2 := e_cats E st
  have cs : (Int32.ofInt sp).toNatClampNeg = sp.toNat := clampN_I is g0
  have cd : (Int32.ofInt dp).toNatClampNeg = dp.toNat := clampN_I id g1
  have cx : (Int32.ofInt x).toNatClampNeg = x.toNat := clampN_I ix g2
  intro T hT X
  obtain ⟨vm', X', step⟩ := X.arraycopy F.1 F.2.2.2.1 (F.2.2.2.2.1 _ w1) (F.2.2.2.2.1 _ w2) (F.2.2.2.2.1 _ w3) (F.2.2.2.2.1 _ w4) (src := eB E + (a0 - 1).toNat) (dst := eB E + (a - 1).toNat) (cs := vp_cell (E.2.2.1 10) ((mK M a0).2, .inl ((fun j : Nat => Int32.ofInt (mG M a0 (j : Int)))))) (cd := vp_cell (E.2.2.1 10) ((mK M a).2, .inl ((fun j : Nat => Int32.ofInt (mG M a (j : Int)))))) (srcPos := Int32.ofInt sp) (destPos := Int32.ofInt dp) (n := Int32.ofInt x) (by rw [hT]; exact hc0) (by rw [hT]; exact hc1)
    (fun _ h => by cases h) (fun _ h => by cases h) (fun h => by cases h) (fun h => by cases h) hk0 hk1 hkk0 hkk1 (by simp [aty, refKind]) (fun z => by have := (neg_I is).mp z; omega) (fun z => by have := (neg_I id).mp z; omega) (fun z => by have := (neg_I ix).mp z; omega)
    (by rw [toInt_I is, toInt_I ix]; show ¬ _ > ((arrV _ _ (fun j => Value.int ((fun j : Nat => Int32.ofInt (mG M a0 (j : Int))) j))).slots.size : Int); rw [arrV_size]; omega)
    (by rw [toInt_I id, toInt_I ix]; show ¬ _ > ((arrV _ _ (fun j => Value.int ((fun j : Nat => Int32.ofInt (mG M a (j : Int))) j))).slots.size : Int); rw [arrV_size]; omega)
    (fun vm₁ _ i hi => by
      rw [cx] at hi
      have e : (vp_cell (E.2.2.1 10) ((mK M a0).2, .inl ((fun j : Nat => Int32.ofInt (mG M a0 (j : Int)))))).slots.getD ((Int32.ofInt sp).toNatClampNeg + i) .null = Value.int (Int32.ofInt (mG M a0 (((Int32.ofInt sp).toNatClampNeg + i : Nat) : Int))) := by
        show (arrV _ _ _).slots.getD _ _ = _
        rw [Array.getD_eq_getD_getElem?, arrV_read _ _ (by rw [cs]; omega)]
        rfl
      rw [e]
      exact ⟨rfl, trivial⟩)
    (g := F0 m pc lsA ((vI x :: vI dp :: vR a :: vI sp :: vR a0 :: st).map (e_v E))) rfl (by rw [F.2.2.1]; exact hl.1) (rest := st.map (e_v E)) (by rw [List.map_cons, List.map_cons, List.map_cons, List.map_cons, List.map_cons, ea, ea0]; rfl) (by rw [F.2.1]; exact d) hf.1 (by show 2 * 0 + _ + (nativeFrameWords "java/lang/System" "arraycopy" 5 + 11) ≤ _; exact nfw (by omega) hf.2)
  have e1 : copied (vp_cell (E.2.2.1 10) ((mK M a0).2, .inl ((fun j : Nat => Int32.ofInt (mG M a0 (j : Int)))))) (vp_cell (E.2.2.1 10) ((mK M a).2, .inl ((fun j : Nat => Int32.ofInt (mG M a (j : Int)))))) (Int32.ofInt sp) (Int32.ofInt dp) (Int32.ofInt x) = vp_cell (E.2.2.1 10) ((mK M a).2, .inl (fun j : Nat => Int32.ofInt (mG (mC M a0 sp a dp x) a (j : Int)))) := by
    have e2 := va_copied (fun z => Value.int z) (E.2.2.1 10) (E.2.2.1 10) (n0 := (mK M a0).2) (n1 := (mK M a).2) (sp := (Int32.ofInt sp).toNatClampNeg) (dp := (Int32.ofInt dp).toNatClampNeg) (n := (Int32.ofInt x).toNatClampNeg) (fun j : Nat => Int32.ofInt (mG M a0 (j : Int))) (fun j : Nat => Int32.ofInt (mG M a (j : Int))) (by rw [cs, cx]; omega)
    refine e2.trans ?_
    rw [vp_cell_i]
    congr 1
    funext q
    rw [cs, cd, cx]
    unfold va_cpy
    by_cases hq : dp.toNat ≤ q ∧ q < dp.toNat + x.toNat
    · rw [if_pos hq]
      show Value.int (Int32.ofInt (mG M a0 _)) = Value.int (Int32.ofInt (if a = a ∧ dp ≤ (q : Int) ∧ (q : Int) < dp + x then M.2.1 a0 (sp + ((q : Int) - dp)) else M.2.1 a q))
      rw [if_pos ⟨rfl, by omega, by omega⟩, show (((sp.toNat + (q - dp.toNat) : Nat)) : Int) = sp + ((q : Int) - dp) by omega]
    · rw [if_neg hq]
      show Value.int (Int32.ofInt (mG M a _)) = Value.int (Int32.ofInt (if a = a ∧ dp ≤ (q : Int) ∧ (q : Int) < dp + x then M.2.1 a0 (sp + ((q : Int) - dp)) else M.2.1 a q))
      rw [if_neg (by omega)]
  rw [e1] at X' step
  generalize hnew : vp_cell (E.2.2.1 10) ((mK M a).2, .inl (fun j : Nat => Int32.ofInt (mG (mC M a0 sp a dp x) a (j : Int)))) = cell1 at X' step
  have hlt : eB E + (a - 1).toNat < H.size := (Array.getElem?_eq_some_iff.mp hc1).1
  have hheap : ((T.setVm vm').setCell (eB E + (a - 1).toNat) cell1).heap = H.setIfInBounds (eB E + (a - 1).toNat) cell1 := by rw [← hT]; rfl
  have oq : ∀ q : Nat, q ≠ eB E + (a - 1).toNat → (H.setIfInBounds (eB E + (a - 1).toNat) cell1)[q]? = H[q]? := fun q hq => by rw [Array.getElem?_setIfInBounds, if_neg (Ne.symm hq)]
  have hR1 : Rep E (mC M a0 sp a dp x) (H.setIfInBounds (eB E + (a - 1).toNat) cell1) := hR.upd hM h17 rfl rfl (fun b hb j => mC_other hb) (by simp) oq (by
    rw [cellOf_arr (M := mC M a0 sp a dp x) k1 (by omega), acell_i (M := mC M a0 sp a dp x) k1 rfl]
    show (H.setIfInBounds _ _)[_]? = some (vp_cell _ _)
    rw [← hnew]
    rw [Array.getElem?_setIfInBounds, if_pos rfl, if_pos hlt]
    rfl)
  obtain ⟨t, a1, b1⟩ := kk hls (vtl (vtl (vtl (vtl (vtl hst))))) hM1 _ _ lsA cells slots hR1 ⟨by simp; exact hS.1, fun q h1 h2 => by
      rw [oq q (fun e => h2 (by rw [e]; exact hA))]
      exact hS.2.1 q h1 h2, fun q hq => by
      rcases List.mem_append.mp hq with h | h
      · exact hS.2.2 q h
      · obtain ⟨z, -, hz⟩ := List.mem_map.mp h
        rw [← hz]
        exact hA⟩ hl hc hs _ hheap X'
  exact ⟨t, step t a1, b1⟩
theorem r_copyz {a0 sp a dp x : Int} {idx : Nat} (F : Fx E p s m args meth c cc nL own ret nm) (h : aCZ 11 M a0 sp a dp x = some M1) (w1 : Cond.methodLink own idx arraycopyName ∈ tblG) (w2 : Cond.native arraycopyName ∈ tblG) (w3 : Cond.static arraycopyName ∈ tblG) (w4 : Cond.initialized "java/lang/System" ∈ tblG) (hf : 1 ≤ R.frames ∧ 60 ≤ R.locals) (hcat : (st.map vcat).sum ≤ 8) (d : decode cc pc = .ok (.invokestatic idx, 3)) (kk : G E p l e R s m args below meth c nL Q k n M1 (pc + 3) ls st) : G E p l e R s m args below meth c nL Q k n M pc ls (vI x :: vI dp :: vR a :: vI sp :: vR a0 :: st) := by
  intro hls hst hM H locs lsA cells slots hR hS hl hc hs
  obtain ⟨⟨⟨k0, k1, g0, g1, g2, g3, g4⟩, g5⟩, rfl⟩ := ite_so h
  have h17 : (mK M a).1 < 17 := by omega
  have h170 : (mK M a0).1 < 17 := by omega
  have ix : InI x := vhd hst
  have id : InI dp := vhd (vtl hst)
  have is : InI sp := vhd (vtl (vtl (vtl hst)))
  have hA : AE E (eB E + (a - 1).toNat) := Nat.le_add_right _ _
  have ea := e_v_R (E := E) (hM.2.1 a h17).1
  have ea0 := e_v_R (E := E) (hM.2.1 a0 h170).1
  have hat := hR.at hM h17
  have hat0 := hR.at hM h170
  rw [cellOf_arr k1 (by omega), acell_i k1 rfl] at hat
  rw [cellOf_arr k0 (by omega), acell_i k0 rfl] at hat0
  have hc1 : H[eB E + (a - 1).toNat]? = some (vp_cell (E.2.2.1 11) ((mK M a).2, .inl ((fun j : Nat => Int32.ofInt (mG M a (j : Int)))))) := hat
  have hc0 : H[eB E + (a0 - 1).toNat]? = some (vp_cell (E.2.2.1 11) ((mK M a0).2, .inl ((fun j : Nat => Int32.ofInt (mG M a0 (j : Int)))))) := hat0
  have hty := (F.2.2.2.2.2.1.2 1 _ (tysOf_at E (c := 11) (by omega) (by omega))).1
  obtain ⟨-, kk0, hk0, cm0, hkk0⟩ := hty (mK M a0).2 (fun j => Value.int ((fun j : Nat => Int32.ofInt (mG M a0 (j : Int))) j))
  obtain ⟨-, kk1, hk1, cm1, hkk1⟩ := hty (mK M a).2 (fun j => Value.int ((fun j : Nat => Int32.ofInt (mG M a (j : Int))) j))
  have hM1 : MOK (mC M a0 sp a dp x) := hM.copy (by omega) k0 k1 g0
  have hcat2 := e_cats E st
  have cs : (Int32.ofInt sp).toNatClampNeg = sp.toNat := clampN_I is g0
  have cd : (Int32.ofInt dp).toNatClampNeg = dp.toNat := clampN_I id g1
  have cx : (Int32.ofInt x).toNatClampNeg = x.toNat := clampN_I ix g2
  intro T hT X
  obtain ⟨vm', X', step⟩ := X.arraycopy F.1 F.2.2.2.1 (F.2.2.2.2.1 _ w1) (F.2.2.2.2.1 _ w2) (F.2.2.2.2.1 _ w3) (F.2.2.2.2.1 _ w4) (src := eB E + (a0 - 1).toNat) (dst := eB E + (a - 1).toNat) (cs := vp_cell (E.2.2.1 11) ((mK M a0).2, .inl ((fun j : Nat => Int32.ofInt (mG M a0 (j : Int)))))) (cd := vp_cell (E.2.2.1 11) ((mK M a).2, .inl ((fun j : Nat => Int32.ofInt (mG M a (j : Int)))))) (srcPos := Int32.ofInt sp) (destPos := Int32.ofInt dp) (n := Int32.ofInt x) (by rw [hT]; exact hc0) (by rw [hT]; exact hc1)
    (fun _ h => by cases h) (fun _ h => by cases h) (fun h => by cases h) (fun h => by cases h) hk0 hk1 hkk0 hkk1 (by simp [aty, refKind]) (fun z => by have := (neg_I is).mp z; omega) (fun z => by have := (neg_I id).mp z; omega) (fun z => by have := (neg_I ix).mp z; omega)
    (by rw [toInt_I is, toInt_I ix]; show ¬ _ > ((arrV _ _ (fun j => Value.int ((fun j : Nat => Int32.ofInt (mG M a0 (j : Int))) j))).slots.size : Int); rw [arrV_size]; omega)
    (by rw [toInt_I id, toInt_I ix]; show ¬ _ > ((arrV _ _ (fun j => Value.int ((fun j : Nat => Int32.ofInt (mG M a (j : Int))) j))).slots.size : Int); rw [arrV_size]; omega)
    (fun vm₁ _ i hi => by
      rw [cx] at hi
      have e : (vp_cell (E.2.2.1 11) ((mK M a0).2, .inl ((fun j : Nat => Int32.ofInt (mG M a0 (j : Int)))))).slots.getD ((Int32.ofInt sp).toNatClampNeg + i) .null = Value.int (Int32.ofInt (mG M a0 (((Int32.ofInt sp).toNatClampNeg + i : Nat) : Int))) := by
        show (arrV _ _ _).slots.getD _ _ = _
        rw [Array.getD_eq_getD_getElem?, arrV_read _ _ (by rw [cs]; omega)]
        rfl
      rw [e]
      exact ⟨by rw [cs, show ((sp.toNat + i : Nat) : Int) = sp + (i : Int) by omega]; rcases g5 i hi with z | z <;> rw [z] <;> rfl, trivial⟩)
    (g := F0 m pc lsA ((vI x :: vI dp :: vR a :: vI sp :: vR a0 :: st).map (e_v E))) rfl (by rw [F.2.2.1]; exact hl.1) (rest := st.map (e_v E)) (by rw [List.map_cons, List.map_cons, List.map_cons, List.map_cons, List.map_cons, ea, ea0]; rfl) (by rw [F.2.1]; exact d) hf.1 (by show 2 * 0 + _ + (nativeFrameWords "java/lang/System" "arraycopy" 5 + 11) ≤ _; exact nfw (by omega) hf.2)
  have e1 : copied (vp_cell (E.2.2.1 11) ((mK M a0).2, .inl ((fun j : Nat => Int32.ofInt (mG M a0 (j : Int)))))) (vp_cell (E.2.2.1 11) ((mK M a).2, .inl ((fun j : Nat => Int32.ofInt (mG M a (j : Int)))))) (Int32.ofInt sp) (Int32.ofInt dp) (Int32.ofInt x) = vp_cell (E.2.2.1 11) ((mK M a).2, .inl (fun j : Nat => Int32.ofInt (mG (mC M a0 sp a dp x) a (j : Int)))) := by
    have e2 := va_copied (fun z => Value.int z) (E.2.2.1 11) (E.2.2.1 11) (n0 := (mK M a0).2) (n1 := (mK M a).2) (sp := (Int32.ofInt sp).toNatClampNeg) (dp := (Int32.ofInt dp).toNatClampNeg) (n := (Int32.ofInt x).toNatClampNeg) (fun j : Nat => Int32.ofInt (mG M a0 (j : Int))) (fun j : Nat => Int32.ofInt (mG M a (j : Int))) (by rw [cs, cx]; omega)
    refine e2.trans ?_
    rw [vp_cell_i]
    congr 1
    funext q
    rw [cs, cd, cx]
    unfold va_cpy
    by_cases hq : dp.toNat ≤ q ∧ q < dp.toNat + x.toNat
    · rw [if_pos hq]
      show Value.int (Int32.ofInt (mG M a0 _)) = Value.int (Int32.ofInt (if a = a ∧ dp ≤ (q : Int) ∧ (q : Int) < dp + x then M.2.1 a0 (sp + ((q : Int) - dp)) else M.2.1 a q))
      rw [if_pos ⟨rfl, by omega, by omega⟩, show (((sp.toNat + (q - dp.toNat) : Nat)) : Int) = sp + ((q : Int) - dp) by omega]
    · rw [if_neg hq]
      show Value.int (Int32.ofInt (mG M a _)) = Value.int (Int32.ofInt (if a = a ∧ dp ≤ (q : Int) ∧ (q : Int) < dp + x then M.2.1 a0 (sp + ((q : Int) - dp)) else M.2.1 a q))
      rw [if_neg (by omega)]
  rw [e1] at X' step
  generalize hnew : vp_cell (E.2.2.1 11) ((mK M a).2, .inl (fun j : Nat => Int32.ofInt (mG (mC M a0 sp a dp x) a (j : Int)))) = cell1 at X' step
  have hlt : eB E + (a - 1).toNat < H.size := (Array.getElem?_eq_some_iff.mp hc1).1
  have hheap : ((T.setVm vm').setCell (eB E + (a - 1).toNat) cell1).heap = H.setIfInBounds (eB E + (a - 1).toNat) cell1 := by rw [← hT]; rfl
  have oq : ∀ q : Nat, q ≠ eB E + (a - 1).toNat → (H.setIfInBounds (eB E + (a - 1).toNat) cell1)[q]? = H[q]? := fun q hq => by rw [Array.getElem?_setIfInBounds, if_neg (Ne.symm hq)]
  have hR1 : Rep E (mC M a0 sp a dp x) (H.setIfInBounds (eB E + (a - 1).toNat) cell1) := hR.upd hM h17 rfl rfl (fun b hb j => mC_other hb) (by simp) oq (by
    rw [cellOf_arr (M := mC M a0 sp a dp x) k1 (by omega), acell_i (M := mC M a0 sp a dp x) k1 rfl]
    show (H.setIfInBounds _ _)[_]? = some (vp_cell _ _)
    rw [← hnew]
    rw [Array.getElem?_setIfInBounds, if_pos rfl, if_pos hlt]
    rfl)
  obtain ⟨t, a1, b1⟩ := kk hls (vtl (vtl (vtl (vtl (vtl hst))))) hM1 _ _ lsA cells slots hR1 ⟨by simp; exact hS.1, fun q h1 h2 => by
      rw [oq q (fun e => h2 (by rw [e]; exact hA))]
      exact hS.2.1 q h1 h2, fun q hq => by
      rcases List.mem_append.mp hq with h | h
      · exact hS.2.2 q h
      · obtain ⟨z, -, hz⟩ := List.mem_map.mp h
        rw [← hz]
        exact hA⟩ hl hc hs _ hheap X'
  exact ⟨t, step t a1, b1⟩
theorem r_copyl {a0 sp a dp x : Int} {idx : Nat} (F : Fx E p s m args meth c cc nL own ret nm) (h : aC 13 M a0 sp a dp x = some M1) (w1 : Cond.methodLink own idx arraycopyName ∈ tblG) (w2 : Cond.native arraycopyName ∈ tblG) (w3 : Cond.static arraycopyName ∈ tblG) (w4 : Cond.initialized "java/lang/System" ∈ tblG) (hf : 1 ≤ R.frames ∧ 60 ≤ R.locals) (hcat : (st.map vcat).sum ≤ 8) (d : decode cc pc = .ok (.invokestatic idx, 3)) (kk : G E p l e R s m args below meth c nL Q k n M1 (pc + 3) ls st) : G E p l e R s m args below meth c nL Q k n M pc ls (vI x :: vI dp :: vR a :: vI sp :: vR a0 :: st) := by
  intro hls hst hM H locs lsA cells slots hR hS hl hc hs
  obtain ⟨⟨k0, k1, g0, g1, g2, g3, g4⟩, rfl⟩ := ite_so h
  have h17 : (mK M a).1 < 17 := by omega
  have h170 : (mK M a0).1 < 17 := by omega
  have ix : InI x := vhd hst
  have id : InI dp := vhd (vtl hst)
  have is : InI sp := vhd (vtl (vtl (vtl hst)))
  have hA : AE E (eB E + (a - 1).toNat) := Nat.le_add_right _ _
  have ea := e_v_R (E := E) (hM.2.1 a h17).1
  have ea0 := e_v_R (E := E) (hM.2.1 a0 h170).1
  have hat := hR.at hM h17
  have hat0 := hR.at hM h170
  rw [cellOf_arr k1 (by omega), acell_l k1 rfl] at hat
  rw [cellOf_arr k0 (by omega), acell_l k0 rfl] at hat0
  have hc1 : H[eB E + (a - 1).toNat]? = some (vp_cell (E.2.2.1 13) ((mK M a).2, .inr (.inl ((fun j : Nat => Int64.ofInt (mG M a (j : Int))))))) := hat
  have hc0 : H[eB E + (a0 - 1).toNat]? = some (vp_cell (E.2.2.1 13) ((mK M a0).2, .inr (.inl ((fun j : Nat => Int64.ofInt (mG M a0 (j : Int))))))) := hat0
  have hty := (F.2.2.2.2.2.1.2 3 _ (tysOf_at E (c := 13) (by omega) (by omega))).1
  obtain ⟨-, kk0, hk0, cm0, hkk0⟩ := hty (mK M a0).2 (fun j => Value.long ((fun j : Nat => Int64.ofInt (mG M a0 (j : Int))) j))
  obtain ⟨-, kk1, hk1, cm1, hkk1⟩ := hty (mK M a).2 (fun j => Value.long ((fun j : Nat => Int64.ofInt (mG M a (j : Int))) j))
  have hM1 : MOK (mC M a0 sp a dp x) := hM.copy (by omega) k0 k1 g0
  have hcat2 := e_cats E st
  have cs : (Int32.ofInt sp).toNatClampNeg = sp.toNat := clampN_I is g0
  have cd : (Int32.ofInt dp).toNatClampNeg = dp.toNat := clampN_I id g1
  have cx : (Int32.ofInt x).toNatClampNeg = x.toNat := clampN_I ix g2
  intro T hT X
  obtain ⟨vm', X', step⟩ := X.arraycopy F.1 F.2.2.2.1 (F.2.2.2.2.1 _ w1) (F.2.2.2.2.1 _ w2) (F.2.2.2.2.1 _ w3) (F.2.2.2.2.1 _ w4) (src := eB E + (a0 - 1).toNat) (dst := eB E + (a - 1).toNat) (cs := vp_cell (E.2.2.1 13) ((mK M a0).2, .inr (.inl ((fun j : Nat => Int64.ofInt (mG M a0 (j : Int))))))) (cd := vp_cell (E.2.2.1 13) ((mK M a).2, .inr (.inl ((fun j : Nat => Int64.ofInt (mG M a (j : Int))))))) (srcPos := Int32.ofInt sp) (destPos := Int32.ofInt dp) (n := Int32.ofInt x) (by rw [hT]; exact hc0) (by rw [hT]; exact hc1)
    (fun _ h => by cases h) (fun _ h => by cases h) (fun h => by cases h) (fun h => by cases h) hk0 hk1 hkk0 hkk1 (by simp [aty, refKind]) (fun z => by have := (neg_I is).mp z; omega) (fun z => by have := (neg_I id).mp z; omega) (fun z => by have := (neg_I ix).mp z; omega)
    (by rw [toInt_I is, toInt_I ix]; show ¬ _ > ((arrV _ _ (fun j => Value.long ((fun j : Nat => Int64.ofInt (mG M a0 (j : Int))) j))).slots.size : Int); rw [arrV_size]; omega)
    (by rw [toInt_I id, toInt_I ix]; show ¬ _ > ((arrV _ _ (fun j => Value.long ((fun j : Nat => Int64.ofInt (mG M a (j : Int))) j))).slots.size : Int); rw [arrV_size]; omega)
    (fun vm₁ _ i hi => by
      rw [cx] at hi
      have e : (vp_cell (E.2.2.1 13) ((mK M a0).2, .inr (.inl ((fun j : Nat => Int64.ofInt (mG M a0 (j : Int))))))).slots.getD ((Int32.ofInt sp).toNatClampNeg + i) .null = Value.long (Int64.ofInt (mG M a0 (((Int32.ofInt sp).toNatClampNeg + i : Nat) : Int))) := by
        show (arrV _ _ _).slots.getD _ _ = _
        rw [Array.getD_eq_getD_getElem?, arrV_read _ _ (by rw [cs]; omega)]
        rfl
      rw [e]
      exact ⟨rfl, trivial⟩)
    (g := F0 m pc lsA ((vI x :: vI dp :: vR a :: vI sp :: vR a0 :: st).map (e_v E))) rfl (by rw [F.2.2.1]; exact hl.1) (rest := st.map (e_v E)) (by rw [List.map_cons, List.map_cons, List.map_cons, List.map_cons, List.map_cons, ea, ea0]; rfl) (by rw [F.2.1]; exact d) hf.1 (by show 2 * 0 + _ + (nativeFrameWords "java/lang/System" "arraycopy" 5 + 11) ≤ _; exact nfw (by omega) hf.2)
  have e1 : copied (vp_cell (E.2.2.1 13) ((mK M a0).2, .inr (.inl ((fun j : Nat => Int64.ofInt (mG M a0 (j : Int))))))) (vp_cell (E.2.2.1 13) ((mK M a).2, .inr (.inl ((fun j : Nat => Int64.ofInt (mG M a (j : Int))))))) (Int32.ofInt sp) (Int32.ofInt dp) (Int32.ofInt x) = vp_cell (E.2.2.1 13) ((mK M a).2, .inr (.inl (fun j : Nat => Int64.ofInt (mG (mC M a0 sp a dp x) a (j : Int))))) := by
    have e2 := va_copied (fun z => Value.long z) (E.2.2.1 13) (E.2.2.1 13) (n0 := (mK M a0).2) (n1 := (mK M a).2) (sp := (Int32.ofInt sp).toNatClampNeg) (dp := (Int32.ofInt dp).toNatClampNeg) (n := (Int32.ofInt x).toNatClampNeg) (fun j : Nat => Int64.ofInt (mG M a0 (j : Int))) (fun j : Nat => Int64.ofInt (mG M a (j : Int))) (by rw [cs, cx]; omega)
    refine e2.trans ?_
    rw [vp_cell_l]
    congr 1
    funext q
    rw [cs, cd, cx]
    unfold va_cpy
    by_cases hq : dp.toNat ≤ q ∧ q < dp.toNat + x.toNat
    · rw [if_pos hq]
      show Value.long (Int64.ofInt (mG M a0 _)) = Value.long (Int64.ofInt (if a = a ∧ dp ≤ (q : Int) ∧ (q : Int) < dp + x then M.2.1 a0 (sp + ((q : Int) - dp)) else M.2.1 a q))
      rw [if_pos ⟨rfl, by omega, by omega⟩, show (((sp.toNat + (q - dp.toNat) : Nat)) : Int) = sp + ((q : Int) - dp) by omega]
    · rw [if_neg hq]
      show Value.long (Int64.ofInt (mG M a _)) = Value.long (Int64.ofInt (if a = a ∧ dp ≤ (q : Int) ∧ (q : Int) < dp + x then M.2.1 a0 (sp + ((q : Int) - dp)) else M.2.1 a q))
      rw [if_neg (by omega)]
  rw [e1] at X' step
  generalize hnew : vp_cell (E.2.2.1 13) ((mK M a).2, .inr (.inl (fun j : Nat => Int64.ofInt (mG (mC M a0 sp a dp x) a (j : Int))))) = cell1 at X' step
  have hlt : eB E + (a - 1).toNat < H.size := (Array.getElem?_eq_some_iff.mp hc1).1
  have hheap : ((T.setVm vm').setCell (eB E + (a - 1).toNat) cell1).heap = H.setIfInBounds (eB E + (a - 1).toNat) cell1 := by rw [← hT]; rfl
  have oq : ∀ q : Nat, q ≠ eB E + (a - 1).toNat → (H.setIfInBounds (eB E + (a - 1).toNat) cell1)[q]? = H[q]? := fun q hq => by rw [Array.getElem?_setIfInBounds, if_neg (Ne.symm hq)]
  have hR1 : Rep E (mC M a0 sp a dp x) (H.setIfInBounds (eB E + (a - 1).toNat) cell1) := hR.upd hM h17 rfl rfl (fun b hb j => mC_other hb) (by simp) oq (by
    rw [cellOf_arr (M := mC M a0 sp a dp x) k1 (by omega), acell_l (M := mC M a0 sp a dp x) k1 rfl]
    show (H.setIfInBounds _ _)[_]? = some (vp_cell _ _)
    rw [← hnew]
    rw [Array.getElem?_setIfInBounds, if_pos rfl, if_pos hlt]
    rfl)
  obtain ⟨t, a1, b1⟩ := kk hls (vtl (vtl (vtl (vtl (vtl hst))))) hM1 _ _ lsA cells slots hR1 ⟨by simp; exact hS.1, fun q h1 h2 => by
      rw [oq q (fun e => h2 (by rw [e]; exact hA))]
      exact hS.2.1 q h1 h2, fun q hq => by
      rcases List.mem_append.mp hq with h | h
      · exact hS.2.2 q h
      · obtain ⟨z, -, hz⟩ := List.mem_map.mp h
        rw [← hz]
        exact hA⟩ hl hc hs _ hheap X'
  exact ⟨t, step t a1, b1⟩
end GZ
