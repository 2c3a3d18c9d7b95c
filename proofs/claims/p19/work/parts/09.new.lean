/-! ===== arrays of references, new cells, static rows, ends ===== -/
theorem e_rf_neg {E : En} {x : Int} (h : x < 0) : e_rf E x = some (E.2.2.2 (-x).toNat) := by
  unfold e_rf
  rw [if_neg (by omega), if_neg (by omega)]
section GB
variable {E : En} {p : Program} {l : Launch} {e : Env} {R : Room} {s : State} {m : MethodId} {args : Array Value} {below : List Frame} {meth : Method} {c : Code} {Q : State → Prop} {cc : ByteArray} {nL : Nat} {own : String} {ret : Option FieldType} {nm : String} {k n pc : Nat} {M M1 : Mem} {ls : List (Nat × V)} {st : List V}
theorem r_aast14 {a i x : Int} (F : Fx E p s m args meth c cc nL own ret nm) (h : aSR 14 M a i x = some M1) (d : decode cc pc = .ok (.aastore, 1)) (kk : G E p l e R s m args below meth c nL Q k n M1 (pc + 1) ls st) : G E p l e R s m args below meth c nL Q k n M pc ls (vR x :: vI i :: vR a :: st) := by
  intro hls hst hM H locs lsA cells slots hR hS hl hc hs
  obtain ⟨⟨hK, h0, h1, hx⟩, rfl⟩ := ite_so h
  have h17 : (mK M a).1 < 17 := by omega
  have hi : InI i := vhd (vtl hst)
  have hA : AE E (eB E + (a - 1).toNat) := Nat.le_add_right _ _
  have hat := hR.at hM h17
  rw [cellOf_arr hK (by omega), acell_q hK rfl] at hat
  have hat : H[eB E + (a - 1).toNat]? = some (vp_cell (E.2.2.1 (mK M a).1) ((mK M a).2, .inr (.inr (.inr (.inr (fun j => e_rf E (mG M a j))))))) := by rw [hK]; exact hat
  have hM1 : MOK (mS M a i x) := hM.upd h0 (by unfold mT; rw [hK, if_neg (by omega)]; trivial)
  rw [List.map_cons, List.map_cons, List.map_cons, e_v_R (hM.2.1 a h17).1]
  have fin : ∀ (H1 : Heap), H1[eB E + (a - 1).toNat]? = some ((vp_cell (E.2.2.1 (mK M a).1) ((mK M a).2, .inr (.inr (.inr (.inr (fun j => e_rf E (mG M a j))))))).setSlot (Int32.ofInt i).toNatClampNeg (va_rf (e_rf E x))) → H1.size = H.size → (∀ q, q ≠ eB E + (a - 1).toNat → H1[q]? = H[q]?) → W p l e R s m args below meth c H1 (locs ++ [⟨eB E + (a - 1).toNat, (Int32.ofInt i).toNatClampNeg⟩]) cells slots Q (F0 m (pc + 1) lsA (st.map (e_v E))) := by
    intro H1 e1 z1 oq
    have hP1 : va_at E.1 vwCl (eB E + (a - 1).toNat, cellOf E (mS M a i x) a) H1 := by
      rw [cellOf_arr (M := mS M a i x) hK (by omega), acell_q (M := mS M a i x) hK rfl]
      show H1[_]? = some (vp_cell _ _)
      rw [e1]
      rw [vp_cell_q, vp_cell_q, arrV_store]
      rw [hK]
      congr 2
      funext q
      by_cases hq : q = (Int32.ofInt i).toNatClampNeg
      · subst hq
        have e2 : mG (mS M a i x) a (((Int32.ofInt i).toNatClampNeg : Nat) : Int) = x := mS_same (clamp_I hi h0)
        simp only [updV, if_true]
        rw [e2]
      · have e2 : mG (mS M a i x) a (q : Int) = mG M a (q : Int) := mS_other (fun z => hq (by rw [clampN_I hi h0]; omega))
        simp only [updV, if_neg hq]
        rw [e2]
    have hR1 : Rep E (mS M a i x) H1 := hR.upd hM h17 rfl rfl (fun b hb j => mS_cell hb) z1 oq hP1
    exact kk hls (vtl (vtl (vtl hst))) hM1 H1 _ lsA cells slots hR1 (hS.put z1 oq hA) hl hc hs
  have hin : ¬ (Int32.ofInt i < 0 ∨ (vp_cell (E.2.2.1 (mK M a).1) ((mK M a).2, .inr (.inr (.inr (.inr (fun j => e_rf E (mG M a j))))))).slots.size ≤ (Int32.ofInt i).toNatClampNeg) := by
    show ¬ (_ ∨ (arrV _ _ _).slots.size ≤ _)
    rw [arrV_size]; exact clamp_in hi h0 h1
  have hty := F.2.2.2.2.2.1.2 4 _ (tysOf_at E (c := 14) (by omega) (by omega))
  rcases hx with hx | hx
  · subst hx
    exact va_WaastN (C := "VillageStories$Text") F.1 F.2.1 hat (by rw [hK]; exact hty.1 (mK M a).2 (fun j : Nat => va_rf (e_rf E (mG M a j)))) (fun z => by cases z) hin rfl rfl d fin
  · have hx17 : (mK M x).1 < 17 := by rw [hx]; decide
    have hxp := (hM.2.1 x hx17).1
    have hat2 := hR.at hM hx17
    rw [cellOf_obj hx (by decide)] at hat2
    obtain ⟨r', hr', cellV, g1, g2, g3, -⟩ := hat2
    have hcls := (F.2.2.2.2.2.1.1 5 _ (clok_5.2.1)).2
    obtain ⟨kA, comp, k1, k2, k3, -⟩ := hty.2
    have hcomp : comp = E.1.1 5 := Option.some.inj (k3.symm.trans hcls.1)
    subst hcomp
    obtain ⟨kC, hkC, -⟩ := hcls.2
    have ex : va_rf (e_rf E x) = .ref (eB E + (x - 1).toNat) := e_v_R hxp
    have fin2 := fin
    rw [ex] at fin2
    rw [show e_v E (vR x) = .ref (eB E + (x - 1).toNat) from ex]
    exact W.aast F.1 F.2.1 hat (fun q h => by cases h) (fun h => by cases h) (by rw [hK]; exact k1) k2 rfl hkC ⟨fun z => hin (Or.inl z), Nat.lt_of_not_le (fun z => hin (Or.inr z))⟩ g1 (fun q h => by rw [g3] at h; cases h) (by rw [g2]; exact hkC) (by rw [g2]; exact va_assign hcls) rfl rfl d fin2
theorem r_aast15 {a i x : Int} (F : Fx E p s m args meth c cc nL own ret nm) (h : aSR 15 M a i x = some M1) (d : decode cc pc = .ok (.aastore, 1)) (kk : G E p l e R s m args below meth c nL Q k n M1 (pc + 1) ls st) : G E p l e R s m args below meth c nL Q k n M pc ls (vR x :: vI i :: vR a :: st) := by
  intro hls hst hM H locs lsA cells slots hR hS hl hc hs
  obtain ⟨⟨hK, h0, h1, hx⟩, rfl⟩ := ite_so h
  have h17 : (mK M a).1 < 17 := by omega
  have hi : InI i := vhd (vtl hst)
  have hA : AE E (eB E + (a - 1).toNat) := Nat.le_add_right _ _
  have hat := hR.at hM h17
  rw [cellOf_arr hK (by omega), acell_q hK rfl] at hat
  have hat : H[eB E + (a - 1).toNat]? = some (vp_cell (E.2.2.1 (mK M a).1) ((mK M a).2, .inr (.inr (.inr (.inr (fun j => e_rf E (mG M a j))))))) := by rw [hK]; exact hat
  have hM1 : MOK (mS M a i x) := hM.upd h0 (by unfold mT; rw [hK, if_neg (by omega)]; trivial)
  rw [List.map_cons, List.map_cons, List.map_cons, e_v_R (hM.2.1 a h17).1]
  have fin : ∀ (H1 : Heap), H1[eB E + (a - 1).toNat]? = some ((vp_cell (E.2.2.1 (mK M a).1) ((mK M a).2, .inr (.inr (.inr (.inr (fun j => e_rf E (mG M a j))))))).setSlot (Int32.ofInt i).toNatClampNeg (va_rf (e_rf E x))) → H1.size = H.size → (∀ q, q ≠ eB E + (a - 1).toNat → H1[q]? = H[q]?) → W p l e R s m args below meth c H1 (locs ++ [⟨eB E + (a - 1).toNat, (Int32.ofInt i).toNatClampNeg⟩]) cells slots Q (F0 m (pc + 1) lsA (st.map (e_v E))) := by
    intro H1 e1 z1 oq
    have hP1 : va_at E.1 vwCl (eB E + (a - 1).toNat, cellOf E (mS M a i x) a) H1 := by
      rw [cellOf_arr (M := mS M a i x) hK (by omega), acell_q (M := mS M a i x) hK rfl]
      show H1[_]? = some (vp_cell _ _)
      rw [e1]
      rw [vp_cell_q, vp_cell_q, arrV_store]
      rw [hK]
      congr 2
      funext q
      by_cases hq : q = (Int32.ofInt i).toNatClampNeg
      · subst hq
        have e2 : mG (mS M a i x) a (((Int32.ofInt i).toNatClampNeg : Nat) : Int) = x := mS_same (clamp_I hi h0)
        simp only [updV, if_true]
        rw [e2]
      · have e2 : mG (mS M a i x) a (q : Int) = mG M a (q : Int) := mS_other (fun z => hq (by rw [clampN_I hi h0]; omega))
        simp only [updV, if_neg hq]
        rw [e2]
    have hR1 : Rep E (mS M a i x) H1 := hR.upd hM h17 rfl rfl (fun b hb j => mS_cell hb) z1 oq hP1
    exact kk hls (vtl (vtl (vtl hst))) hM1 H1 _ lsA cells slots hR1 (hS.put z1 oq hA) hl hc hs
  have hin : ¬ (Int32.ofInt i < 0 ∨ (vp_cell (E.2.2.1 (mK M a).1) ((mK M a).2, .inr (.inr (.inr (.inr (fun j => e_rf E (mG M a j))))))).slots.size ≤ (Int32.ofInt i).toNatClampNeg) := by
    show ¬ (_ ∨ (arrV _ _ _).slots.size ≤ _)
    rw [arrV_size]; exact clamp_in hi h0 h1
  have hty := F.2.2.2.2.2.1.2 5 _ (tysOf_at E (c := 15) (by omega) (by omega))
  rcases hx with hx | hx
  · subst hx
    exact va_WaastN (C := "VillageStories$Told") F.1 F.2.1 hat (by rw [hK]; exact hty.1 (mK M a).2 (fun j : Nat => va_rf (e_rf E (mG M a j)))) (fun z => by cases z) hin rfl rfl d fin
  · have hx17 : (mK M x).1 < 17 := by rw [hx]; decide
    have hxp := (hM.2.1 x hx17).1
    have hat2 := hR.at hM hx17
    rw [cellOf_obj hx (by decide)] at hat2
    obtain ⟨r', hr', cellV, g1, g2, g3, -⟩ := hat2
    have hcls := (F.2.2.2.2.2.1.1 6 _ (clok_6.2.1)).2
    obtain ⟨kA, comp, k1, k2, k3, -⟩ := hty.2
    have hcomp : comp = E.1.1 6 := Option.some.inj (k3.symm.trans hcls.1)
    subst hcomp
    obtain ⟨kC, hkC, -⟩ := hcls.2
    have ex : va_rf (e_rf E x) = .ref (eB E + (x - 1).toNat) := e_v_R hxp
    have fin2 := fin
    rw [ex] at fin2
    rw [show e_v E (vR x) = .ref (eB E + (x - 1).toNat) from ex]
    exact W.aast F.1 F.2.1 hat (fun q h => by cases h) (fun h => by cases h) (by rw [hK]; exact k1) k2 rfl hkC ⟨fun z => hin (Or.inl z), Nat.lt_of_not_le (fun z => hin (Or.inr z))⟩ g1 (fun q h => by rw [g3] at h; cases h) (by rw [g2]; exact hkC) (by rw [g2]; exact va_assign hcls) rfl rfl d fin2
theorem r_aast16 {a i x : Int} (F : Fx E p s m args meth c cc nL own ret nm) (h : aSR 16 M a i x = some M1) (d : decode cc pc = .ok (.aastore, 1)) (kk : G E p l e R s m args below meth c nL Q k n M1 (pc + 1) ls st) : G E p l e R s m args below meth c nL Q k n M pc ls (vR x :: vI i :: vR a :: st) := by
  intro hls hst hM H locs lsA cells slots hR hS hl hc hs
  obtain ⟨⟨hK, h0, h1, hx⟩, rfl⟩ := ite_so h
  have h17 : (mK M a).1 < 17 := by omega
  have hi : InI i := vhd (vtl hst)
  have hA : AE E (eB E + (a - 1).toNat) := Nat.le_add_right _ _
  have hat := hR.at hM h17
  rw [cellOf_arr hK (by omega), acell_q hK rfl] at hat
  have hat : H[eB E + (a - 1).toNat]? = some (vp_cell (E.2.2.1 (mK M a).1) ((mK M a).2, .inr (.inr (.inr (.inr (fun j => e_rf E (mG M a j))))))) := by rw [hK]; exact hat
  have hM1 : MOK (mS M a i x) := hM.upd h0 (by unfold mT; rw [hK, if_neg (by omega)]; trivial)
  rw [List.map_cons, List.map_cons, List.map_cons, e_v_R (hM.2.1 a h17).1]
  have fin : ∀ (H1 : Heap), H1[eB E + (a - 1).toNat]? = some ((vp_cell (E.2.2.1 (mK M a).1) ((mK M a).2, .inr (.inr (.inr (.inr (fun j => e_rf E (mG M a j))))))).setSlot (Int32.ofInt i).toNatClampNeg (va_rf (e_rf E x))) → H1.size = H.size → (∀ q, q ≠ eB E + (a - 1).toNat → H1[q]? = H[q]?) → W p l e R s m args below meth c H1 (locs ++ [⟨eB E + (a - 1).toNat, (Int32.ofInt i).toNatClampNeg⟩]) cells slots Q (F0 m (pc + 1) lsA (st.map (e_v E))) := by
    intro H1 e1 z1 oq
    have hP1 : va_at E.1 vwCl (eB E + (a - 1).toNat, cellOf E (mS M a i x) a) H1 := by
      rw [cellOf_arr (M := mS M a i x) hK (by omega), acell_q (M := mS M a i x) hK rfl]
      show H1[_]? = some (vp_cell _ _)
      rw [e1]
      rw [vp_cell_q, vp_cell_q, arrV_store]
      rw [hK]
      congr 2
      funext q
      by_cases hq : q = (Int32.ofInt i).toNatClampNeg
      · subst hq
        have e2 : mG (mS M a i x) a (((Int32.ofInt i).toNatClampNeg : Nat) : Int) = x := mS_same (clamp_I hi h0)
        simp only [updV, if_true]
        rw [e2]
      · have e2 : mG (mS M a i x) a (q : Int) = mG M a (q : Int) := mS_other (fun z => hq (by rw [clampN_I hi h0]; omega))
        simp only [updV, if_neg hq]
        rw [e2]
    have hR1 : Rep E (mS M a i x) H1 := hR.upd hM h17 rfl rfl (fun b hb j => mS_cell hb) z1 oq hP1
    exact kk hls (vtl (vtl (vtl hst))) hM1 H1 _ lsA cells slots hR1 (hS.put z1 oq hA) hl hc hs
  have hin : ¬ (Int32.ofInt i < 0 ∨ (vp_cell (E.2.2.1 (mK M a).1) ((mK M a).2, .inr (.inr (.inr (.inr (fun j => e_rf E (mG M a j))))))).slots.size ≤ (Int32.ofInt i).toNatClampNeg) := by
    show ¬ (_ ∨ (arrV _ _ _).slots.size ≤ _)
    rw [arrV_size]; exact clamp_in hi h0 h1
  have hty := F.2.2.2.2.2.1.2 6 _ (tysOf_at E (c := 16) (by omega) (by omega))
  rcases hx with hx | hx
  · subst hx
    exact va_WaastN (C := "VillageStories$WorldSet") F.1 F.2.1 hat (by rw [hK]; exact hty.1 (mK M a).2 (fun j : Nat => va_rf (e_rf E (mG M a j)))) (fun z => by cases z) hin rfl rfl d fin
  · have hx17 : (mK M x).1 < 17 := by rw [hx]; decide
    have hxp := (hM.2.1 x hx17).1
    have hat2 := hR.at hM hx17
    rw [cellOf_obj hx (by decide)] at hat2
    obtain ⟨r', hr', cellV, g1, g2, g3, -⟩ := hat2
    have hcls := (F.2.2.2.2.2.1.1 7 _ (clok_7.2.1)).2
    obtain ⟨kA, comp, k1, k2, k3, -⟩ := hty.2
    have hcomp : comp = E.1.1 7 := Option.some.inj (k3.symm.trans hcls.1)
    subst hcomp
    obtain ⟨kC, hkC, -⟩ := hcls.2
    have ex : va_rf (e_rf E x) = .ref (eB E + (x - 1).toNat) := e_v_R hxp
    have fin2 := fin
    rw [ex] at fin2
    rw [show e_v E (vR x) = .ref (eB E + (x - 1).toNat) from ex]
    exact W.aast F.1 F.2.1 hat (fun q h => by cases h) (fun h => by cases h) (by rw [hK]; exact k1) k2 rfl hkC ⟨fun z => hin (Or.inl z), Nat.lt_of_not_le (fun z => hin (Or.inr z))⟩ g1 (fun q h => by rw [g3] at h; cases h) (by rw [g2]; exact hkC) (by rw [g2]; exact va_assign hcls) rfl rfl d fin2
theorem r_new {ci idx N : Nat} {C : String} {T : u_T} {ty : Nat → FieldType} (hC : ClOk ci C T N ty) (hd0 : ∀ j, j < N → defaultValue (ty j) = match ftag ci j with | 0 => .int 0 | 1 => .long 0 | _ => .null) (F : Fx E p s m args meth c cc nL own ret nm) (h1 : Cond.classLink own idx C ∈ tblG) (h2 : Cond.instantiable C N ∈ tblG) (h3 : Cond.initialized C ∈ tblG) (d : decode cc pc = .ok (.new idx, 3)) (kk : G E p l e R s m args below meth c nL Q k n (nO ci M).2 (pc + 3) ls (vR (nO ci M).1 :: st)) : G E p l e R s m args below meth c nL Q (k + 1) (n + N) M pc ls st := by
  intro hls hst hM H locs lsA cells slots hR hS hl hc hs
  obtain ⟨c1, c2, c3, c4, c5, c6, c7, c8⟩ := hC
  have hKn := F.2.2.2.2.2.1.1 ci _ c2
  have hM1 : MOK (mNew M (ci, 0)) := hM.new (show 0 < 2147483648 by decide)
  have hh := fun H1 hR1 hS1 => kk hls (vst1 trivial hst) hM1 H1 locs lsA (cells + 1) (slots + N) hR1 hS1 hl (by omega) (by omega)
  refine W.newcK F.1 F.2.1 F.2.2.2.1 (F.2.2.2.2.1 _ h1) (F.2.2.2.2.1 _ h2) (F.2.2.2.2.1 _ h3) rfl d (by omega) (by omega) hKn.2.1 rfl fun H1 kC hkC e1 z1 o1 => ?_
  have hf : cellOf E (mNew M (ci, 0)) ((mN M : Int) + 1) = .inr (ci, (List.range (nfl ci)).map fun k => e_v E (ftag ci k, 0)) := by
    have hk0 : mK (mNew M (ci, 0)) ((mN M : Int) + 1) = (ci, 0) := if_pos rfl
    rw [cellOf_obj (congrArg Prod.fst hk0) c1]
    congr 2
    apply List.map_congr_left
    intro k _
    rw [show mG (mNew M (ci, 0)) ((mN M : Int) + 1) k = 0 from if_pos rfl]
  have hR1 : Rep E (mNew M (ci, 0)) H1 := hR.new (show ci < 17 by omega) z1 o1 (by
    rw [hf]
    refine ⟨_, c2, (u_born ty F.2.2.2.2.1 c4 hKn hkC e1 c5).to (fun j hj => ?_)⟩
    rw [hd0 j hj]
    show _ = vp_V ((List.range (nfl ci)).map fun k => e_v E (ftag ci k, 0)) j
    unfold vp_V
    rw [List.getD_eq_getElem?_getD, List.getElem?_map, List.getElem?_range (show j < nfl ci by omega)]
    show _ = e_v E (ftag ci j, 0)
    have : ∀ t : Nat, (match t with | 0 => Value.int 0 | 1 => Value.long 0 | _ => Value.null) = e_v E (t, 0) := fun t => by match t with | 0 => rfl | 1 => rfl | t + 2 => rfl
    exact this _)
  have h9 := hh H1 hR1 ⟨Nat.le_trans hS.1 (by omega), fun x h1 h2 => (o1 x (Nat.lt_of_lt_of_le h1 hS.1)).trans (hS.2.1 x h1 h2), hS.2.2⟩
  rw [List.map_cons, show (nO ci M).1 = (mN M : Int) + 1 from rfl, e_v_R (show (0 : Int) < (mN M : Int) + 1 by omega), show eB E + ((mN M : Int) + 1 - 1).toNat = H.size by rw [hR.1]; omega] at h9
  exact h9
theorem r_newa10 {x a : Int} {B : Nat} (hB : B ≤ 100000) (F : Fx E p s m args meth c cc nL own ret nm) (h : nA 10 B M x = some (a, M1)) (hw : Cond.arrayClass .int ∈ tblG) (d : decode cc pc = .ok (.newarray .int, 2)) (kk : G E p l e R s m args below meth c nL Q k n M1 (pc + 2) ls (vR a :: st)) : G E p l e R s m args below meth c nL Q (k + 1) (n + B) M pc ls (vI x :: st) := by
  intro hls hst hM H locs lsA cells slots hR hS hl hc hs
  obtain ⟨⟨h0, h1⟩, hE⟩ := ite_so h
  obtain ⟨rfl, rfl⟩ := Prod.mk.inj hE
  have hi : InI x := vhd hst
  have hM1 : MOK (mNew M (10, x.toNat)) := hM.new (show x.toNat < _ by omega)
  have hh := fun H1 hR1 hS1 => kk hls (vst1 trivial (vtl hst)) hM1 H1 locs lsA (cells + 1) (slots + x.toNat) hR1 hS1 hl (by omega) (by omega)
  refine va_newaK (atype := .int) (N := x.toNat) F.1 F.2.1 (F.2.2.2.2.1 _ hw) rfl d rfl (fun z => by have := (neg_I hi).mp z; omega) (clampN_I hi h0) (by show _ * 4 ≤ _; omega) (by omega) (by omega) rfl fun H1 cA e1 z1 o1 hAr hNm => ?_
  have hk0 : mK (mNew M (10, x.toNat)) ((mN M : Int) + 1) = (10, x.toNat) := if_pos rfl
  have hcA : cA = E.2.2.1 10 := by
    have := (F.2.2.2.2.2.1.2 0 _ (tysOf_at E (c := 10) (by omega) (by omega))).2
    exact Option.some.inj (hNm.symm.trans this)
  have hR1 : Rep E (mNew M (10, x.toNat)) H1 := hR.new (show 10 < 17 by decide) z1 o1 (by
    rw [cellOf_arr (congrArg Prod.fst hk0) (by omega), acell_i (congrArg Prod.fst hk0) rfl]
    show H1[H.size]? = some (vp_cell _ _)
    rw [e1, hcA, hk0]
    simp only [show ∀ j : Nat, mG (mNew M (10, x.toNat)) ((mN M : Int) + 1) j = 0 from fun j => if_pos rfl]
    rfl)
  have h9 := hh H1 hR1 ⟨Nat.le_trans hS.1 (by omega), fun x h1 h2 => (o1 x (Nat.lt_of_lt_of_le h1 hS.1)).trans (hS.2.1 x h1 h2), hS.2.2⟩
  rw [List.map_cons, e_v_R (show (0 : Int) < (mN M : Int) + 1 by omega), show eB E + ((mN M : Int) + 1 - 1).toNat = H.size by rw [hR.1]; omega] at h9
  exact h9
theorem r_newa11 {x a : Int} {B : Nat} (hB : B ≤ 100000) (F : Fx E p s m args meth c cc nL own ret nm) (h : nA 11 B M x = some (a, M1)) (hw : Cond.arrayClass .boolean ∈ tblG) (d : decode cc pc = .ok (.newarray .boolean, 2)) (kk : G E p l e R s m args below meth c nL Q k n M1 (pc + 2) ls (vR a :: st)) : G E p l e R s m args below meth c nL Q (k + 1) (n + B) M pc ls (vI x :: st) := by
  intro hls hst hM H locs lsA cells slots hR hS hl hc hs
  obtain ⟨⟨h0, h1⟩, hE⟩ := ite_so h
  obtain ⟨rfl, rfl⟩ := Prod.mk.inj hE
  have hi : InI x := vhd hst
  have hM1 : MOK (mNew M (11, x.toNat)) := hM.new (show x.toNat < _ by omega)
  have hh := fun H1 hR1 hS1 => kk hls (vst1 trivial (vtl hst)) hM1 H1 locs lsA (cells + 1) (slots + x.toNat) hR1 hS1 hl (by omega) (by omega)
  refine va_newaK (atype := .boolean) (N := x.toNat) F.1 F.2.1 (F.2.2.2.2.1 _ hw) rfl d rfl (fun z => by have := (neg_I hi).mp z; omega) (clampN_I hi h0) (by show _ * 1 ≤ _; omega) (by omega) (by omega) rfl fun H1 cA e1 z1 o1 hAr hNm => ?_
  have hk0 : mK (mNew M (11, x.toNat)) ((mN M : Int) + 1) = (11, x.toNat) := if_pos rfl
  have hcA : cA = E.2.2.1 11 := by
    have := (F.2.2.2.2.2.1.2 1 _ (tysOf_at E (c := 11) (by omega) (by omega))).2
    exact Option.some.inj (hNm.symm.trans this)
  have hR1 : Rep E (mNew M (11, x.toNat)) H1 := hR.new (show 11 < 17 by decide) z1 o1 (by
    rw [cellOf_arr (congrArg Prod.fst hk0) (by omega), acell_i (congrArg Prod.fst hk0) rfl]
    show H1[H.size]? = some (vp_cell _ _)
    rw [e1, hcA, hk0]
    simp only [show ∀ j : Nat, mG (mNew M (11, x.toNat)) ((mN M : Int) + 1) j = 0 from fun j => if_pos rfl]
    rfl)
  have h9 := hh H1 hR1 ⟨Nat.le_trans hS.1 (by omega), fun x h1 h2 => (o1 x (Nat.lt_of_lt_of_le h1 hS.1)).trans (hS.2.1 x h1 h2), hS.2.2⟩
  rw [List.map_cons, e_v_R (show (0 : Int) < (mN M : Int) + 1 by omega), show eB E + ((mN M : Int) + 1 - 1).toNat = H.size by rw [hR.1]; omega] at h9
  exact h9
theorem r_newa12 {x a : Int} {B : Nat} (hB : B ≤ 100000) (F : Fx E p s m args meth c cc nL own ret nm) (h : nA 12 B M x = some (a, M1)) (hw : Cond.arrayClass .byte ∈ tblG) (d : decode cc pc = .ok (.newarray .byte, 2)) (kk : G E p l e R s m args below meth c nL Q k n M1 (pc + 2) ls (vR a :: st)) : G E p l e R s m args below meth c nL Q (k + 1) (n + B) M pc ls (vI x :: st) := by
  intro hls hst hM H locs lsA cells slots hR hS hl hc hs
  obtain ⟨⟨h0, h1⟩, hE⟩ := ite_so h
  obtain ⟨rfl, rfl⟩ := Prod.mk.inj hE
  have hi : InI x := vhd hst
  have hM1 : MOK (mNew M (12, x.toNat)) := hM.new (show x.toNat < _ by omega)
  have hh := fun H1 hR1 hS1 => kk hls (vst1 trivial (vtl hst)) hM1 H1 locs lsA (cells + 1) (slots + x.toNat) hR1 hS1 hl (by omega) (by omega)
  refine va_newaK (atype := .byte) (N := x.toNat) F.1 F.2.1 (F.2.2.2.2.1 _ hw) rfl d rfl (fun z => by have := (neg_I hi).mp z; omega) (clampN_I hi h0) (by show _ * 1 ≤ _; omega) (by omega) (by omega) rfl fun H1 cA e1 z1 o1 hAr hNm => ?_
  have hk0 : mK (mNew M (12, x.toNat)) ((mN M : Int) + 1) = (12, x.toNat) := if_pos rfl
  have hcA : cA = E.2.2.1 12 := by
    have := (F.2.2.2.2.2.1.2 2 _ (tysOf_at E (c := 12) (by omega) (by omega))).2
    exact Option.some.inj (hNm.symm.trans this)
  have hR1 : Rep E (mNew M (12, x.toNat)) H1 := hR.new (show 12 < 17 by decide) z1 o1 (by
    rw [cellOf_arr (congrArg Prod.fst hk0) (by omega), acell_i (congrArg Prod.fst hk0) rfl]
    show H1[H.size]? = some (vp_cell _ _)
    rw [e1, hcA, hk0]
    simp only [show ∀ j : Nat, mG (mNew M (12, x.toNat)) ((mN M : Int) + 1) j = 0 from fun j => if_pos rfl]
    rfl)
  have h9 := hh H1 hR1 ⟨Nat.le_trans hS.1 (by omega), fun x h1 h2 => (o1 x (Nat.lt_of_lt_of_le h1 hS.1)).trans (hS.2.1 x h1 h2), hS.2.2⟩
  rw [List.map_cons, e_v_R (show (0 : Int) < (mN M : Int) + 1 by omega), show eB E + ((mN M : Int) + 1 - 1).toNat = H.size by rw [hR.1]; omega] at h9
  exact h9
theorem r_newa13 {x a : Int} {B : Nat} (hB : B ≤ 100000) (F : Fx E p s m args meth c cc nL own ret nm) (h : nA 13 B M x = some (a, M1)) (hw : Cond.arrayClass .long ∈ tblG) (d : decode cc pc = .ok (.newarray .long, 2)) (kk : G E p l e R s m args below meth c nL Q k n M1 (pc + 2) ls (vR a :: st)) : G E p l e R s m args below meth c nL Q (k + 1) (n + B) M pc ls (vI x :: st) := by
  intro hls hst hM H locs lsA cells slots hR hS hl hc hs
  obtain ⟨⟨h0, h1⟩, hE⟩ := ite_so h
  obtain ⟨rfl, rfl⟩ := Prod.mk.inj hE
  have hi : InI x := vhd hst
  have hM1 : MOK (mNew M (13, x.toNat)) := hM.new (show x.toNat < _ by omega)
  have hh := fun H1 hR1 hS1 => kk hls (vst1 trivial (vtl hst)) hM1 H1 locs lsA (cells + 1) (slots + x.toNat) hR1 hS1 hl (by omega) (by omega)
  refine va_newaK (atype := .long) (N := x.toNat) F.1 F.2.1 (F.2.2.2.2.1 _ hw) rfl d rfl (fun z => by have := (neg_I hi).mp z; omega) (clampN_I hi h0) (by show _ * 8 ≤ _; omega) (by omega) (by omega) rfl fun H1 cA e1 z1 o1 hAr hNm => ?_
  have hk0 : mK (mNew M (13, x.toNat)) ((mN M : Int) + 1) = (13, x.toNat) := if_pos rfl
  have hcA : cA = E.2.2.1 13 := by
    have := (F.2.2.2.2.2.1.2 3 _ (tysOf_at E (c := 13) (by omega) (by omega))).2
    exact Option.some.inj (hNm.symm.trans this)
  have hR1 : Rep E (mNew M (13, x.toNat)) H1 := hR.new (show 13 < 17 by decide) z1 o1 (by
    rw [cellOf_arr (congrArg Prod.fst hk0) (by omega), acell_l (congrArg Prod.fst hk0) rfl]
    show H1[H.size]? = some (vp_cell _ _)
    rw [e1, hcA, hk0]
    simp only [show ∀ j : Nat, mG (mNew M (13, x.toNat)) ((mN M : Int) + 1) j = 0 from fun j => if_pos rfl]
    rfl)
  have h9 := hh H1 hR1 ⟨Nat.le_trans hS.1 (by omega), fun x h1 h2 => (o1 x (Nat.lt_of_lt_of_le h1 hS.1)).trans (hS.2.1 x h1 h2), hS.2.2⟩
  rw [List.map_cons, e_v_R (show (0 : Int) < (mN M : Int) + 1 by omega), show eB E + ((mN M : Int) + 1 - 1).toNat = H.size by rw [hR.1]; omega] at h9
  exact h9
theorem r_newq14 {x a : Int} {B idx : Nat} (hB : B ≤ 100000) (F : Fx E p s m args meth c cc nL own ret nm) (h : nA 14 B M x = some (a, M1)) (hw : Cond.classLink own idx "VillageStories$Text" ∈ tblG) (d : decode cc pc = .ok (.anewarray idx, 3)) (kk : G E p l e R s m args below meth c nL Q k n M1 (pc + 3) ls (vR a :: st)) : G E p l e R s m args below meth c nL Q (k + 1) (n + B) M pc ls (vI x :: st) := by
  intro hls hst hM H locs lsA cells slots hR hS hl hc hs
  obtain ⟨⟨h0, h1⟩, hE⟩ := ite_so h
  obtain ⟨rfl, rfl⟩ := Prod.mk.inj hE
  have hi : InI x := vhd hst
  have hM1 : MOK (mNew M (14, x.toNat)) := hM.new (show x.toNat < _ by omega)
  have hh := fun H1 hR1 hS1 => kk hls (vst1 trivial (vtl hst)) hM1 H1 locs lsA (cells + 1) (slots + x.toNat) hR1 hS1 hl (by omega) (by omega)
  have hcl : (Int32.ofInt x).toNatClampNeg = x.toNat := clampN_I hi h0
  have hAO : va_AO "VillageStories$Text" s := F.2.2.2.2.2.2.1.2.2.2.2.2.2.2.2.2.1
  refine W.anew F.1 F.2.1 F.2.2.2.1 (F.2.2.2.2.1 _ hw) (va_AO.use hAO) rfl d rfl (fun z => by have := (neg_I hi).mp z; omega) (by rw [hcl]; omega) (by omega) (by rw [hcl]; omega) fun cA kA comp f1 f2 f3 f4 => ?_
  rw [hcl]
  generalize hH1 : H.push ({ cls := cA, slots := Array.replicate x.toNat .null, vm := .none } : Cell) = H1
  have z1 : H1.size = H.size + 1 := by rw [← hH1, Array.size_push]
  have e1 : H1[H.size]? = some (arrV cA x.toNat (fun _ => .null)) := by rw [← hH1, Array.getElem?_push_size, ← arrV_new]
  have o1 : ∀ q : Nat, q < H.size → H1[q]? = H[q]? := fun q hq => by rw [← hH1, Array.getElem?_push, if_neg (Nat.ne_of_lt hq)]
  have hk0 : mK (mNew M (14, x.toNat)) ((mN M : Int) + 1) = (14, x.toNat) := if_pos rfl
  have hcA : cA = E.2.2.1 14 := by
    obtain ⟨_, _, _, _, _, h4⟩ := (F.2.2.2.2.2.1.2 4 _ (tysOf_at E (c := 14) (by omega) (by omega))).2
    first | exact Option.some.inj (f1.symm.trans h4) | exact Option.some.inj (f4.symm.trans h4)
  have hR1 : Rep E (mNew M (14, x.toNat)) H1 := hR.new (show 14 < 17 by decide) z1 o1 (by
    rw [cellOf_arr (congrArg Prod.fst hk0) (by omega), acell_q (congrArg Prod.fst hk0) rfl]
    show H1[H.size]? = some (vp_cell _ _)
    rw [e1, hcA, hk0]
    simp only [show ∀ j : Nat, mG (mNew M (14, x.toNat)) ((mN M : Int) + 1) j = 0 from fun j => if_pos rfl]
    rfl)
  have h9 := hh H1 hR1 ⟨Nat.le_trans hS.1 (by omega), fun x h1 h2 => (o1 x (Nat.lt_of_lt_of_le h1 hS.1)).trans (hS.2.1 x h1 h2), hS.2.2⟩
  rw [List.map_cons, e_v_R (show (0 : Int) < (mN M : Int) + 1 by omega), show eB E + ((mN M : Int) + 1 - 1).toNat = H.size by rw [hR.1]; omega] at h9
  exact h9
theorem r_newq15 {x a : Int} {B idx : Nat} (hB : B ≤ 100000) (F : Fx E p s m args meth c cc nL own ret nm) (h : nA 15 B M x = some (a, M1)) (hw : Cond.classLink own idx "VillageStories$Told" ∈ tblG) (d : decode cc pc = .ok (.anewarray idx, 3)) (kk : G E p l e R s m args below meth c nL Q k n M1 (pc + 3) ls (vR a :: st)) : G E p l e R s m args below meth c nL Q (k + 1) (n + B) M pc ls (vI x :: st) := by
  intro hls hst hM H locs lsA cells slots hR hS hl hc hs
  obtain ⟨⟨h0, h1⟩, hE⟩ := ite_so h
  obtain ⟨rfl, rfl⟩ := Prod.mk.inj hE
  have hi : InI x := vhd hst
  have hM1 : MOK (mNew M (15, x.toNat)) := hM.new (show x.toNat < _ by omega)
  have hh := fun H1 hR1 hS1 => kk hls (vst1 trivial (vtl hst)) hM1 H1 locs lsA (cells + 1) (slots + x.toNat) hR1 hS1 hl (by omega) (by omega)
  have hcl : (Int32.ofInt x).toNatClampNeg = x.toNat := clampN_I hi h0
  have hAO : va_AO "VillageStories$Told" s := F.2.2.2.2.2.2.1.2.2.2.2.2.2.2.2.2.2.1
  refine W.anew F.1 F.2.1 F.2.2.2.1 (F.2.2.2.2.1 _ hw) (va_AO.use hAO) rfl d rfl (fun z => by have := (neg_I hi).mp z; omega) (by rw [hcl]; omega) (by omega) (by rw [hcl]; omega) fun cA kA comp f1 f2 f3 f4 => ?_
  rw [hcl]
  generalize hH1 : H.push ({ cls := cA, slots := Array.replicate x.toNat .null, vm := .none } : Cell) = H1
  have z1 : H1.size = H.size + 1 := by rw [← hH1, Array.size_push]
  have e1 : H1[H.size]? = some (arrV cA x.toNat (fun _ => .null)) := by rw [← hH1, Array.getElem?_push_size, ← arrV_new]
  have o1 : ∀ q : Nat, q < H.size → H1[q]? = H[q]? := fun q hq => by rw [← hH1, Array.getElem?_push, if_neg (Nat.ne_of_lt hq)]
  have hk0 : mK (mNew M (15, x.toNat)) ((mN M : Int) + 1) = (15, x.toNat) := if_pos rfl
  have hcA : cA = E.2.2.1 15 := by
    obtain ⟨_, _, _, _, _, h4⟩ := (F.2.2.2.2.2.1.2 5 _ (tysOf_at E (c := 15) (by omega) (by omega))).2
    first | exact Option.some.inj (f1.symm.trans h4) | exact Option.some.inj (f4.symm.trans h4)
  have hR1 : Rep E (mNew M (15, x.toNat)) H1 := hR.new (show 15 < 17 by decide) z1 o1 (by
    rw [cellOf_arr (congrArg Prod.fst hk0) (by omega), acell_q (congrArg Prod.fst hk0) rfl]
    show H1[H.size]? = some (vp_cell _ _)
    rw [e1, hcA, hk0]
    simp only [show ∀ j : Nat, mG (mNew M (15, x.toNat)) ((mN M : Int) + 1) j = 0 from fun j => if_pos rfl]
    rfl)
  have h9 := hh H1 hR1 ⟨Nat.le_trans hS.1 (by omega), fun x h1 h2 => (o1 x (Nat.lt_of_lt_of_le h1 hS.1)).trans (hS.2.1 x h1 h2), hS.2.2⟩
  rw [List.map_cons, e_v_R (show (0 : Int) < (mN M : Int) + 1 by omega), show eB E + ((mN M : Int) + 1 - 1).toNat = H.size by rw [hR.1]; omega] at h9
  exact h9
theorem r_newq16 {x a : Int} {B idx : Nat} (hB : B ≤ 100000) (F : Fx E p s m args meth c cc nL own ret nm) (h : nA 16 B M x = some (a, M1)) (hw : Cond.classLink own idx "VillageStories$WorldSet" ∈ tblG) (d : decode cc pc = .ok (.anewarray idx, 3)) (kk : G E p l e R s m args below meth c nL Q k n M1 (pc + 3) ls (vR a :: st)) : G E p l e R s m args below meth c nL Q (k + 1) (n + B) M pc ls (vI x :: st) := by
  intro hls hst hM H locs lsA cells slots hR hS hl hc hs
  obtain ⟨⟨h0, h1⟩, hE⟩ := ite_so h
  obtain ⟨rfl, rfl⟩ := Prod.mk.inj hE
  have hi : InI x := vhd hst
  have hM1 : MOK (mNew M (16, x.toNat)) := hM.new (show x.toNat < _ by omega)
  have hh := fun H1 hR1 hS1 => kk hls (vst1 trivial (vtl hst)) hM1 H1 locs lsA (cells + 1) (slots + x.toNat) hR1 hS1 hl (by omega) (by omega)
  have hcl : (Int32.ofInt x).toNatClampNeg = x.toNat := clampN_I hi h0
  have hAO : va_AO "VillageStories$WorldSet" s := F.2.2.2.2.2.2.1.2.2.2.2.2.2.2.2.2.2.2
  refine W.anew F.1 F.2.1 F.2.2.2.1 (F.2.2.2.2.1 _ hw) (va_AO.use hAO) rfl d rfl (fun z => by have := (neg_I hi).mp z; omega) (by rw [hcl]; omega) (by omega) (by rw [hcl]; omega) fun cA kA comp f1 f2 f3 f4 => ?_
  rw [hcl]
  generalize hH1 : H.push ({ cls := cA, slots := Array.replicate x.toNat .null, vm := .none } : Cell) = H1
  have z1 : H1.size = H.size + 1 := by rw [← hH1, Array.size_push]
  have e1 : H1[H.size]? = some (arrV cA x.toNat (fun _ => .null)) := by rw [← hH1, Array.getElem?_push_size, ← arrV_new]
  have o1 : ∀ q : Nat, q < H.size → H1[q]? = H[q]? := fun q hq => by rw [← hH1, Array.getElem?_push, if_neg (Nat.ne_of_lt hq)]
  have hk0 : mK (mNew M (16, x.toNat)) ((mN M : Int) + 1) = (16, x.toNat) := if_pos rfl
  have hcA : cA = E.2.2.1 16 := by
    obtain ⟨_, _, _, _, _, h4⟩ := (F.2.2.2.2.2.1.2 6 _ (tysOf_at E (c := 16) (by omega) (by omega))).2
    first | exact Option.some.inj (f1.symm.trans h4) | exact Option.some.inj (f4.symm.trans h4)
  have hR1 : Rep E (mNew M (16, x.toNat)) H1 := hR.new (show 16 < 17 by decide) z1 o1 (by
    rw [cellOf_arr (congrArg Prod.fst hk0) (by omega), acell_q (congrArg Prod.fst hk0) rfl]
    show H1[H.size]? = some (vp_cell _ _)
    rw [e1, hcA, hk0]
    simp only [show ∀ j : Nat, mG (mNew M (16, x.toNat)) ((mN M : Int) + 1) j = 0 from fun j => if_pos rfl]
    rfl)
  have h9 := hh H1 hR1 ⟨Nat.le_trans hS.1 (by omega), fun x h1 h2 => (o1 x (Nat.lt_of_lt_of_le h1 hS.1)).trans (hS.2.1 x h1 h2), hS.2.2⟩
  rw [List.map_cons, e_v_R (show (0 : Int) < (mN M : Int) + 1 by omega), show eB E + ((mN M : Int) + 1 - 1).toNat = H.size by rw [hR.1]; omega] at h9
  exact h9
theorem r_gs_pat {idx : Nat} (F : Fx E p s m args meth c cc nL own ret nm) (ho : own = "VillageStories$WorldSet") (hi : idx = 57) (d : decode cc pc = .ok (.getstatic idx, 3)) (kk : G E p l e R s m args below meth c nL Q k n M (pc + 3) ls (vR (-1) :: st)) : G E p l e R s m args below meth c nL Q k n M pc ls st := by
  intro hls hst hM H locs lsA cells slots hR hS hl hc hs
  have hh := kk hls (vst1 trivial hst) hM H locs lsA cells slots hR hS hl hc hs
  subst ho; subst hi
  exact va_getsN F.1 F.2.1 (C := "VillageStories") (n := "PATTERNS") (d := "[J") (v := .ref (E.2.2.2 1)) F.2.2.2.2.2.2.1.1.1 hS F.2.2.2.1 (va_Nw.use rfl F.2.2.2.2.2.2.1.2.2.2.2.2.2.2.2.1) (fun x hx => hx) d hh
theorem r_ld_pat {i v : Int} (F : Fx E p s m args meth c cc nL own ret nm) (h : tG patL i = some v) (d : decode cc pc = .ok (.laload, 1)) (kk : G E p l e R s m args below meth c nL Q k n M (pc + 1) ls (vL v :: st)) : G E p l e R s m args below meth c nL Q k n M pc ls (vI i :: vR (-1) :: st) := by
  intro hls hst hM H locs lsA cells slots hR hS hl hc hs
  obtain ⟨⟨h0, h1⟩, rfl⟩ := ite_so h
  have hi : InI i := vhd hst
  have hv0 : ∀ j : Nat, j < 6 → (-9223372036854775808 ≤ patL.getD j 0 ∧ patL.getD j 0 < 9223372036854775808) ∧ (False → -2147483648 ≤ patL.getD j 0 ∧ patL.getD j 0 < 2147483648) := by decide +kernel
  have hv : ∀ j : Nat, j < 6 → vok (vL (patL.getD j 0)) := fun j hj => (hv0 j hj).1
  have hh := kk hls (vst1 (hv i.toNat (by change i < (6 : Int) at h1; omega)) (vtl (vtl hst))) hM H locs lsA cells slots hR hS hl hc hs
  exact va_tl F.1 F.2.1 F.2.2.2.2.2.2.1.1.2 hS (clamp_in hi h0 h1) (by rw [clampN_I hi h0]; rfl) d hh
theorem r_len_pat (F : Fx E p s m args meth c cc nL own ret nm) (d : decode cc pc = .ok (.arraylength, 1)) (kk : G E p l e R s m args below meth c nL Q k n M (pc + 1) ls (vI 6 :: st)) : G E p l e R s m args below meth c nL Q k n M pc ls (vR (-1) :: st) := by
  intro hls hst hM H locs lsA cells slots hR hS hl hc hs
  have hh := kk hls (vst1 (show InI _ by unfold InI; decide) (vtl hst)) hM H locs lsA cells slots hR hS hl hc hs
  exact va_tlen F.1 F.2.1 F.2.2.2.2.2.2.1.1.2 hS rfl d hh
theorem r_gs_ord {idx : Nat} (F : Fx E p s m args meth c cc nL own ret nm) (hw : Cond.fieldLink own idx "VillageStories$OtherNumbers" "ORDERS" "[I" ∈ tblG) (d : decode cc pc = .ok (.getstatic idx, 3)) (kk : G E p l e R s m args below meth c nL Q k n M (pc + 3) ls (vR (-2) :: st)) : G E p l e R s m args below meth c nL Q k n M pc ls st := by
  intro hls hst hM H locs lsA cells slots hR hS hl hc hs
  have hh := kk hls (vst1 trivial hst) hM H locs lsA cells slots hR hS hl hc hs
  exact va_gets F.1 F.2.1 (C := "VillageStories$OtherNumbers") (n := "ORDERS") (d := "[I") (v := .ref (E.2.2.2 2)) F.2.2.2.2.2.2.1.2.1.1 hS F.2.2.2.1 (F.2.2.2.2.1 _ hw) (fun x hx => hx) d hh
theorem r_ld_ord {i v : Int} (F : Fx E p s m args meth c cc nL own ret nm) (h : tG ordL i = some v) (d : decode cc pc = .ok (.iaload, 1)) (kk : G E p l e R s m args below meth c nL Q k n M (pc + 1) ls (vI v :: st)) : G E p l e R s m args below meth c nL Q k n M pc ls (vI i :: vR (-2) :: st) := by
  intro hls hst hM H locs lsA cells slots hR hS hl hc hs
  obtain ⟨⟨h0, h1⟩, rfl⟩ := ite_so h
  have hi : InI i := vhd hst
  have hv0 : ∀ j : Nat, j < 18 → (-9223372036854775808 ≤ ordL.getD j 0 ∧ ordL.getD j 0 < 9223372036854775808) ∧ (True → -2147483648 ≤ ordL.getD j 0 ∧ ordL.getD j 0 < 2147483648) := by decide +kernel
  have hv : ∀ j : Nat, j < 18 → vok (vI (ordL.getD j 0)) := fun j hj => (hv0 j hj).2 trivial
  have hh := kk hls (vst1 (hv i.toNat (by change i < (18 : Int) at h1; omega)) (vtl (vtl hst))) hM H locs lsA cells slots hR hS hl hc hs
  exact va_ti F.1 F.2.1 F.2.2.2.2.2.2.1.2.1.2 hS (clamp_in hi h0 h1) (by rw [clampN_I hi h0]; rfl) d hh
theorem r_len_ord (F : Fx E p s m args meth c cc nL own ret nm) (d : decode cc pc = .ok (.arraylength, 1)) (kk : G E p l e R s m args below meth c nL Q k n M (pc + 1) ls (vI 18 :: st)) : G E p l e R s m args below meth c nL Q k n M pc ls (vR (-2) :: st) := by
  intro hls hst hM H locs lsA cells slots hR hS hl hc hs
  have hh := kk hls (vst1 (show InI _ by unfold InI; decide) (vtl hst)) hM H locs lsA cells slots hR hS hl hc hs
  exact va_tlen F.1 F.2.1 F.2.2.2.2.2.2.1.2.1.2 hS rfl d hh
theorem r_gs_orn {idx : Nat} (F : Fx E p s m args meth c cc nL own ret nm) (hw : Cond.fieldLink own idx "VillageStories$OtherNumbers" "ORDERS_OF" "[I" ∈ tblG) (d : decode cc pc = .ok (.getstatic idx, 3)) (kk : G E p l e R s m args below meth c nL Q k n M (pc + 3) ls (vR (-3) :: st)) : G E p l e R s m args below meth c nL Q k n M pc ls st := by
  intro hls hst hM H locs lsA cells slots hR hS hl hc hs
  have hh := kk hls (vst1 trivial hst) hM H locs lsA cells slots hR hS hl hc hs
  exact va_gets F.1 F.2.1 (C := "VillageStories$OtherNumbers") (n := "ORDERS_OF") (d := "[I") (v := .ref (E.2.2.2 3)) F.2.2.2.2.2.2.1.2.2.1.1 hS F.2.2.2.1 (F.2.2.2.2.1 _ hw) (fun x hx => hx) d hh
theorem r_ld_orn {i v : Int} (F : Fx E p s m args meth c cc nL own ret nm) (h : tG ordN i = some v) (d : decode cc pc = .ok (.iaload, 1)) (kk : G E p l e R s m args below meth c nL Q k n M (pc + 1) ls (vI v :: st)) : G E p l e R s m args below meth c nL Q k n M pc ls (vI i :: vR (-3) :: st) := by
  intro hls hst hM H locs lsA cells slots hR hS hl hc hs
  obtain ⟨⟨h0, h1⟩, rfl⟩ := ite_so h
  have hi : InI i := vhd hst
  have hv0 : ∀ j : Nat, j < 4 → (-9223372036854775808 ≤ ordN.getD j 0 ∧ ordN.getD j 0 < 9223372036854775808) ∧ (True → -2147483648 ≤ ordN.getD j 0 ∧ ordN.getD j 0 < 2147483648) := by decide +kernel
  have hv : ∀ j : Nat, j < 4 → vok (vI (ordN.getD j 0)) := fun j hj => (hv0 j hj).2 trivial
  have hh := kk hls (vst1 (hv i.toNat (by change i < (4 : Int) at h1; omega)) (vtl (vtl hst))) hM H locs lsA cells slots hR hS hl hc hs
  exact va_ti F.1 F.2.1 F.2.2.2.2.2.2.1.2.2.1.2 hS (clamp_in hi h0 h1) (by rw [clampN_I hi h0]; rfl) d hh
theorem r_len_orn (F : Fx E p s m args meth c cc nL own ret nm) (d : decode cc pc = .ok (.arraylength, 1)) (kk : G E p l e R s m args below meth c nL Q k n M (pc + 1) ls (vI 4 :: st)) : G E p l e R s m args below meth c nL Q k n M pc ls (vR (-3) :: st) := by
  intro hls hst hM H locs lsA cells slots hR hS hl hc hs
  have hh := kk hls (vst1 (show InI _ by unfold InI; decide) (vtl hst)) hM H locs lsA cells slots hR hS hl hc hs
  exact va_tlen F.1 F.2.1 F.2.2.2.2.2.2.1.2.2.1.2 hS rfl d hh
theorem r_ldcS {i idx : Nat} (F : Fx E p s m args meth c cc nL own ret nm) (hi : i < 14) (ho : own = "VillageStories$Reader") (hx : sIdx.getD i 0 = idx) (d : decode cc pc = .ok (.ldc idx, 2)) (kk : G E p l e R s m args below meth c nL Q k n M (pc + 2) ls (vR (-((100 + i : Nat) : Int)) :: st)) : G E p l e R s m args below meth c nL Q k n M pc ls st := by
  intro hls hst hM H locs lsA cells slots hR hS hl hc hs
  have hh := kk hls (vst1 trivial hst) hM H locs lsA cells slots hR hS hl hc hs
  rw [List.map_cons, show e_v E (vR (-((100 + i : Nat) : Int))) = .ref (E.2.2.2 (100 + i)) by
    show va_rf (e_rf E (-((100 + i : Nat) : Int))) = _
    rw [e_rf_neg (by omega), Int.neg_neg, Int.toNat_natCast]
    rfl] at hh
  exact va_ldcS (tx := sTx.getD i "") F.1 F.2.1 F.2.2.2.1 (by rw [ho, ← hx]; exact F.2.2.2.2.2.2.1.2.2.2.2.2.2.1 i hi) d hh
end GB
