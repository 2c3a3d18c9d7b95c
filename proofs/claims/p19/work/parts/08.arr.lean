/-! ===== rows of arrays ===== -/
theorem clamp_in {x : Int} {N : Nat} (hx : InI x) (h0 : 0 ≤ x) (h1 : x < (N : Int)) : vp_in (Int32.ofInt x) N := by
  rintro (h | h)
  · have := (neg_I hx).mp h; omega
  · rw [clampN_I hx h0] at h; omega
theorem acell_i {E : En} {M : Mem} {a : Int} {t : Nat} (h : (mK M a).1 = t) (ht : atag t = 0) : acell E M a = ((mK M a).2, .inl (fun j => Int32.ofInt (mG M a j))) := by unfold acell; rw [h, ht]; rfl
theorem acell_l {E : En} {M : Mem} {a : Int} {t : Nat} (h : (mK M a).1 = t) (ht : atag t = 1) : acell E M a = ((mK M a).2, .inr (.inl (fun j => Int64.ofInt (mG M a j)))) := by unfold acell; rw [h, ht]; rfl
theorem acell_q {E : En} {M : Mem} {a : Int} {t : Nat} (h : (mK M a).1 = t) (ht : atag t = 2) : acell E M a = ((mK M a).2, .inr (.inr (.inr (.inr (fun j => e_rf E (mG M a j)))))) := by unfold acell; rw [h, ht]; rfl
theorem mS_same {M : Mem} {a i x j : Int} (h : j = i) : mG (mS M a i x) a j = x := by
  show (if a = a ∧ j = i then x else M.2.1 a j) = x
  rw [if_pos ⟨rfl, h⟩]
theorem mS_other {M : Mem} {a i x j : Int} (h : ¬ j = i) : mG (mS M a i x) a j = mG M a j := by
  show (if a = a ∧ j = i then x else M.2.1 a j) = _
  rw [if_neg (fun z => h z.2)]
theorem mS_cell {M : Mem} {a i x b j : Int} (h : b ≠ a) : mG (mS M a i x) b j = mG M b j := by
  show (if b = a ∧ j = i then x else M.2.1 b j) = _
  rw [if_neg (fun z => h z.1)]
theorem nar_byte {x : Int} (h1 : -128 ≤ x) (h2 : x < 128) : vp_nar .byte (Int32.ofInt x) = Int32.ofInt x := by
  rw [vp_nar_byte]
  apply Int32.toInt_inj.mp
  rw [Int8.toInt_toInt32, Int32.toInt_toInt8, toInt_I (by unfold InI; omega)]
  unfold Int.bmod
  simp only [Int.reducePow, Nat.reducePow, Int8.size, UInt8.size]
  split <;> omega
theorem nar_bool {x : Int} (h : x = 0 ∨ x = 1) : vp_nar .boolean (Int32.ofInt x) = Int32.ofInt x := by
  rcases h with h | h <;> subst h <;> rfl
section GA
variable {E : En} {p : Program} {l : Launch} {e : Env} {R : Room} {s : State} {m : MethodId} {args : Array Value} {below : List Frame} {meth : Method} {c : Code} {Q : State → Prop} {cc : ByteArray} {nL : Nat} {own : String} {ret : Option FieldType} {nm : String} {k n pc : Nat} {M M1 : Mem} {ls : List (Nat × V)} {st : List V}
theorem r_iald {a i v : Int} (F : Fx E p s m args meth c cc nL own ret nm) (h : aG 10 M a i = some v) (d : decode cc pc = .ok (.iaload, 1)) (kk : G E p l e R s m args below meth c nL Q k n M (pc + 1) ls (vI v :: st)) : G E p l e R s m args below meth c nL Q k n M pc ls (vI i :: vR a :: st) := by
  intro hls hst hM H locs lsA cells slots hR hS hl hc hs
  obtain ⟨⟨hK, h0, h1⟩, rfl⟩ := ite_so h
  have h17 : (mK M a).1 < 17 := by omega
  have hP : va_P E.1 vwCl [(eB E + (a - 1).toNat, cellOf E M a)] H := fun k q hq => by
    match k, hq with
    | 0, hq => cases hq; exact hR.at hM h17
  have hi : InI i := vhd hst
  have hv : vok (vI (mG M a i)) := by
    have := hM.1 a i.toNat
    unfold mT at this
    rw [hK, if_neg (by omega), show ((i.toNat : Nat) : Int) = i by omega] at this
    exact this
  have hh := kk hls (vst1 hv (vtl (vtl hst))) hM H locs lsA cells slots hR hS hl hc hs
  rw [List.map_cons, List.map_cons, e_v_R (hM.2.1 a h17).1]
  refine va_iald F.1 F.2.1 F.2.2.2.2.2.1 hP 0 0 (by rw [cellOf_arr hK (by omega), acell_i hK rfl]; rfl) (tysOf_at E (c := 10) (by omega) (by omega)) (clamp_in hi h0 h1) d ?_
  rw [clamp_I hi h0]
  exact hh
theorem r_zald {a i v : Int} (F : Fx E p s m args meth c cc nL own ret nm) (h : aG 11 M a i = some v) (d : decode cc pc = .ok (.baload, 1)) (kk : G E p l e R s m args below meth c nL Q k n M (pc + 1) ls (vI v :: st)) : G E p l e R s m args below meth c nL Q k n M pc ls (vI i :: vR a :: st) := by
  intro hls hst hM H locs lsA cells slots hR hS hl hc hs
  obtain ⟨⟨hK, h0, h1⟩, rfl⟩ := ite_so h
  have h17 : (mK M a).1 < 17 := by omega
  have hP : va_P E.1 vwCl [(eB E + (a - 1).toNat, cellOf E M a)] H := fun k q hq => by
    match k, hq with
    | 0, hq => cases hq; exact hR.at hM h17
  have hi : InI i := vhd hst
  have hv : vok (vI (mG M a i)) := by
    have := hM.1 a i.toNat
    unfold mT at this
    rw [hK, if_neg (by omega), show ((i.toNat : Nat) : Int) = i by omega] at this
    exact this
  have hh := kk hls (vst1 hv (vtl (vtl hst))) hM H locs lsA cells slots hR hS hl hc hs
  rw [List.map_cons, List.map_cons, e_v_R (hM.2.1 a h17).1]
  refine va_zald F.1 F.2.1 F.2.2.2.2.2.1 hP 0 1 (by rw [cellOf_arr hK (by omega), acell_i hK rfl]; rfl) (tysOf_at E (c := 11) (by omega) (by omega)) (clamp_in hi h0 h1) d ?_
  rw [clamp_I hi h0]
  exact hh
theorem r_bald {a i v : Int} (F : Fx E p s m args meth c cc nL own ret nm) (h : aG 12 M a i = some v) (d : decode cc pc = .ok (.baload, 1)) (kk : G E p l e R s m args below meth c nL Q k n M (pc + 1) ls (vI v :: st)) : G E p l e R s m args below meth c nL Q k n M pc ls (vI i :: vR a :: st) := by
  intro hls hst hM H locs lsA cells slots hR hS hl hc hs
  obtain ⟨⟨hK, h0, h1⟩, rfl⟩ := ite_so h
  have h17 : (mK M a).1 < 17 := by omega
  have hP : va_P E.1 vwCl [(eB E + (a - 1).toNat, cellOf E M a)] H := fun k q hq => by
    match k, hq with
    | 0, hq => cases hq; exact hR.at hM h17
  have hi : InI i := vhd hst
  have hv : vok (vI (mG M a i)) := by
    have := hM.1 a i.toNat
    unfold mT at this
    rw [hK, if_neg (by omega), show ((i.toNat : Nat) : Int) = i by omega] at this
    exact this
  have hh := kk hls (vst1 hv (vtl (vtl hst))) hM H locs lsA cells slots hR hS hl hc hs
  rw [List.map_cons, List.map_cons, e_v_R (hM.2.1 a h17).1]
  refine va_bald F.1 F.2.1 F.2.2.2.2.2.1 hP 0 2 (by rw [cellOf_arr hK (by omega), acell_i hK rfl]; rfl) (tysOf_at E (c := 12) (by omega) (by omega)) (clamp_in hi h0 h1) d ?_
  rw [clamp_I hi h0]
  exact hh
theorem r_lald {a i v : Int} (F : Fx E p s m args meth c cc nL own ret nm) (h : aG 13 M a i = some v) (d : decode cc pc = .ok (.laload, 1)) (kk : G E p l e R s m args below meth c nL Q k n M (pc + 1) ls (vL v :: st)) : G E p l e R s m args below meth c nL Q k n M pc ls (vI i :: vR a :: st) := by
  intro hls hst hM H locs lsA cells slots hR hS hl hc hs
  obtain ⟨⟨hK, h0, h1⟩, rfl⟩ := ite_so h
  have h17 : (mK M a).1 < 17 := by omega
  have hP : va_P E.1 vwCl [(eB E + (a - 1).toNat, cellOf E M a)] H := fun k q hq => by
    match k, hq with
    | 0, hq => cases hq; exact hR.at hM h17
  have hi : InI i := vhd hst
  have hv : vok (vL (mG M a i)) := by
    have := hM.1 a i.toNat
    unfold mT at this
    rw [hK, if_neg (by omega), show ((i.toNat : Nat) : Int) = i by omega] at this
    exact this
  have hh := kk hls (vst1 hv (vtl (vtl hst))) hM H locs lsA cells slots hR hS hl hc hs
  rw [List.map_cons, List.map_cons, e_v_R (hM.2.1 a h17).1]
  refine va_lald F.1 F.2.1 F.2.2.2.2.2.1 hP 0 3 (by rw [cellOf_arr hK (by omega), acell_l hK rfl]; rfl) (tysOf_at E (c := 13) (by omega) (by omega)) (clamp_in hi h0 h1) d ?_
  rw [clamp_I hi h0]
  exact hh
theorem r_aald14 {a i v : Int} (F : Fx E p s m args meth c cc nL own ret nm) (h : aG 14 M a i = some v) (d : decode cc pc = .ok (.aaload, 1)) (kk : G E p l e R s m args below meth c nL Q k n M (pc + 1) ls (vR v :: st)) : G E p l e R s m args below meth c nL Q k n M pc ls (vI i :: vR a :: st) := by
  intro hls hst hM H locs lsA cells slots hR hS hl hc hs
  obtain ⟨⟨hK, h0, h1⟩, rfl⟩ := ite_so h
  have h17 : (mK M a).1 < 17 := by omega
  have hP : va_P E.1 vwCl [(eB E + (a - 1).toNat, cellOf E M a)] H := fun k q hq => by
    match k, hq with
    | 0, hq => cases hq; exact hR.at hM h17
  have hi : InI i := vhd hst
  have hh := kk hls (vst1 trivial (vtl (vtl hst))) hM H locs lsA cells slots hR hS hl hc hs
  rw [List.map_cons, List.map_cons, e_v_R (hM.2.1 a h17).1]
  refine va_aldq F.1 F.2.1 F.2.2.2.2.2.1 hP 0 4 (by rw [cellOf_arr hK (by omega), acell_q hK rfl]; rfl) (tysOf_at E (c := 14) (by omega) (by omega)) (clamp_in hi h0 h1) d ?_
  rw [clamp_I hi h0]
  exact hh
theorem r_aald15 {a i v : Int} (F : Fx E p s m args meth c cc nL own ret nm) (h : aG 15 M a i = some v) (d : decode cc pc = .ok (.aaload, 1)) (kk : G E p l e R s m args below meth c nL Q k n M (pc + 1) ls (vR v :: st)) : G E p l e R s m args below meth c nL Q k n M pc ls (vI i :: vR a :: st) := by
  intro hls hst hM H locs lsA cells slots hR hS hl hc hs
  obtain ⟨⟨hK, h0, h1⟩, rfl⟩ := ite_so h
  have h17 : (mK M a).1 < 17 := by omega
  have hP : va_P E.1 vwCl [(eB E + (a - 1).toNat, cellOf E M a)] H := fun k q hq => by
    match k, hq with
    | 0, hq => cases hq; exact hR.at hM h17
  have hi : InI i := vhd hst
  have hh := kk hls (vst1 trivial (vtl (vtl hst))) hM H locs lsA cells slots hR hS hl hc hs
  rw [List.map_cons, List.map_cons, e_v_R (hM.2.1 a h17).1]
  refine va_aldq F.1 F.2.1 F.2.2.2.2.2.1 hP 0 5 (by rw [cellOf_arr hK (by omega), acell_q hK rfl]; rfl) (tysOf_at E (c := 15) (by omega) (by omega)) (clamp_in hi h0 h1) d ?_
  rw [clamp_I hi h0]
  exact hh
theorem r_aald16 {a i v : Int} (F : Fx E p s m args meth c cc nL own ret nm) (h : aG 16 M a i = some v) (d : decode cc pc = .ok (.aaload, 1)) (kk : G E p l e R s m args below meth c nL Q k n M (pc + 1) ls (vR v :: st)) : G E p l e R s m args below meth c nL Q k n M pc ls (vI i :: vR a :: st) := by
  intro hls hst hM H locs lsA cells slots hR hS hl hc hs
  obtain ⟨⟨hK, h0, h1⟩, rfl⟩ := ite_so h
  have h17 : (mK M a).1 < 17 := by omega
  have hP : va_P E.1 vwCl [(eB E + (a - 1).toNat, cellOf E M a)] H := fun k q hq => by
    match k, hq with
    | 0, hq => cases hq; exact hR.at hM h17
  have hi : InI i := vhd hst
  have hh := kk hls (vst1 trivial (vtl (vtl hst))) hM H locs lsA cells slots hR hS hl hc hs
  rw [List.map_cons, List.map_cons, e_v_R (hM.2.1 a h17).1]
  refine va_aldq F.1 F.2.1 F.2.2.2.2.2.1 hP 0 6 (by rw [cellOf_arr hK (by omega), acell_q hK rfl]; rfl) (tysOf_at E (c := 16) (by omega) (by omega)) (clamp_in hi h0 h1) d ?_
  rw [clamp_I hi h0]
  exact hh
theorem r_alen {a v : Int} {t : Nat} (ht : 10 ≤ t ∧ t < 17) (F : Fx E p s m args meth c cc nL own ret nm) (h : aL t M a = some v) (d : decode cc pc = .ok (.arraylength, 1)) (kk : G E p l e R s m args below meth c nL Q k n M (pc + 1) ls (vI v :: st)) : G E p l e R s m args below meth c nL Q k n M pc ls (vR a :: st) := by
  intro hls hst hM H locs lsA cells slots hR hS hl hc hs
  obtain ⟨hK, rfl⟩ := ite_so h
  have h17 : (mK M a).1 < 17 := by omega
  have hP : va_P E.1 vwCl [(eB E + (a - 1).toNat, cellOf E M a)] H := fun k q hq => by
    match k, hq with
    | 0, hq => cases hq; exact hR.at hM h17
  have hL := hM.2.2 a
  have hh := kk hls (vst1 (show InI ((mK M a).2 : Int) by unfold InI; omega) (vtl hst)) hM H locs lsA cells slots hR hS hl hc hs
  rw [List.map_cons, e_v_R (hM.2.1 a h17).1]
  refine va_alen F.1 F.2.1 F.2.2.2.2.2.1 hP 0 (t - 10) (x := acell E M a) (by rw [cellOf_arr hK (by omega)]; rfl) (tysOf_at E (c := t) (by omega) (by omega)) (v := Int32.ofInt ((mK M a).2 : Int)) (by show Int32.ofNat (mK M a).2 = _; rw [Int32.ofInt_eq_ofNat]) d ?_
  exact hh
theorem r_iast {a i x : Int} (F : Fx E p s m args meth c cc nL own ret nm) (h : aS 10 M a i x = some M1) (d : decode cc pc = .ok (.iastore, 1)) (kk : G E p l e R s m args below meth c nL Q k n M1 (pc + 1) ls st) : G E p l e R s m args below meth c nL Q k n M pc ls (vI x :: vI i :: vR a :: st) := by
  intro hls hst hM H locs lsA cells slots hR hS hl hc hs
  obtain ⟨⟨hK, h0, h1⟩, rfl⟩ := ite_so h
  have h17 : (mK M a).1 < 17 := by omega
  have hi : InI i := vhd (vtl hst)
  have hA : AE E (eB E + (a - 1).toNat) := Nat.le_add_right _ _
  have hat := hR.at hM h17
  rw [cellOf_arr hK (by omega), acell_i hK rfl] at hat
  have hat : H[eB E + (a - 1).toNat]? = some (vp_cell (E.2.2.1 (mK M a).1) ((mK M a).2, .inl (fun j => Int32.ofInt (mG M a j)))) := by rw [hK]; exact hat
  rw [List.map_cons, List.map_cons, List.map_cons, e_v_R (hM.2.1 a h17).1]
  have hM1 : MOK (mS M a i x) := hM.upd h0 (by unfold mT; rw [hK, if_neg (by omega)]; exact vhd hst)
  refine W.iast F.1 F.2.1 hat (by rw [hK]; exact (F.2.2.2.2.2.1.2 0 _ (tysOf_at E (c := 10) (by omega) (by omega))).1 (mK M a).2 (fun j : Nat => (fun z => .int (Int32.ofInt z)) (mG M a j))) (fun q => by cases q) (by show ¬ (_ ∨ (arrV _ _ _).slots.size ≤ _); rw [arrV_size]; exact clamp_in hi h0 h1) rfl rfl d fun H1 e1 z1 oq => ?_
  have hP1 : va_at E.1 vwCl (eB E + (a - 1).toNat, cellOf E (mS M a i x) a) H1 := by
    rw [cellOf_arr (M := mS M a i x) hK (by omega), acell_i (M := mS M a i x) hK rfl]
    show H1[_]? = some (vp_cell _ _)
    rw [e1]
    rw [vp_cell_i, vp_cell_i, arrV_store]
    rw [hK]
    congr 2
    funext q
    by_cases hq : q = (Int32.ofInt i).toNatClampNeg
    · subst hq
      have e2 : mG (mS M a i x) a (((Int32.ofInt i).toNatClampNeg : Nat) : Int) = x := mS_same (clamp_I hi h0)
      simp only [updV, if_true]
      rw [e2]
      try rfl
    · have e2 : mG (mS M a i x) a (q : Int) = mG M a (q : Int) := mS_other (fun z => hq (by rw [clampN_I hi h0]; omega))
      simp only [updV, if_neg hq]
      rw [e2]
  have hR1 : Rep E (mS M a i x) H1 := hR.upd hM h17 rfl rfl (fun b hb j => mS_cell hb) z1 oq hP1
  exact kk hls (vtl (vtl (vtl hst))) hM1 H1 _ lsA cells slots hR1 (hS.put z1 oq hA) hl hc hs
theorem r_zast {a i x : Int} (F : Fx E p s m args meth c cc nL own ret nm) (h : aSZ 11 M a i x = some M1) (d : decode cc pc = .ok (.bastore, 1)) (kk : G E p l e R s m args below meth c nL Q k n M1 (pc + 1) ls st) : G E p l e R s m args below meth c nL Q k n M pc ls (vI x :: vI i :: vR a :: st) := by
  intro hls hst hM H locs lsA cells slots hR hS hl hc hs
  obtain ⟨⟨hK, h0, h1, h2⟩, rfl⟩ := ite_so h
  have h17 : (mK M a).1 < 17 := by omega
  have hi : InI i := vhd (vtl hst)
  have hA : AE E (eB E + (a - 1).toNat) := Nat.le_add_right _ _
  have hat := hR.at hM h17
  rw [cellOf_arr hK (by omega), acell_i hK rfl] at hat
  have hat : H[eB E + (a - 1).toNat]? = some (vp_cell (E.2.2.1 (mK M a).1) ((mK M a).2, .inl (fun j => Int32.ofInt (mG M a j)))) := by rw [hK]; exact hat
  rw [List.map_cons, List.map_cons, List.map_cons, e_v_R (hM.2.1 a h17).1]
  have hM1 : MOK (mS M a i x) := hM.upd h0 (by unfold mT; rw [hK, if_neg (by omega)]; exact vhd hst)
  refine W.zast F.1 F.2.1 hat (by rw [hK]; exact (F.2.2.2.2.2.1.2 1 _ (tysOf_at E (c := 11) (by omega) (by omega))).1 (mK M a).2 (fun j : Nat => (fun z => .int (Int32.ofInt z)) (mG M a j))) (fun q => by cases q) (by show ¬ (_ ∨ (arrV _ _ _).slots.size ≤ _); rw [arrV_size]; exact clamp_in hi h0 h1) rfl rfl d fun H1 e1 z1 oq => ?_
  have hP1 : va_at E.1 vwCl (eB E + (a - 1).toNat, cellOf E (mS M a i x) a) H1 := by
    rw [cellOf_arr (M := mS M a i x) hK (by omega), acell_i (M := mS M a i x) hK rfl]
    show H1[_]? = some (vp_cell _ _)
    rw [e1]
    rw [vp_cell_i, vp_cell_i, arrV_store]
    rw [hK]
    congr 2
    funext q
    by_cases hq : q = (Int32.ofInt i).toNatClampNeg
    · subst hq
      have e2 : mG (mS M a i x) a (((Int32.ofInt i).toNatClampNeg : Nat) : Int) = x := mS_same (clamp_I hi h0)
      simp only [updV, if_true]
      rw [e2]
      have e3 := nar_bool h2
      try exact congrArg Value.int e3
    · have e2 : mG (mS M a i x) a (q : Int) = mG M a (q : Int) := mS_other (fun z => hq (by rw [clampN_I hi h0]; omega))
      simp only [updV, if_neg hq]
      rw [e2]
  have hR1 : Rep E (mS M a i x) H1 := hR.upd hM h17 rfl rfl (fun b hb j => mS_cell hb) z1 oq hP1
  exact kk hls (vtl (vtl (vtl hst))) hM1 H1 _ lsA cells slots hR1 (hS.put z1 oq hA) hl hc hs
theorem r_bast {a i x : Int} (F : Fx E p s m args meth c cc nL own ret nm) (h : aSB 12 M a i x = some M1) (d : decode cc pc = .ok (.bastore, 1)) (kk : G E p l e R s m args below meth c nL Q k n M1 (pc + 1) ls st) : G E p l e R s m args below meth c nL Q k n M pc ls (vI x :: vI i :: vR a :: st) := by
  intro hls hst hM H locs lsA cells slots hR hS hl hc hs
  obtain ⟨⟨hK, h0, h1, h2, h3⟩, rfl⟩ := ite_so h
  have h17 : (mK M a).1 < 17 := by omega
  have hi : InI i := vhd (vtl hst)
  have hA : AE E (eB E + (a - 1).toNat) := Nat.le_add_right _ _
  have hat := hR.at hM h17
  rw [cellOf_arr hK (by omega), acell_i hK rfl] at hat
  have hat : H[eB E + (a - 1).toNat]? = some (vp_cell (E.2.2.1 (mK M a).1) ((mK M a).2, .inl (fun j => Int32.ofInt (mG M a j)))) := by rw [hK]; exact hat
  rw [List.map_cons, List.map_cons, List.map_cons, e_v_R (hM.2.1 a h17).1]
  have hM1 : MOK (mS M a i x) := hM.upd h0 (by unfold mT; rw [hK, if_neg (by omega)]; exact vhd hst)
  refine W.bast F.1 F.2.1 hat (by rw [hK]; exact (F.2.2.2.2.2.1.2 2 _ (tysOf_at E (c := 12) (by omega) (by omega))).1 (mK M a).2 (fun j : Nat => (fun z => .int (Int32.ofInt z)) (mG M a j))) (fun q => by cases q) (by show ¬ (_ ∨ (arrV _ _ _).slots.size ≤ _); rw [arrV_size]; exact clamp_in hi h0 h1) rfl rfl d fun H1 e1 z1 oq => ?_
  have hP1 : va_at E.1 vwCl (eB E + (a - 1).toNat, cellOf E (mS M a i x) a) H1 := by
    rw [cellOf_arr (M := mS M a i x) hK (by omega), acell_i (M := mS M a i x) hK rfl]
    show H1[_]? = some (vp_cell _ _)
    rw [e1]
    rw [vp_cell_i, vp_cell_i, arrV_store]
    rw [hK]
    congr 2
    funext q
    by_cases hq : q = (Int32.ofInt i).toNatClampNeg
    · subst hq
      have e2 : mG (mS M a i x) a (((Int32.ofInt i).toNatClampNeg : Nat) : Int) = x := mS_same (clamp_I hi h0)
      simp only [updV, if_true]
      rw [e2]
      have e3 := nar_byte h2 h3
      try exact congrArg Value.int e3
    · have e2 : mG (mS M a i x) a (q : Int) = mG M a (q : Int) := mS_other (fun z => hq (by rw [clampN_I hi h0]; omega))
      simp only [updV, if_neg hq]
      rw [e2]
  have hR1 : Rep E (mS M a i x) H1 := hR.upd hM h17 rfl rfl (fun b hb j => mS_cell hb) z1 oq hP1
  exact kk hls (vtl (vtl (vtl hst))) hM1 H1 _ lsA cells slots hR1 (hS.put z1 oq hA) hl hc hs
theorem r_last {a i x : Int} (F : Fx E p s m args meth c cc nL own ret nm) (h : aS 13 M a i x = some M1) (d : decode cc pc = .ok (.lastore, 1)) (kk : G E p l e R s m args below meth c nL Q k n M1 (pc + 1) ls st) : G E p l e R s m args below meth c nL Q k n M pc ls (vL x :: vI i :: vR a :: st) := by
  intro hls hst hM H locs lsA cells slots hR hS hl hc hs
  obtain ⟨⟨hK, h0, h1⟩, rfl⟩ := ite_so h
  have h17 : (mK M a).1 < 17 := by omega
  have hi : InI i := vhd (vtl hst)
  have hA : AE E (eB E + (a - 1).toNat) := Nat.le_add_right _ _
  have hat := hR.at hM h17
  rw [cellOf_arr hK (by omega), acell_l hK rfl] at hat
  have hat : H[eB E + (a - 1).toNat]? = some (vp_cell (E.2.2.1 (mK M a).1) ((mK M a).2, .inr (.inl (fun j => Int64.ofInt (mG M a j))))) := by rw [hK]; exact hat
  rw [List.map_cons, List.map_cons, List.map_cons, e_v_R (hM.2.1 a h17).1]
  have hM1 : MOK (mS M a i x) := hM.upd h0 (by unfold mT; rw [hK, if_neg (by omega)]; exact vhd hst)
  refine W.last F.1 F.2.1 hat (by rw [hK]; exact (F.2.2.2.2.2.1.2 3 _ (tysOf_at E (c := 13) (by omega) (by omega))).1 (mK M a).2 (fun j : Nat => (fun z => .long (Int64.ofInt z)) (mG M a j))) (fun q => by cases q) (by show ¬ (_ ∨ (arrV _ _ _).slots.size ≤ _); rw [arrV_size]; exact clamp_in hi h0 h1) rfl rfl d fun H1 e1 z1 oq => ?_
  have hP1 : va_at E.1 vwCl (eB E + (a - 1).toNat, cellOf E (mS M a i x) a) H1 := by
    rw [cellOf_arr (M := mS M a i x) hK (by omega), acell_l (M := mS M a i x) hK rfl]
    show H1[_]? = some (vp_cell _ _)
    rw [e1]
    rw [vp_cell_l, vp_cell_l, arrV_store]
    rw [hK]
    congr 2
    funext q
    by_cases hq : q = (Int32.ofInt i).toNatClampNeg
    · subst hq
      have e2 : mG (mS M a i x) a (((Int32.ofInt i).toNatClampNeg : Nat) : Int) = x := mS_same (clamp_I hi h0)
      simp only [updV, if_true]
      rw [e2]
      try rfl
    · have e2 : mG (mS M a i x) a (q : Int) = mG M a (q : Int) := mS_other (fun z => hq (by rw [clampN_I hi h0]; omega))
      simp only [updV, if_neg hq]
      rw [e2]
  have hR1 : Rep E (mS M a i x) H1 := hR.upd hM h17 rfl rfl (fun b hb j => mS_cell hb) z1 oq hP1
  exact kk hls (vtl (vtl (vtl hst))) hM1 H1 _ lsA cells slots hR1 (hS.put z1 oq hA) hl hc hs
end GA
