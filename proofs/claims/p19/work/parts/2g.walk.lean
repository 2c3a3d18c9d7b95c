theorem tX4_greaterAt {l0 l1 : Int} {M : Mem} {q : Int × Mem} (h : mX4_greaterAt l0 l1 M = some q) : Ct 2 0 0 yX4_greaterAt cX4_greaterAt 3 (some FieldType.int) [vR l0, vI l1] M (some (vI q.1)) q.2 := by
  unfold mX4_greaterAt at h
  refine Ct.of (by decide) (Nat.le_of_ble_eq_true rfl) ?_
  intro E p l e s m args below meth c F
  refine r_sub [0, 1] (ls' := [(0, vR l0), (1, vI l1)]) rfl ?_
  refine r_aload_n (j := 0) F rfl rfl dX4_greaterAt_0 ?_
  replace h := bind_so h
  obtain ⟨a1, h1, h⟩ := h
  refine r_getT (t := 2) rfl clok_4 F (by decide) h1 tw_374 dX4_greaterAt_1 ?_
  refine r_aload_n (j := 0) F rfl rfl dX4_greaterAt_4 ?_
  replace h := bind_so h
  obtain ⟨a5, h5, h⟩ := h
  refine r_getT (t := 2) rfl clok_4 F (by decide) h5 tw_366 dX4_greaterAt_5 ?_
  replace h := bind_so h
  obtain ⟨a8, h8, h⟩ := h
  refine r_getT (t := 2) rfl clok_6 F (by decide) h8 tw_209 dX4_greaterAt_8 ?_
  refine r_iload_n (j := 1) F rfl rfl dX4_greaterAt_11 ?_
  replace h := bind_so h
  obtain ⟨_, g12, h⟩ := h
  replace h := bind_so h
  obtain ⟨q12, h12, h⟩ := h
  refine r_callV (as := [vI l1]) (rv := (some (vI q12.1))) (kc := 0) (nc := 0) (tX3_bit h12) clok_3 F (gK_so g12) tw_993 tw_555 tw_556 tw_557 tw_115 ⟨by decide, by decide, show (parseMethodDescriptor yX3_bit.desc).map (fun d => d.parameters.length) = some 1 by decide +kernel⟩ ⟨by decide, by decide⟩ (Nat.le_of_ble_eq_true rfl) dX4_greaterAt_12 ?_
  replace h := bind_so h
  obtain ⟨_, g15, h⟩ := h
  replace h := bind_so h
  obtain ⟨q15, h15, h⟩ := h
  refine r_callV (as := [vI q12.1]) (rv := (some (vI q15.1))) (kc := 0) (nc := 0) (tX7_countWhere h15) clok_7 F (gK_so g15) tw_1162 tw_1163 tw_1164 tw_1165 tw_118 ⟨by decide, by decide, show (parseMethodDescriptor yX7_countWhere.desc).map (fun d => d.parameters.length) = some 1 by decide +kernel⟩ ⟨by decide, by decide⟩ (Nat.le_of_ble_eq_true rfl) dX4_greaterAt_15 ?_
  refine r_istore_n (ls' := [(2, vI q15.1), (0, vR l0), (1, vI l1)]) F rfl (by decide) rfl dX4_greaterAt_18 ?_
  refine r_iload_n (j := 0) F rfl rfl dX4_greaterAt_19 ?_
  refine r_aload_n (j := 1) F rfl rfl dX4_greaterAt_20 ?_
  replace h := bind_so h
  obtain ⟨a21, h21, h⟩ := h
  refine r_getT (t := 2) rfl clok_4 F (by decide) h21 tw_374 dX4_greaterAt_21 ?_
  replace h := bind_so h
  obtain ⟨_, g24, h⟩ := h
  replace h := bind_so h
  obtain ⟨q24, h24, h⟩ := h
  refine r_callV (as := []) (rv := (some (vI q24.1))) (kc := 0) (nc := 0) (tX7_count h24) clok_7 F (gK_so g24) tw_1030 tw_1031 tw_1032 tw_1033 tw_118 ⟨by decide, by decide, show (parseMethodDescriptor yX7_count.desc).map (fun d => d.parameters.length) = some 0 by decide +kernel⟩ ⟨by decide, by decide⟩ (Nat.le_of_ble_eq_true rfl) dX4_greaterAt_24 ?_
  refine r_iload_n (j := 0) F rfl rfl dX4_greaterAt_27 ?_
  refine r_isub F dX4_greaterAt_28 ?_
  refine r_max F tw_1210 tw_418 tw_121 tw_419 ⟨by decide, by decide⟩ (Nat.le_of_ble_eq_true rfl) dX4_greaterAt_29 ?_
  obtain rfl := Option.some.inj h
  exact r_iret F dX4_greaterAt_32
theorem tX4_settlingPlace_57 {E : En} {p : Program} {l : Launch} {e : Env} {s : State} {m : MethodId} {args : Array Value} {below : List Frame} {meth : Method} {c : Code} {q : Int × Mem} {k23 : Int → Int → Int → Mem → Option (Int × Mem)} (hk23 : ∀ {l0 l1 l2 : Int} {M : Mem}, k23 l0 l1 l2 M = some q → G E p l e (rmOf 102 0 0) s m args below meth c 3 (QZ E below args s (rmOf 102 0 0) (some (vI q.1)) q.2) 0 0 M 23 [(0, vR l0), (1, vI l1), (2, vI l2)] []) {l0 l1 l2 : Int} {M : Mem} (F : Fx E p s m args meth c cX4_settlingPlace 3 yX4_settlingPlace.cls (some FieldType.int) yX4_settlingPlace.name) (h : mX4_settlingPlace_57 k23 l0 l1 l2 M = some q) : G E p l e (rmOf 102 0 0) s m args below meth c 3 (QZ E below args s (rmOf 102 0 0) (some (vI q.1)) q.2) 0 0 M 57 [(0, vR l0), (1, vI l1), (2, vI l2)] [] := by
  unfold mX4_settlingPlace_57 at h
  refine r_iinc (j := 2) (ls' := [(2, vI (wI (l2 + 1))), (0, vR l0), (1, vI l1)]) F rfl (by decide) rfl dX4_settlingPlace_57 ?_
  refine r_goto (tgt := 23) F (by decide) dX4_settlingPlace_60 ?_
  refine r_sub [1, 2, 0] (ls' := [(0, vR l0), (1, vI l1), (2, vI (wI (l2 + 1)))]) rfl ?_
  exact hk23 h
theorem tX4_settlingPlace_55 {E : En} {p : Program} {l : Launch} {e : Env} {s : State} {m : MethodId} {args : Array Value} {below : List Frame} {meth : Method} {c : Code} {q : Int × Mem} {k23 : Int → Int → Int → Mem → Option (Int × Mem)} (hk23 : ∀ {l0 l1 l2 : Int} {M : Mem}, k23 l0 l1 l2 M = some q → G E p l e (rmOf 102 0 0) s m args below meth c 3 (QZ E below args s (rmOf 102 0 0) (some (vI q.1)) q.2) 0 0 M 23 [(0, vR l0), (1, vI l1), (2, vI l2)] []) {l0 l2 : Int} {M : Mem} (F : Fx E p s m args meth c cX4_settlingPlace 3 yX4_settlingPlace.cls (some FieldType.int) yX4_settlingPlace.name) (h : mX4_settlingPlace_55 k23 l0 l2 M = some q) : G E p l e (rmOf 102 0 0) s m args below meth c 3 (QZ E below args s (rmOf 102 0 0) (some (vI q.1)) q.2) 0 0 M 55 [(0, vR l0), (2, vI l2)] [] := by
  unfold mX4_settlingPlace_55 at h
  refine r_iload_n (j := 1) F rfl rfl dX4_settlingPlace_55 ?_
  refine r_istore_n (ls' := [(1, vI l2), (0, vR l0), (2, vI l2)]) F rfl (by decide) rfl dX4_settlingPlace_56 ?_
  refine r_sub [1, 0, 2] (ls' := [(0, vR l0), (1, vI l2), (2, vI l2)]) rfl ?_
  exact tX4_settlingPlace_57 (fun h => hk23 h) F h
theorem tbX4_settlingPlace_23 {E : En} {p : Program} {l : Launch} {e : Env} {s : State} {m : MethodId} {args : Array Value} {below : List Frame} {meth : Method} {c : Code} {q : Int × Mem} {k23 : Int → Int → Int → Mem → Option (Int × Mem)} (hk23 : ∀ {l0 l1 l2 : Int} {M : Mem}, k23 l0 l1 l2 M = some q → G E p l e (rmOf 102 0 0) s m args below meth c 3 (QZ E below args s (rmOf 102 0 0) (some (vI q.1)) q.2) 0 0 M 23 [(0, vR l0), (1, vI l1), (2, vI l2)] []) {l0 l1 l2 : Int} {M : Mem} (F : Fx E p s m args meth c cX4_settlingPlace 3 yX4_settlingPlace.cls (some FieldType.int) yX4_settlingPlace.name) (h : bX4_settlingPlace_23 k23 l0 l1 l2 M = some q) : G E p l e (rmOf 102 0 0) s m args below meth c 3 (QZ E below args s (rmOf 102 0 0) (some (vI q.1)) q.2) 0 0 M 23 [(0, vR l0), (1, vI l1), (2, vI l2)] [] := by
  unfold bX4_settlingPlace_23 at h
  refine r_iload_n (j := 2) F rfl rfl dX4_settlingPlace_23 ?_
  refine r_aload_n (j := 0) F rfl rfl dX4_settlingPlace_24 ?_
  replace h := bind_so h
  obtain ⟨a25, h25, h⟩ := h
  refine r_getT (t := 2) rfl clok_4 F (by decide) h25 tw_366 dX4_settlingPlace_25 ?_
  replace h := bind_so h
  obtain ⟨a28, h28, h⟩ := h
  refine r_getT (t := 2) rfl clok_6 F (by decide) h28 tw_209 dX4_settlingPlace_28 ?_
  replace h := bind_so h
  obtain ⟨a31, h31, h⟩ := h
  refine r_getT (t := 0) rfl clok_3 F (by decide) h31 tw_184 dX4_settlingPlace_31 ?_
  refine r_icmp_ge (tgt := 63) F (by decide) dX4_settlingPlace_34 (fun hc => ?_) (fun hc => ?_)
  · replace h := ite_p h hc
    refine r_iload_n (j := 1) F rfl rfl dX4_settlingPlace_63 ?_
    obtain rfl := Option.some.inj h
    exact r_iret F dX4_settlingPlace_64
  · replace h := ite_n h hc
    refine r_iload_n (j := 1) F rfl rfl dX4_settlingPlace_37 ?_
    refine r_iconst F rfl dX4_settlingPlace_38 ?_
    refine r_icmp_eq (tgt := 55) F (by decide) dX4_settlingPlace_39 (fun hc => ?_) (fun hc => ?_)
    · replace h := ite_p h hc
      refine r_sub [0, 2] (ls' := [(0, vR l0), (2, vI l2)]) rfl ?_
      exact tX4_settlingPlace_55 (fun h => hk23 h) F h
    · replace h := ite_n h hc
      refine r_aload_n (j := 0) F rfl rfl dX4_settlingPlace_42 ?_
      refine r_iload_n (j := 2) F rfl rfl dX4_settlingPlace_43 ?_
      replace h := bind_so h
      obtain ⟨_, g44, h⟩ := h
      replace h := bind_so h
      obtain ⟨q44, h44, h⟩ := h
      refine r_callV (as := [vI l2]) (rv := (some (vI q44.1))) (kc := 0) (nc := 0) (tX4_greaterAt h44) clok_4 F (gK_so g44) tw_1206 tw_1207 tw_1208 tw_1209 tw_113 ⟨by decide, by decide, show (parseMethodDescriptor yX4_greaterAt.desc).map (fun d => d.parameters.length) = some 1 by decide +kernel⟩ ⟨by decide, by decide⟩ (Nat.le_of_ble_eq_true rfl) dX4_settlingPlace_44 ?_
      refine r_aload_n (j := 0) F rfl rfl dX4_settlingPlace_47 ?_
      refine r_iload_n (j := 1) F rfl rfl dX4_settlingPlace_48 ?_
      replace h := bind_so h
      obtain ⟨_, g49, h⟩ := h
      replace h := bind_so h
      obtain ⟨q49, h49, h⟩ := h
      refine r_callV (as := [vI l1]) (rv := (some (vI q49.1))) (kc := 0) (nc := 0) (tX4_greaterAt h49) clok_4 F (gK_so g49) tw_1206 tw_1207 tw_1208 tw_1209 tw_113 ⟨by decide, by decide, show (parseMethodDescriptor yX4_greaterAt.desc).map (fun d => d.parameters.length) = some 1 by decide +kernel⟩ ⟨by decide, by decide⟩ (Nat.le_of_ble_eq_true rfl) dX4_settlingPlace_49 ?_
      refine r_icmp_ge (tgt := 57) F (by decide) dX4_settlingPlace_52 (fun hc => ?_) (fun hc => ?_)
      · replace h := ite_p h hc
        refine r_sub [0, 1, 2] (ls' := [(0, vR l0), (1, vI l1), (2, vI l2)]) rfl ?_
        exact tX4_settlingPlace_57 (fun h => hk23 h) F h
      · replace h := ite_n h hc
        refine r_sub [0, 2] (ls' := [(0, vR l0), (2, vI l2)]) rfl ?_
        exact tX4_settlingPlace_55 (fun h => hk23 h) F h
theorem tX4_settlingPlace_23 {E : En} {p : Program} {l : Launch} {e : Env} {s : State} {m : MethodId} {args : Array Value} {below : List Frame} {meth : Method} {c : Code} {q : Int × Mem} (F : Fx E p s m args meth c cX4_settlingPlace 3 yX4_settlingPlace.cls (some FieldType.int) yX4_settlingPlace.name) : ∀ {fu : Nat} {l0 l1 l2 : Int} {M : Mem}, mX4_settlingPlace_23 fu l0 l1 l2 M = some q → G E p l e (rmOf 102 0 0) s m args below meth c 3 (QZ E below args s (rmOf 102 0 0) (some (vI q.1)) q.2) 0 0 M 23 [(0, vR l0), (1, vI l1), (2, vI l2)] [] := by
  intro fu
  induction fu with
  | zero => intro l0 l1 l2 M h; exact nomatch (show (none : Option (Int × Mem)) = some q from h)
  | succ fu ih => intro l0 l1 l2 M h; exact tbX4_settlingPlace_23  (fun h => ih h) F h
theorem tX4_settlingPlace {l0 : Int} {M : Mem} {q : Int × Mem} (h : mX4_settlingPlace l0 M = some q) : Ct 102 0 0 yX4_settlingPlace cX4_settlingPlace 3 (some FieldType.int) [vR l0] M (some (vI q.1)) q.2 := by
  unfold mX4_settlingPlace at h
  refine Ct.of (by decide) (Nat.le_of_ble_eq_true rfl) ?_
  intro E p l e s m args below meth c F
  refine r_sub [0] (ls' := [(0, vR l0)]) rfl ?_
  refine r_aload_n (j := 0) F rfl rfl dX4_settlingPlace_0 ?_
  replace h := bind_so h
  obtain ⟨_, g1, h⟩ := h
  replace h := bind_so h
  obtain ⟨q1, h1, h⟩ := h
  refine r_callV (as := []) (rv := (some (vI q1.1))) (kc := 0) (nc := 0) (tX4_lookUp h1) clok_4 F (gK_so g1) tw_965 tw_967 tw_40 tw_968 tw_113 ⟨by decide, by decide, show (parseMethodDescriptor yX4_lookUp.desc).map (fun d => d.parameters.length) = some 0 by decide +kernel⟩ ⟨by decide, by decide⟩ (Nat.le_of_ble_eq_true rfl) dX4_settlingPlace_1 ?_
  refine r_if_eq (tgt := 17) F (by decide) dX4_settlingPlace_4 (fun hc => ?_) (fun hc => ?_)
  · replace h := ite_p h hc
    refine r_iconst F rfl dX4_settlingPlace_17 ?_
    obtain rfl := Option.some.inj h
    exact r_iret F dX4_settlingPlace_18
  · replace h := ite_n h hc
    refine r_aload_n (j := 0) F rfl rfl dX4_settlingPlace_7 ?_
    replace h := bind_so h
    obtain ⟨a8, h8, h⟩ := h
    refine r_getT (t := 2) rfl clok_4 F (by decide) h8 tw_374 dX4_settlingPlace_8 ?_
    replace h := bind_so h
    obtain ⟨_, g11, h⟩ := h
    replace h := bind_so h
    obtain ⟨q11, h11, h⟩ := h
    refine r_callV (as := []) (rv := (some (vI q11.1))) (kc := 0) (nc := 0) (tX7_isNothing h11) clok_7 F (gK_so g11) tw_1135 tw_1136 tw_1137 tw_1138 tw_118 ⟨by decide, by decide, show (parseMethodDescriptor yX7_isNothing.desc).map (fun d => d.parameters.length) = some 0 by decide +kernel⟩ ⟨by decide, by decide⟩ (Nat.le_of_ble_eq_true rfl) dX4_settlingPlace_11 ?_
    refine r_if_eq (tgt := 19) F (by decide) dX4_settlingPlace_14 (fun hc => ?_) (fun hc => ?_)
    · replace h := ite_p h hc
      refine r_iconst F rfl dX4_settlingPlace_19 ?_
      refine r_istore_n (ls' := [(1, vI (-1)), (0, vR l0)]) F rfl (by decide) rfl dX4_settlingPlace_20 ?_
      refine r_iconst F rfl dX4_settlingPlace_21 ?_
      refine r_istore_n (ls' := [(2, vI 0), (1, vI (-1)), (0, vR l0)]) F rfl (by decide) rfl dX4_settlingPlace_22 ?_
      refine r_sub [2, 1, 0] (ls' := [(0, vR l0), (1, vI (-1)), (2, vI 0)]) rfl ?_
      exact tX4_settlingPlace_23 F h
    · replace h := ite_n h hc
      refine r_iconst F rfl dX4_settlingPlace_17 ?_
      obtain rfl := Option.some.inj h
      exact r_iret F dX4_settlingPlace_18
theorem tX4_nearestWorld_64 {E : En} {p : Program} {l : Launch} {e : Env} {s : State} {m : MethodId} {args : Array Value} {below : List Frame} {meth : Method} {c : Code} {q : Int × Mem} {k16 : Int → Int → Int → Int → Mem → Option (Int × Mem)} (hk16 : ∀ {l0 l1 l2 l3 : Int} {M : Mem}, k16 l0 l1 l2 l3 M = some q → G E p l e (rmOf 102 0 0) s m args below meth c 5 (QZ E below args s (rmOf 102 0 0) (some (vI q.1)) q.2) 0 0 M 16 [(0, vR l0), (1, vI l1), (2, vI l2), (3, vI l3)] []) {l0 l1 l2 l3 : Int} {M : Mem} (F : Fx E p s m args meth c cX4_nearestWorld 5 yX4_nearestWorld.cls (some FieldType.int) yX4_nearestWorld.name) (h : mX4_nearestWorld_64 k16 l0 l1 l2 l3 M = some q) : G E p l e (rmOf 102 0 0) s m args below meth c 5 (QZ E below args s (rmOf 102 0 0) (some (vI q.1)) q.2) 0 0 M 64 [(0, vR l0), (1, vI l1), (2, vI l2), (3, vI l3)] [] := by
  unfold mX4_nearestWorld_64 at h
  refine r_iinc (j := 3) (ls' := [(3, vI (wI (l3 + 1))), (0, vR l0), (1, vI l1), (2, vI l2)]) F rfl (by decide) rfl dX4_nearestWorld_64 ?_
  refine r_goto (tgt := 16) F (by decide) dX4_nearestWorld_67 ?_
  refine r_sub [1, 2, 3, 0] (ls' := [(0, vR l0), (1, vI l1), (2, vI l2), (3, vI (wI (l3 + 1)))]) rfl ?_
  exact hk16 h
theorem tbX4_nearestWorld_16 {E : En} {p : Program} {l : Launch} {e : Env} {s : State} {m : MethodId} {args : Array Value} {below : List Frame} {meth : Method} {c : Code} {q : Int × Mem} {k16 : Int → Int → Int → Int → Mem → Option (Int × Mem)} (hk16 : ∀ {l0 l1 l2 l3 : Int} {M : Mem}, k16 l0 l1 l2 l3 M = some q → G E p l e (rmOf 102 0 0) s m args below meth c 5 (QZ E below args s (rmOf 102 0 0) (some (vI q.1)) q.2) 0 0 M 16 [(0, vR l0), (1, vI l1), (2, vI l2), (3, vI l3)] []) {l0 l1 l2 l3 : Int} {M : Mem} (F : Fx E p s m args meth c cX4_nearestWorld 5 yX4_nearestWorld.cls (some FieldType.int) yX4_nearestWorld.name) (h : bX4_nearestWorld_16 k16 l0 l1 l2 l3 M = some q) : G E p l e (rmOf 102 0 0) s m args below meth c 5 (QZ E below args s (rmOf 102 0 0) (some (vI q.1)) q.2) 0 0 M 16 [(0, vR l0), (1, vI l1), (2, vI l2), (3, vI l3)] [] := by
  unfold bX4_nearestWorld_16 at h
  refine r_iload_n (j := 3) F rfl rfl dX4_nearestWorld_16 ?_
  refine r_aload_n (j := 0) F rfl rfl dX4_nearestWorld_17 ?_
  replace h := bind_so h
  obtain ⟨a18, h18, h⟩ := h
  refine r_getT (t := 2) rfl clok_4 F (by decide) h18 tw_374 dX4_nearestWorld_18 ?_
  replace h := bind_so h
  obtain ⟨_, g21, h⟩ := h
  replace h := bind_so h
  obtain ⟨q21, h21, h⟩ := h
  refine r_callV (as := []) (rv := (some (vI q21.1))) (kc := 0) (nc := 0) (tX7_most h21) clok_7 F (gK_so g21) tw_1235 tw_1062 tw_1063 tw_1064 tw_118 ⟨by decide, by decide, show (parseMethodDescriptor yX7_most.desc).map (fun d => d.parameters.length) = some 0 by decide +kernel⟩ ⟨by decide, by decide⟩ (Nat.le_of_ble_eq_true rfl) dX4_nearestWorld_21 ?_
  refine r_icmp_ge (tgt := 70) F (by decide) dX4_nearestWorld_24 (fun hc => ?_) (fun hc => ?_)
  · replace h := ite_p h hc
    refine r_iload_n (j := 1) F rfl rfl dX4_nearestWorld_70 ?_
    obtain rfl := Option.some.inj h
    exact r_iret F dX4_nearestWorld_71
  · replace h := ite_n h hc
    refine r_aload_n (j := 0) F rfl rfl dX4_nearestWorld_27 ?_
    replace h := bind_so h
    obtain ⟨a28, h28, h⟩ := h
    refine r_getT (t := 2) rfl clok_4 F (by decide) h28 tw_366 dX4_nearestWorld_28 ?_
    replace h := bind_so h
    obtain ⟨a31, h31, h⟩ := h
    refine r_getT (t := 1) rfl clok_6 F (by decide) h31 tw_212 dX4_nearestWorld_31 ?_
    refine r_iload_n (j := 3) F rfl rfl dX4_nearestWorld_34 ?_
    refine r_i2l F dX4_nearestWorld_35 ?_
    refine r_lxor F dX4_nearestWorld_36 ?_
    replace h := bind_so h
    obtain ⟨q37, h37, h⟩ := h
    refine r_callS (as := [vL (lxor a31 (i2l l3))]) (rv := (some (vI q37.1))) (kc := 0) (nc := 0) (tJ13_bitCount_95d88 h37) F tw_1236 tw_1035 tw_1036 tw_129 ⟨by decide, by decide, show (parseMethodDescriptor yJ13_bitCount_95d88.desc).map (fun d => d.parameters.length) = some 1 by decide +kernel⟩ ⟨by decide, by decide⟩ (Nat.le_of_ble_eq_true rfl) dX4_nearestWorld_37 ?_
    refine r_istore (ls' := [(4, vI q37.1), (0, vR l0), (1, vI l1), (2, vI l2), (3, vI l3)]) F (by decide) rfl dX4_nearestWorld_40 ?_
    refine r_iload (j := 0) F rfl dX4_nearestWorld_42 ?_
    refine r_iload_n (j := 3) F rfl rfl dX4_nearestWorld_44 ?_
    refine r_icmp_ge (tgt := 64) F (by decide) dX4_nearestWorld_45 (fun hc => ?_) (fun hc => ?_)
    · replace h := ite_p h hc
      refine r_sub [1, 2, 3, 4] (ls' := [(0, vR l0), (1, vI l1), (2, vI l2), (3, vI l3)]) rfl ?_
      exact tX4_nearestWorld_64 (fun h => hk16 h) F h
    · replace h := ite_n h hc
      refine r_aload_n (j := 1) F rfl rfl dX4_nearestWorld_48 ?_
      replace h := bind_so h
      obtain ⟨a49, h49, h⟩ := h
      refine r_getT (t := 2) rfl clok_4 F (by decide) h49 tw_374 dX4_nearestWorld_49 ?_
      refine r_iload_n (j := 4) F rfl rfl dX4_nearestWorld_52 ?_
      replace h := bind_so h
      obtain ⟨_, g53, h⟩ := h
      replace h := bind_so h
      obtain ⟨q53, h53, h⟩ := h
      refine r_callV (as := [vI l3]) (rv := (some (vI q53.1))) (kc := 0) (nc := 0) (tX7_has h53) clok_7 F (gK_so g53) tw_1237 tw_1066 tw_1067 tw_1068 tw_118 ⟨by decide, by decide, show (parseMethodDescriptor yX7_has.desc).map (fun d => d.parameters.length) = some 1 by decide +kernel⟩ ⟨by decide, by decide⟩ (Nat.le_of_ble_eq_true rfl) dX4_nearestWorld_53 ?_
      refine r_if_eq (tgt := 64) F (by decide) dX4_nearestWorld_56 (fun hc => ?_) (fun hc => ?_)
      · replace h := ite_p h hc
        refine r_sub [1, 2, 3, 4] (ls' := [(0, vR l0), (1, vI l1), (2, vI l2), (3, vI l3)]) rfl ?_
        exact tX4_nearestWorld_64 (fun h => hk16 h) F h
      · replace h := ite_n h hc
        refine r_iload_n (j := 4) F rfl rfl dX4_nearestWorld_59 ?_
        refine r_istore_n (ls' := [(1, vI l3), (4, vI q37.1), (0, vR l0), (2, vI l2), (3, vI l3)]) F rfl (by decide) rfl dX4_nearestWorld_60 ?_
        refine r_iload (j := 1) F rfl dX4_nearestWorld_61 ?_
        refine r_istore_n (ls' := [(2, vI q37.1), (1, vI l3), (4, vI q37.1), (0, vR l0), (3, vI l3)]) F rfl (by decide) rfl dX4_nearestWorld_63 ?_
        refine r_sub [3, 1, 0, 4] (ls' := [(0, vR l0), (1, vI l3), (2, vI q37.1), (3, vI l3)]) rfl ?_
        exact tX4_nearestWorld_64 (fun h => hk16 h) F h
theorem tX4_nearestWorld_16 {E : En} {p : Program} {l : Launch} {e : Env} {s : State} {m : MethodId} {args : Array Value} {below : List Frame} {meth : Method} {c : Code} {q : Int × Mem} (F : Fx E p s m args meth c cX4_nearestWorld 5 yX4_nearestWorld.cls (some FieldType.int) yX4_nearestWorld.name) : ∀ {fu : Nat} {l0 l1 l2 l3 : Int} {M : Mem}, mX4_nearestWorld_16 fu l0 l1 l2 l3 M = some q → G E p l e (rmOf 102 0 0) s m args below meth c 5 (QZ E below args s (rmOf 102 0 0) (some (vI q.1)) q.2) 0 0 M 16 [(0, vR l0), (1, vI l1), (2, vI l2), (3, vI l3)] [] := by
  intro fu
  induction fu with
  | zero => intro l0 l1 l2 l3 M h; exact nomatch (show (none : Option (Int × Mem)) = some q from h)
  | succ fu ih => intro l0 l1 l2 l3 M h; exact tbX4_nearestWorld_16  (fun h => ih h) F h
theorem tX4_nearestWorld {l0 : Int} {M : Mem} {q : Int × Mem} (h : mX4_nearestWorld l0 M = some q) : Ct 102 0 0 yX4_nearestWorld cX4_nearestWorld 5 (some FieldType.int) [vR l0] M (some (vI q.1)) q.2 := by
  unfold mX4_nearestWorld at h
  refine Ct.of (by decide) (Nat.le_of_ble_eq_true rfl) ?_
  intro E p l e s m args below meth c F
  refine r_sub [0] (ls' := [(0, vR l0)]) rfl ?_
  refine r_aload_n (j := 0) F rfl rfl dX4_nearestWorld_0 ?_
  replace h := bind_so h
  obtain ⟨_, g1, h⟩ := h
  replace h := bind_so h
  obtain ⟨q1, h1, h⟩ := h
  refine r_callV (as := []) (rv := (some (vI q1.1))) (kc := 0) (nc := 0) (tX4_lookUp h1) clok_4 F (gK_so g1) tw_965 tw_967 tw_40 tw_968 tw_113 ⟨by decide, by decide, show (parseMethodDescriptor yX4_lookUp.desc).map (fun d => d.parameters.length) = some 0 by decide +kernel⟩ ⟨by decide, by decide⟩ (Nat.le_of_ble_eq_true rfl) dX4_nearestWorld_1 ?_
  refine r_if_ne (tgt := 9) F (by decide) dX4_nearestWorld_4 (fun hc => ?_) (fun hc => ?_)
  · replace h := ite_n h hc
    refine r_iconst F rfl dX4_nearestWorld_9 ?_
    refine r_istore_n (ls' := [(1, vI (-1)), (0, vR l0)]) F rfl (by decide) rfl dX4_nearestWorld_10 ?_
    refine r_bipush F rfl (by decide) dX4_nearestWorld_11 ?_
    refine r_istore_n (ls' := [(2, vI 13), (1, vI (-1)), (0, vR l0)]) F rfl (by decide) rfl dX4_nearestWorld_13 ?_
    refine r_iconst F rfl dX4_nearestWorld_14 ?_
    refine r_istore_n (ls' := [(3, vI 0), (2, vI 13), (1, vI (-1)), (0, vR l0)]) F rfl (by decide) rfl dX4_nearestWorld_15 ?_
    refine r_sub [3, 2, 1, 0] (ls' := [(0, vR l0), (1, vI (-1)), (2, vI 13), (3, vI 0)]) rfl ?_
    exact tX4_nearestWorld_16 F h
  · replace h := ite_p h hc
    refine r_iconst F rfl dX4_nearestWorld_7 ?_
    obtain rfl := Option.some.inj h
    exact r_iret F dX4_nearestWorld_8
theorem tX4_countGuessWorlds {l0 : Int} {M : Mem} {q : Int × Mem} (h : mX4_countGuessWorlds l0 M = some q) : Ct 102 0 0 yX4_countGuessWorlds cX4_countGuessWorlds 1 (some FieldType.int) [vR l0] M (some (vI q.1)) q.2 := by
  unfold mX4_countGuessWorlds at h
  refine Ct.of (by decide) (Nat.le_of_ble_eq_true rfl) ?_
  intro E p l e s m args below meth c F
  refine r_sub [0] (ls' := [(0, vR l0)]) rfl ?_
  refine r_aload_n (j := 0) F rfl rfl dX4_countGuessWorlds_0 ?_
  replace h := bind_so h
  obtain ⟨a1, h1, h⟩ := h
  refine r_getT (t := 2) rfl clok_4 F (by decide) h1 tw_366 dX4_countGuessWorlds_1 ?_
  replace h := bind_so h
  obtain ⟨a4, h4, h⟩ := h
  refine r_getT (t := 2) rfl clok_6 F (by decide) h4 tw_237 dX4_countGuessWorlds_4 ?_
  refine r_ifnull (tgt := 17) F (by decide) dX4_countGuessWorlds_7 (fun hc => ?_) (fun hc => ?_)
  · replace h := ite_p h hc
    refine r_iconst F rfl dX4_countGuessWorlds_17 ?_
    obtain rfl := Option.some.inj h
    exact r_iret F dX4_countGuessWorlds_18
  · replace h := ite_n h hc
    refine r_aload_n (j := 0) F rfl rfl dX4_countGuessWorlds_10 ?_
    replace h := bind_so h
    obtain ⟨_, g11, h⟩ := h
    replace h := bind_so h
    obtain ⟨q11, h11, h⟩ := h
    refine r_callV (as := []) (rv := (some (vI q11.1))) (kc := 0) (nc := 0) (tX4_lookUp h11) clok_4 F (gK_so g11) tw_965 tw_967 tw_40 tw_968 tw_113 ⟨by decide, by decide, show (parseMethodDescriptor yX4_lookUp.desc).map (fun d => d.parameters.length) = some 0 by decide +kernel⟩ ⟨by decide, by decide⟩ (Nat.le_of_ble_eq_true rfl) dX4_countGuessWorlds_11 ?_
    refine r_if_ne (tgt := 19) F (by decide) dX4_countGuessWorlds_14 (fun hc => ?_) (fun hc => ?_)
    · replace h := ite_n h hc
      refine r_aload_n (j := 0) F rfl rfl dX4_countGuessWorlds_19 ?_
      replace h := bind_so h
      obtain ⟨a20, h20, h⟩ := h
      refine r_getT (t := 2) rfl clok_4 F (by decide) h20 tw_374 dX4_countGuessWorlds_20 ?_
      refine r_aload_n (j := 0) F rfl rfl dX4_countGuessWorlds_23 ?_
      refine r_bipush F rfl (by decide) dX4_countGuessWorlds_24 ?_
      refine r_aload_n (j := 0) F rfl rfl dX4_countGuessWorlds_26 ?_
      replace h := bind_so h
      obtain ⟨a27, h27, h⟩ := h
      refine r_getT (t := 2) rfl clok_4 F (by decide) h27 tw_366 dX4_countGuessWorlds_27 ?_
      replace h := bind_so h
      obtain ⟨a30, h30, h⟩ := h
      refine r_getT (t := 2) rfl clok_6 F (by decide) h30 tw_237 dX4_countGuessWorlds_30 ?_
      replace h := bind_so h
      obtain ⟨_, g33, h⟩ := h
      replace h := bind_so h
      obtain ⟨q33, h33, h⟩ := h
      refine r_callV (as := [vI 8, vR a30]) (rv := (some (vR q33.1))) (kc := 0) (nc := 0) (tX4_truth h33) clok_4 F (gK_so g33) tw_1012 tw_1014 tw_43 tw_1015 tw_113 ⟨by decide, by decide, show (parseMethodDescriptor yX4_truth.desc).map (fun d => d.parameters.length) = some 2 by decide +kernel⟩ ⟨by decide, by decide⟩ (Nat.le_of_ble_eq_true rfl) dX4_countGuessWorlds_33 ?_
      replace h := bind_so h
      obtain ⟨_, g36, h⟩ := h
      replace h := bind_so h
      obtain ⟨q36, h36, h⟩ := h
      refine r_callV (as := [vR q33.1]) (rv := none) (kc := 0) (nc := 0) (tX7_keepOnly h36) clok_7 F (gK_so g36) tw_1026 tw_1027 tw_1028 tw_1029 tw_118 ⟨by decide, by decide, show (parseMethodDescriptor yX7_keepOnly.desc).map (fun d => d.parameters.length) = some 1 by decide +kernel⟩ ⟨by decide, by decide⟩ (Nat.le_of_ble_eq_true rfl) dX4_countGuessWorlds_36 ?_
      refine r_aload_n (j := 0) F rfl rfl dX4_countGuessWorlds_39 ?_
      replace h := bind_so h
      obtain ⟨a40, h40, h⟩ := h
      refine r_getT (t := 2) rfl clok_4 F (by decide) h40 tw_374 dX4_countGuessWorlds_40 ?_
      replace h := bind_so h
      obtain ⟨_, g43, h⟩ := h
      replace h := bind_so h
      obtain ⟨q43, h43, h⟩ := h
      refine r_callV (as := []) (rv := (some (vI q43.1))) (kc := 0) (nc := 0) (tX7_count h43) clok_7 F (gK_so g43) tw_1030 tw_1031 tw_1032 tw_1033 tw_118 ⟨by decide, by decide, show (parseMethodDescriptor yX7_count.desc).map (fun d => d.parameters.length) = some 0 by decide +kernel⟩ ⟨by decide, by decide⟩ (Nat.le_of_ble_eq_true rfl) dX4_countGuessWorlds_43 ?_
      obtain rfl := Option.some.inj h
      exact r_iret F dX4_countGuessWorlds_46
    · replace h := ite_p h hc
      refine r_iconst F rfl dX4_countGuessWorlds_17 ?_
      obtain rfl := Option.some.inj h
      exact r_iret F dX4_countGuessWorlds_18
theorem tX4_countGuessForms {l0 : Int} {M : Mem} {q : Int × Mem} (h : mX4_countGuessForms l0 M = some q) : Ct 102 0 0 yX4_countGuessForms cX4_countGuessForms 1 (some FieldType.int) [vR l0] M (some (vI q.1)) q.2 := by
  unfold mX4_countGuessForms at h
  refine Ct.of (by decide) (Nat.le_of_ble_eq_true rfl) ?_
  intro E p l e s m args below meth c F
  refine r_sub [0] (ls' := [(0, vR l0)]) rfl ?_
  refine r_aload_n (j := 0) F rfl rfl dX4_countGuessForms_0 ?_
  replace h := bind_so h
  obtain ⟨a1, h1, h⟩ := h
  refine r_getT (t := 2) rfl clok_4 F (by decide) h1 tw_366 dX4_countGuessForms_1 ?_
  replace h := bind_so h
  obtain ⟨a4, h4, h⟩ := h
  refine r_getT (t := 2) rfl clok_6 F (by decide) h4 tw_237 dX4_countGuessForms_4 ?_
  refine r_ifnull (tgt := 17) F (by decide) dX4_countGuessForms_7 (fun hc => ?_) (fun hc => ?_)
  · replace h := ite_p h hc
    refine r_iconst F rfl dX4_countGuessForms_17 ?_
    obtain rfl := Option.some.inj h
    exact r_iret F dX4_countGuessForms_18
  · replace h := ite_n h hc
    refine r_aload_n (j := 0) F rfl rfl dX4_countGuessForms_10 ?_
    replace h := bind_so h
    obtain ⟨_, g11, h⟩ := h
    replace h := bind_so h
    obtain ⟨q11, h11, h⟩ := h
    refine r_callV (as := []) (rv := (some (vI q11.1))) (kc := 0) (nc := 0) (tX4_lookUp h11) clok_4 F (gK_so g11) tw_965 tw_967 tw_40 tw_968 tw_113 ⟨by decide, by decide, show (parseMethodDescriptor yX4_lookUp.desc).map (fun d => d.parameters.length) = some 0 by decide +kernel⟩ ⟨by decide, by decide⟩ (Nat.le_of_ble_eq_true rfl) dX4_countGuessForms_11 ?_
    refine r_if_ne (tgt := 19) F (by decide) dX4_countGuessForms_14 (fun hc => ?_) (fun hc => ?_)
    · replace h := ite_n h hc
      refine r_aload_n (j := 0) F rfl rfl dX4_countGuessForms_19 ?_
      replace h := bind_so h
      obtain ⟨_, g20, h⟩ := h
      replace h := bind_so h
      obtain ⟨q20, h20, h⟩ := h
      refine r_callV (as := []) (rv := none) (kc := 0) (nc := 0) (tX4_pickForms h20) clok_4 F (gK_so g20) tw_1048 tw_1050 tw_44 tw_1051 tw_113 ⟨by decide, by decide, show (parseMethodDescriptor yX4_pickForms.desc).map (fun d => d.parameters.length) = some 0 by decide +kernel⟩ ⟨by decide, by decide⟩ (Nat.le_of_ble_eq_true rfl) dX4_countGuessForms_20 ?_
      refine r_aload_n (j := 0) F rfl rfl dX4_countGuessForms_23 ?_
      replace h := bind_so h
      obtain ⟨a24, h24, h⟩ := h
      refine r_getT (t := 2) rfl clok_4 F (by decide) h24 tw_375 dX4_countGuessForms_24 ?_
      refine r_aload_n (j := 0) F rfl rfl dX4_countGuessForms_27 ?_
      refine r_bipush F rfl (by decide) dX4_countGuessForms_28 ?_
      refine r_aload_n (j := 0) F rfl rfl dX4_countGuessForms_30 ?_
      replace h := bind_so h
      obtain ⟨a31, h31, h⟩ := h
      refine r_getT (t := 2) rfl clok_4 F (by decide) h31 tw_366 dX4_countGuessForms_31 ?_
      replace h := bind_so h
      obtain ⟨a34, h34, h⟩ := h
      refine r_getT (t := 2) rfl clok_6 F (by decide) h34 tw_237 dX4_countGuessForms_34 ?_
      replace h := bind_so h
      obtain ⟨_, g37, h⟩ := h
      replace h := bind_so h
      obtain ⟨q37, h37, h⟩ := h
      refine r_callV (as := [vI 8, vR a34]) (rv := (some (vR q37.1))) (kc := 0) (nc := 0) (tX4_truth h37) clok_4 F (gK_so g37) tw_1012 tw_1014 tw_43 tw_1015 tw_113 ⟨by decide, by decide, show (parseMethodDescriptor yX4_truth.desc).map (fun d => d.parameters.length) = some 2 by decide +kernel⟩ ⟨by decide, by decide⟩ (Nat.le_of_ble_eq_true rfl) dX4_countGuessForms_37 ?_
      replace h := bind_so h
      obtain ⟨_, g40, h⟩ := h
      replace h := bind_so h
      obtain ⟨q40, h40, h⟩ := h
      refine r_callV (as := [vR q37.1]) (rv := none) (kc := 0) (nc := 0) (tX7_keepOnly h40) clok_7 F (gK_so g40) tw_1026 tw_1027 tw_1028 tw_1029 tw_118 ⟨by decide, by decide, show (parseMethodDescriptor yX7_keepOnly.desc).map (fun d => d.parameters.length) = some 1 by decide +kernel⟩ ⟨by decide, by decide⟩ (Nat.le_of_ble_eq_true rfl) dX4_countGuessForms_40 ?_
      refine r_aload_n (j := 0) F rfl rfl dX4_countGuessForms_43 ?_
      replace h := bind_so h
      obtain ⟨a44, h44, h⟩ := h
      refine r_getT (t := 2) rfl clok_4 F (by decide) h44 tw_375 dX4_countGuessForms_44 ?_
      replace h := bind_so h
      obtain ⟨_, g47, h⟩ := h
      replace h := bind_so h
      obtain ⟨q47, h47, h⟩ := h
      refine r_callV (as := []) (rv := (some (vI q47.1))) (kc := 0) (nc := 0) (tX7_count h47) clok_7 F (gK_so g47) tw_1030 tw_1031 tw_1032 tw_1033 tw_118 ⟨by decide, by decide, show (parseMethodDescriptor yX7_count.desc).map (fun d => d.parameters.length) = some 0 by decide +kernel⟩ ⟨by decide, by decide⟩ (Nat.le_of_ble_eq_true rfl) dX4_countGuessForms_47 ?_
      obtain rfl := Option.some.inj h
      exact r_iret F dX4_countGuessForms_50
    · replace h := ite_p h hc
      refine r_iconst F rfl dX4_countGuessForms_17 ?_
      obtain rfl := Option.some.inj h
      exact r_iret F dX4_countGuessForms_18
theorem tbX7_drop_2 {E : En} {p : Program} {l : Launch} {e : Env} {s : State} {m : MethodId} {args : Array Value} {below : List Frame} {meth : Method} {c : Code} {q : Int × Mem} {k2 : Int → Int → Int → Mem → Option (Int × Mem)} (hk2 : ∀ {l0 l1 l2 : Int} {M : Mem}, k2 l0 l1 l2 M = some q → G E p l e (rmOf 0 0 0) s m args below meth c 3 (QZ E below args s (rmOf 0 0 0) none q.2) 0 0 M 2 [(0, vR l0), (1, vR l1), (2, vI l2)] []) {l0 l1 l2 : Int} {M : Mem} (F : Fx E p s m args meth c cX7_drop 3 yX7_drop.cls none yX7_drop.name) (h : bX7_drop_2 k2 l0 l1 l2 M = some q) : G E p l e (rmOf 0 0 0) s m args below meth c 3 (QZ E below args s (rmOf 0 0 0) none q.2) 0 0 M 2 [(0, vR l0), (1, vR l1), (2, vI l2)] [] := by
  unfold bX7_drop_2 at h
  refine r_iload_n (j := 2) F rfl rfl dX7_drop_2 ?_
  refine r_aload_n (j := 0) F rfl rfl dX7_drop_3 ?_
  replace h := bind_so h
  obtain ⟨a4, h4, h⟩ := h
  refine r_getT (t := 0) rfl clok_7 F (by decide) h4 tw_327 dX7_drop_4 ?_
  refine r_icmp_ge (tgt := 35) F (by decide) dX7_drop_7 (fun hc => ?_) (fun hc => ?_)
  · replace h := ite_p h hc
    obtain rfl := Option.some.inj h
    exact r_vret F dX7_drop_35
  · replace h := ite_n h hc
    refine r_aload_n (j := 0) F rfl rfl dX7_drop_10 ?_
    replace h := bind_so h
    obtain ⟨a11, h11, h⟩ := h
    refine r_getT (t := 2) rfl clok_7 F (by decide) h11 tw_325 dX7_drop_11 ?_
    refine r_iload_n (j := 2) F rfl rfl dX7_drop_14 ?_
    refine r_dup2 F rfl rfl dX7_drop_15 ?_
    replace h := bind_so h
    obtain ⟨a16, h16, h⟩ := h
    refine r_lald F h16 dX7_drop_16 ?_
    refine r_aload_n (j := 1) F rfl rfl dX7_drop_17 ?_
    replace h := bind_so h
    obtain ⟨a18, h18, h⟩ := h
    refine r_getT (t := 2) rfl clok_7 F (by decide) h18 tw_325 dX7_drop_18 ?_
    refine r_iload_n (j := 2) F rfl rfl dX7_drop_21 ?_
    replace h := bind_so h
    obtain ⟨a22, h22, h⟩ := h
    refine r_lald F h22 dX7_drop_22 ?_
    refine r_ldc2v (x := (-1)) F (by unfold InL; omega) (by decide) tw_983 dX7_drop_23 ?_
    refine r_lxor F dX7_drop_26 ?_
    refine r_land F dX7_drop_27 ?_
    replace h := bind_so h
    obtain ⟨M28, h28, h⟩ := h
    refine r_last F h28 dX7_drop_28 ?_
    refine r_iinc (j := 2) (ls' := [(2, vI (wI (l2 + 1))), (0, vR l0), (1, vR l1)]) F rfl (by decide) rfl dX7_drop_29 ?_
    refine r_goto (tgt := 2) F (by decide) dX7_drop_32 ?_
    refine r_sub [1, 2, 0] (ls' := [(0, vR l0), (1, vR l1), (2, vI (wI (l2 + 1)))]) rfl ?_
    exact hk2 h
theorem tX7_drop_2 {E : En} {p : Program} {l : Launch} {e : Env} {s : State} {m : MethodId} {args : Array Value} {below : List Frame} {meth : Method} {c : Code} {q : Int × Mem} (F : Fx E p s m args meth c cX7_drop 3 yX7_drop.cls none yX7_drop.name) : ∀ {fu : Nat} {l0 l1 l2 : Int} {M : Mem}, mX7_drop_2 fu l0 l1 l2 M = some q → G E p l e (rmOf 0 0 0) s m args below meth c 3 (QZ E below args s (rmOf 0 0 0) none q.2) 0 0 M 2 [(0, vR l0), (1, vR l1), (2, vI l2)] [] := by
  intro fu
  induction fu with
  | zero => intro l0 l1 l2 M h; exact nomatch (show (none : Option (Int × Mem)) = some q from h)
  | succ fu ih => intro l0 l1 l2 M h; exact tbX7_drop_2  (fun h => ih h) F h
theorem tX7_drop {l0 l1 : Int} {M : Mem} {q : Int × Mem} (h : mX7_drop l0 l1 M = some q) : Ct 0 0 0 yX7_drop cX7_drop 3 none [vR l0, vR l1] M none q.2 := by
  unfold mX7_drop at h
  refine Ct.of (by decide) (Nat.le_of_ble_eq_true rfl) ?_
  intro E p l e s m args below meth c F
  refine r_sub [0, 1] (ls' := [(0, vR l0), (1, vR l1)]) rfl ?_
  refine r_iconst F rfl dX7_drop_0 ?_
  refine r_istore_n (ls' := [(2, vI 0), (0, vR l0), (1, vR l1)]) F rfl (by decide) rfl dX7_drop_1 ?_
  refine r_sub [1, 2, 0] (ls' := [(0, vR l0), (1, vR l1), (2, vI 0)]) rfl ?_
  exact tX7_drop_2 F h
theorem tX4_formAgainst {l0 : Int} {M : Mem} {q : Int × Mem} (h : mX4_formAgainst l0 M = some q) : Ct 102 0 0 yX4_formAgainst cX4_formAgainst 1 (some FieldType.int) [vR l0] M (some (vI q.1)) q.2 := by
  unfold mX4_formAgainst at h
  refine Ct.of (by decide) (Nat.le_of_ble_eq_true rfl) ?_
  intro E p l e s m args below meth c F
  refine r_sub [0] (ls' := [(0, vR l0)]) rfl ?_
  refine r_aload_n (j := 0) F rfl rfl dX4_formAgainst_0 ?_
  replace h := bind_so h
  obtain ⟨a1, h1, h⟩ := h
  refine r_getT (t := 2) rfl clok_4 F (by decide) h1 tw_366 dX4_formAgainst_1 ?_
  replace h := bind_so h
  obtain ⟨a4, h4, h⟩ := h
  refine r_getT (t := 2) rfl clok_6 F (by decide) h4 tw_237 dX4_formAgainst_4 ?_
  refine r_ifnull (tgt := 17) F (by decide) dX4_formAgainst_7 (fun hc => ?_) (fun hc => ?_)
  · replace h := ite_p h hc
    refine r_iconst F rfl dX4_formAgainst_17 ?_
    obtain rfl := Option.some.inj h
    exact r_iret F dX4_formAgainst_18
  · replace h := ite_n h hc
    refine r_aload_n (j := 0) F rfl rfl dX4_formAgainst_10 ?_
    replace h := bind_so h
    obtain ⟨_, g11, h⟩ := h
    replace h := bind_so h
    obtain ⟨q11, h11, h⟩ := h
    refine r_callV (as := []) (rv := (some (vI q11.1))) (kc := 0) (nc := 0) (tX4_lookUp h11) clok_4 F (gK_so g11) tw_965 tw_967 tw_40 tw_968 tw_113 ⟨by decide, by decide, show (parseMethodDescriptor yX4_lookUp.desc).map (fun d => d.parameters.length) = some 0 by decide +kernel⟩ ⟨by decide, by decide⟩ (Nat.le_of_ble_eq_true rfl) dX4_formAgainst_11 ?_
    refine r_if_ne (tgt := 19) F (by decide) dX4_formAgainst_14 (fun hc => ?_) (fun hc => ?_)
    · replace h := ite_n h hc
      refine r_aload_n (j := 0) F rfl rfl dX4_formAgainst_19 ?_
      replace h := bind_so h
      obtain ⟨_, g20, h⟩ := h
      replace h := bind_so h
      obtain ⟨q20, h20, h⟩ := h
      refine r_callV (as := []) (rv := none) (kc := 0) (nc := 0) (tX4_pickForms h20) clok_4 F (gK_so g20) tw_1048 tw_1050 tw_44 tw_1051 tw_113 ⟨by decide, by decide, show (parseMethodDescriptor yX4_pickForms.desc).map (fun d => d.parameters.length) = some 0 by decide +kernel⟩ ⟨by decide, by decide⟩ (Nat.le_of_ble_eq_true rfl) dX4_formAgainst_20 ?_
      refine r_aload_n (j := 0) F rfl rfl dX4_formAgainst_23 ?_
      replace h := bind_so h
      obtain ⟨a24, h24, h⟩ := h
      refine r_getT (t := 2) rfl clok_4 F (by decide) h24 tw_375 dX4_formAgainst_24 ?_
      refine r_aload_n (j := 0) F rfl rfl dX4_formAgainst_27 ?_
      refine r_bipush F rfl (by decide) dX4_formAgainst_28 ?_
      refine r_aload_n (j := 0) F rfl rfl dX4_formAgainst_30 ?_
      replace h := bind_so h
      obtain ⟨a31, h31, h⟩ := h
      refine r_getT (t := 2) rfl clok_4 F (by decide) h31 tw_366 dX4_formAgainst_31 ?_
      replace h := bind_so h
      obtain ⟨a34, h34, h⟩ := h
      refine r_getT (t := 2) rfl clok_6 F (by decide) h34 tw_237 dX4_formAgainst_34 ?_
      replace h := bind_so h
      obtain ⟨_, g37, h⟩ := h
      replace h := bind_so h
      obtain ⟨q37, h37, h⟩ := h
      refine r_callV (as := [vI 8, vR a34]) (rv := (some (vR q37.1))) (kc := 0) (nc := 0) (tX4_truth h37) clok_4 F (gK_so g37) tw_1012 tw_1014 tw_43 tw_1015 tw_113 ⟨by decide, by decide, show (parseMethodDescriptor yX4_truth.desc).map (fun d => d.parameters.length) = some 2 by decide +kernel⟩ ⟨by decide, by decide⟩ (Nat.le_of_ble_eq_true rfl) dX4_formAgainst_37 ?_
      replace h := bind_so h
      obtain ⟨_, g40, h⟩ := h
      replace h := bind_so h
      obtain ⟨q40, h40, h⟩ := h
      refine r_callV (as := [vR q37.1]) (rv := none) (kc := 0) (nc := 0) (tX7_drop h40) clok_7 F (gK_so g40) tw_1259 tw_1260 tw_1261 tw_1262 tw_118 ⟨by decide, by decide, show (parseMethodDescriptor yX7_drop.desc).map (fun d => d.parameters.length) = some 1 by decide +kernel⟩ ⟨by decide, by decide⟩ (Nat.le_of_ble_eq_true rfl) dX4_formAgainst_40 ?_
      refine r_aload_n (j := 0) F rfl rfl dX4_formAgainst_43 ?_
      replace h := bind_so h
      obtain ⟨a44, h44, h⟩ := h
      refine r_getT (t := 2) rfl clok_4 F (by decide) h44 tw_375 dX4_formAgainst_44 ?_
      refine r_iconst F rfl dX4_formAgainst_47 ?_
      replace h := bind_so h
      obtain ⟨_, g48, h⟩ := h
      replace h := bind_so h
      obtain ⟨q48, h48, h⟩ := h
      refine r_callV (as := [vI 0]) (rv := (some (vI q48.1))) (kc := 0) (nc := 0) (tX7_nth h48) clok_7 F (gK_so g48) tw_1082 tw_1083 tw_1084 tw_1085 tw_118 ⟨by decide, by decide, show (parseMethodDescriptor yX7_nth.desc).map (fun d => d.parameters.length) = some 1 by decide +kernel⟩ ⟨by decide, by decide⟩ (Nat.le_of_ble_eq_true rfl) dX4_formAgainst_48 ?_
      obtain rfl := Option.some.inj h
      exact r_iret F dX4_formAgainst_51
    · replace h := ite_p h hc
      refine r_iconst F rfl dX4_formAgainst_17 ?_
      obtain rfl := Option.some.inj h
      exact r_iret F dX4_formAgainst_18
theorem tX6_copyWorlds {l0 l1 : Int} {M : Mem} {q : Int × Mem} (h : mX6_copyWorlds l0 l1 M = some q) : Ct 1 0 0 yX6_copyWorlds cX6_copyWorlds 2 none [vR l0, vR l1] M none q.2 := by
  unfold mX6_copyWorlds at h
  refine Ct.of (by decide) (Nat.le_of_ble_eq_true rfl) ?_
  intro E p l e s m args below meth c F
  refine r_sub [0, 1] (ls' := [(0, vR l0), (1, vR l1)]) rfl ?_
  refine r_aload_n (j := 0) F rfl rfl dX6_copyWorlds_0 ?_
  refine r_aload_n (j := 1) F rfl rfl dX6_copyWorlds_1 ?_
  replace h := bind_so h
  obtain ⟨a2, h2, h⟩ := h
  refine r_getT (t := 1) rfl clok_6 F (by decide) h2 tw_210 dX6_copyWorlds_2 ?_
  replace h := bind_so h
  obtain ⟨M5, h5, h⟩ := h
  refine r_put clok_6 F (by decide) rfl (by decide) (by decide) h5 tw_210 dX6_copyWorlds_5 ?_
  refine r_aload_n (j := 1) F rfl rfl dX6_copyWorlds_8 ?_
  replace h := bind_so h
  obtain ⟨a9, h9, h⟩ := h
  refine r_getT (t := 2) rfl clok_6 F (by decide) h9 tw_213 dX6_copyWorlds_9 ?_
  refine r_iconst F rfl dX6_copyWorlds_12 ?_
  refine r_aload_n (j := 0) F rfl rfl dX6_copyWorlds_13 ?_
  replace h := bind_so h
  obtain ⟨a14, h14, h⟩ := h
  refine r_getT (t := 2) rfl clok_6 F (by decide) h14 tw_213 dX6_copyWorlds_14 ?_
  refine r_iconst F rfl dX6_copyWorlds_17 ?_
  refine r_iconst F rfl dX6_copyWorlds_18 ?_
  replace h := bind_so h
  obtain ⟨M19, h19, h⟩ := h
  refine r_copyl F h19 tw_1281 tw_931 tw_930 tw_128 ⟨by decide, by decide⟩ (Nat.le_of_ble_eq_true rfl) dX6_copyWorlds_19 ?_
  refine r_aload_n (j := 1) F rfl rfl dX6_copyWorlds_22 ?_
  replace h := bind_so h
  obtain ⟨a23, h23, h⟩ := h
  refine r_getT (t := 2) rfl clok_6 F (by decide) h23 tw_215 dX6_copyWorlds_23 ?_
  refine r_iconst F rfl dX6_copyWorlds_26 ?_
  refine r_aload_n (j := 0) F rfl rfl dX6_copyWorlds_27 ?_
  replace h := bind_so h
  obtain ⟨a28, h28, h⟩ := h
  refine r_getT (t := 2) rfl clok_6 F (by decide) h28 tw_215 dX6_copyWorlds_28 ?_
  refine r_iconst F rfl dX6_copyWorlds_31 ?_
  refine r_iconst F rfl dX6_copyWorlds_32 ?_
  replace h := bind_so h
  obtain ⟨M33, h33, h⟩ := h
  refine r_copyz F h33 tw_1281 tw_931 tw_930 tw_128 ⟨by decide, by decide⟩ (Nat.le_of_ble_eq_true rfl) dX6_copyWorlds_33 ?_
  obtain rfl := Option.some.inj h
  exact r_vret F dX6_copyWorlds_36
theorem tbX6_copyStories_2 {E : En} {p : Program} {l : Launch} {e : Env} {s : State} {m : MethodId} {args : Array Value} {below : List Frame} {meth : Method} {c : Code} {q : Int × Mem} {k2 : Int → Int → Int → Mem → Option (Int × Mem)} (hk2 : ∀ {l0 l1 l2 : Int} {M : Mem}, k2 l0 l1 l2 M = some q → G E p l e (rmOf 0 0 0) s m args below meth c 3 (QZ E below args s (rmOf 0 0 0) none q.2) 0 0 M 2 [(0, vR l0), (1, vR l1), (2, vI l2)] []) {l0 l1 l2 : Int} {M : Mem} (F : Fx E p s m args meth c cX6_copyStories 3 yX6_copyStories.cls none yX6_copyStories.name) (h : bX6_copyStories_2 k2 l0 l1 l2 M = some q) : G E p l e (rmOf 0 0 0) s m args below meth c 3 (QZ E below args s (rmOf 0 0 0) none q.2) 0 0 M 2 [(0, vR l0), (1, vR l1), (2, vI l2)] [] := by
  unfold bX6_copyStories_2 at h
  refine r_iload_n (j := 2) F rfl rfl dX6_copyStories_2 ?_
  refine r_bipush F rfl (by decide) dX6_copyStories_3 ?_
  refine r_icmp_ge (tgt := 50) F (by decide) dX6_copyStories_5 (fun hc => ?_) (fun hc => ?_)
  · replace h := ite_p h hc
    refine r_aload_n (j := 0) F rfl rfl dX6_copyStories_50 ?_
    refine r_aload_n (j := 1) F rfl rfl dX6_copyStories_51 ?_
    replace h := bind_so h
    obtain ⟨a52, h52, h⟩ := h
    refine r_getT (t := 0) rfl clok_6 F (by decide) h52 tw_233 dX6_copyStories_52 ?_
    replace h := bind_so h
    obtain ⟨M55, h55, h⟩ := h
    refine r_put clok_6 F (by decide) rfl (by decide) (by decide) h55 tw_233 dX6_copyStories_55 ?_
    obtain rfl := Option.some.inj h
    exact r_vret F dX6_copyStories_58
  · replace h := ite_n h hc
    refine r_aload_n (j := 0) F rfl rfl dX6_copyStories_8 ?_
    replace h := bind_so h
    obtain ⟨a9, h9, h⟩ := h
    refine r_getT (t := 2) rfl clok_6 F (by decide) h9 tw_228 dX6_copyStories_9 ?_
    refine r_iload_n (j := 2) F rfl rfl dX6_copyStories_12 ?_
    refine r_aload_n (j := 1) F rfl rfl dX6_copyStories_13 ?_
    replace h := bind_so h
    obtain ⟨a14, h14, h⟩ := h
    refine r_getT (t := 2) rfl clok_6 F (by decide) h14 tw_228 dX6_copyStories_14 ?_
    refine r_iload_n (j := 2) F rfl rfl dX6_copyStories_17 ?_
    replace h := bind_so h
    obtain ⟨a18, h18, h⟩ := h
    refine r_aald14 F h18 dX6_copyStories_18 ?_
    replace h := bind_so h
    obtain ⟨M19, h19, h⟩ := h
    refine r_aast14 F h19 dX6_copyStories_19 ?_
    refine r_aload_n (j := 0) F rfl rfl dX6_copyStories_20 ?_
    replace h := bind_so h
    obtain ⟨a21, h21, h⟩ := h
    refine r_getT (t := 2) rfl clok_6 F (by decide) h21 tw_230 dX6_copyStories_21 ?_
    refine r_iload_n (j := 2) F rfl rfl dX6_copyStories_24 ?_
    refine r_aload_n (j := 1) F rfl rfl dX6_copyStories_25 ?_
    replace h := bind_so h
    obtain ⟨a26, h26, h⟩ := h
    refine r_getT (t := 2) rfl clok_6 F (by decide) h26 tw_230 dX6_copyStories_26 ?_
    refine r_iload_n (j := 2) F rfl rfl dX6_copyStories_29 ?_
    replace h := bind_so h
    obtain ⟨a30, h30, h⟩ := h
    refine r_iald F h30 dX6_copyStories_30 ?_
    replace h := bind_so h
    obtain ⟨M31, h31, h⟩ := h
    refine r_iast F h31 dX6_copyStories_31 ?_
    refine r_aload_n (j := 0) F rfl rfl dX6_copyStories_32 ?_
    replace h := bind_so h
    obtain ⟨a33, h33, h⟩ := h
    refine r_getT (t := 2) rfl clok_6 F (by decide) h33 tw_231 dX6_copyStories_33 ?_
    refine r_iload_n (j := 2) F rfl rfl dX6_copyStories_36 ?_
    refine r_aload_n (j := 1) F rfl rfl dX6_copyStories_37 ?_
    replace h := bind_so h
    obtain ⟨a38, h38, h⟩ := h
    refine r_getT (t := 2) rfl clok_6 F (by decide) h38 tw_231 dX6_copyStories_38 ?_
    refine r_iload_n (j := 2) F rfl rfl dX6_copyStories_41 ?_
    replace h := bind_so h
    obtain ⟨a42, h42, h⟩ := h
    refine r_iald F h42 dX6_copyStories_42 ?_
    replace h := bind_so h
    obtain ⟨M43, h43, h⟩ := h
    refine r_iast F h43 dX6_copyStories_43 ?_
    refine r_iinc (j := 2) (ls' := [(2, vI (wI (l2 + 1))), (0, vR l0), (1, vR l1)]) F rfl (by decide) rfl dX6_copyStories_44 ?_
    refine r_goto (tgt := 2) F (by decide) dX6_copyStories_47 ?_
    refine r_sub [1, 2, 0] (ls' := [(0, vR l0), (1, vR l1), (2, vI (wI (l2 + 1)))]) rfl ?_
    exact hk2 h
theorem tX6_copyStories_2 {E : En} {p : Program} {l : Launch} {e : Env} {s : State} {m : MethodId} {args : Array Value} {below : List Frame} {meth : Method} {c : Code} {q : Int × Mem} (F : Fx E p s m args meth c cX6_copyStories 3 yX6_copyStories.cls none yX6_copyStories.name) : ∀ {fu : Nat} {l0 l1 l2 : Int} {M : Mem}, mX6_copyStories_2 fu l0 l1 l2 M = some q → G E p l e (rmOf 0 0 0) s m args below meth c 3 (QZ E below args s (rmOf 0 0 0) none q.2) 0 0 M 2 [(0, vR l0), (1, vR l1), (2, vI l2)] [] := by
  intro fu
  induction fu with
  | zero => intro l0 l1 l2 M h; exact nomatch (show (none : Option (Int × Mem)) = some q from h)
  | succ fu ih => intro l0 l1 l2 M h; exact tbX6_copyStories_2  (fun h => ih h) F h
theorem tX6_copyStories {l0 l1 : Int} {M : Mem} {q : Int × Mem} (h : mX6_copyStories l0 l1 M = some q) : Ct 0 0 0 yX6_copyStories cX6_copyStories 3 none [vR l0, vR l1] M none q.2 := by
  unfold mX6_copyStories at h
  refine Ct.of (by decide) (Nat.le_of_ble_eq_true rfl) ?_
  intro E p l e s m args below meth c F
  refine r_sub [0, 1] (ls' := [(0, vR l0), (1, vR l1)]) rfl ?_
  refine r_iconst F rfl dX6_copyStories_0 ?_
  refine r_istore_n (ls' := [(2, vI 0), (0, vR l0), (1, vR l1)]) F rfl (by decide) rfl dX6_copyStories_1 ?_
  refine r_sub [1, 2, 0] (ls' := [(0, vR l0), (1, vR l1), (2, vI 0)]) rfl ?_
  exact tX6_copyStories_2 F h
theorem tX6_copy {l0 l1 : Int} {M : Mem} {q : Int × Mem} (h : mX6_copy l0 l1 M = some q) : Ct 2 0 0 yX6_copy cX6_copy 2 none [vR l0, vR l1] M none q.2 := by
  unfold mX6_copy at h
  refine Ct.of (by decide) (Nat.le_of_ble_eq_true rfl) ?_
  intro E p l e s m args below meth c F
  refine r_sub [0, 1] (ls' := [(0, vR l0), (1, vR l1)]) rfl ?_
  refine r_aload_n (j := 0) F rfl rfl dX6_copy_0 ?_
  replace h := bind_so h
  obtain ⟨a1, h1, h⟩ := h
  refine r_getT (t := 2) rfl clok_6 F (by decide) h1 tw_206 dX6_copy_1 ?_
  refine r_aload_n (j := 1) F rfl rfl dX6_copy_4 ?_
  replace h := bind_so h
  obtain ⟨a5, h5, h⟩ := h
  refine r_getT (t := 2) rfl clok_6 F (by decide) h5 tw_206 dX6_copy_5 ?_
  replace h := bind_so h
  obtain ⟨_, g8, h⟩ := h
  replace h := bind_so h
  obtain ⟨q8, h8, h⟩ := h
  refine r_callV (as := [vR a5]) (rv := none) (kc := 0) (nc := 0) (tX3_copy h8) clok_3 F (gK_so g8) tw_1276 tw_1117 tw_1118 tw_1119 tw_115 ⟨by decide, by decide, show (parseMethodDescriptor yX3_copy.desc).map (fun d => d.parameters.length) = some 1 by decide +kernel⟩ ⟨by decide, by decide⟩ (Nat.le_of_ble_eq_true rfl) dX6_copy_8 ?_
  refine r_aload_n (j := 0) F rfl rfl dX6_copy_11 ?_
  refine r_aload_n (j := 1) F rfl rfl dX6_copy_12 ?_
  replace h := bind_so h
  obtain ⟨_, g13, h⟩ := h
  replace h := bind_so h
  obtain ⟨q13, h13, h⟩ := h
  refine r_callV (as := [vR l1]) (rv := none) (kc := 0) (nc := 0) (tX6_copyWorlds h13) clok_6 F (gK_so g13) tw_1277 tw_1279 tw_52 tw_1280 tw_114 ⟨by decide, by decide, show (parseMethodDescriptor yX6_copyWorlds.desc).map (fun d => d.parameters.length) = some 1 by decide +kernel⟩ ⟨by decide, by decide⟩ (Nat.le_of_ble_eq_true rfl) dX6_copy_13 ?_
  refine r_aload_n (j := 1) F rfl rfl dX6_copy_16 ?_
  replace h := bind_so h
  obtain ⟨a17, h17, h⟩ := h
  refine r_getT (t := 2) rfl clok_6 F (by decide) h17 tw_217 dX6_copy_17 ?_
  refine r_iconst F rfl dX6_copy_20 ?_
  refine r_aload_n (j := 0) F rfl rfl dX6_copy_21 ?_
  replace h := bind_so h
  obtain ⟨a22, h22, h⟩ := h
  refine r_getT (t := 2) rfl clok_6 F (by decide) h22 tw_217 dX6_copy_22 ?_
  refine r_iconst F rfl dX6_copy_25 ?_
  refine r_sipush F rfl (by decide) dX6_copy_26 ?_
  replace h := bind_so h
  obtain ⟨M29, h29, h⟩ := h
  refine r_copyi F h29 tw_1281 tw_931 tw_930 tw_128 ⟨by decide, by decide⟩ (Nat.le_of_ble_eq_true rfl) dX6_copy_29 ?_
  refine r_aload_n (j := 0) F rfl rfl dX6_copy_32 ?_
  refine r_aload_n (j := 1) F rfl rfl dX6_copy_33 ?_
  replace h := bind_so h
  obtain ⟨a34, h34, h⟩ := h
  refine r_getT (t := 0) rfl clok_6 F (by decide) h34 tw_219 dX6_copy_34 ?_
  replace h := bind_so h
  obtain ⟨M37, h37, h⟩ := h
  refine r_put clok_6 F (by decide) rfl (by decide) (by decide) h37 tw_219 dX6_copy_37 ?_
  refine r_aload_n (j := 0) F rfl rfl dX6_copy_40 ?_
  refine r_aload_n (j := 1) F rfl rfl dX6_copy_41 ?_
  replace h := bind_so h
  obtain ⟨a42, h42, h⟩ := h
  refine r_getT (t := 0) rfl clok_6 F (by decide) h42 tw_222 dX6_copy_42 ?_
  replace h := bind_so h
  obtain ⟨M45, h45, h⟩ := h
  refine r_put clok_6 F (by decide) rfl (by decide) (by decide) h45 tw_222 dX6_copy_45 ?_
  refine r_aload_n (j := 0) F rfl rfl dX6_copy_48 ?_
  refine r_aload_n (j := 1) F rfl rfl dX6_copy_49 ?_
  replace h := bind_so h
  obtain ⟨a50, h50, h⟩ := h
  refine r_getT (t := 0) rfl clok_6 F (by decide) h50 tw_225 dX6_copy_50 ?_
  replace h := bind_so h
  obtain ⟨M53, h53, h⟩ := h
  refine r_put clok_6 F (by decide) rfl (by decide) (by decide) h53 tw_225 dX6_copy_53 ?_
  refine r_aload_n (j := 0) F rfl rfl dX6_copy_56 ?_
  refine r_aload_n (j := 1) F rfl rfl dX6_copy_57 ?_
  replace h := bind_so h
  obtain ⟨_, g58, h⟩ := h
  replace h := bind_so h
  obtain ⟨q58, h58, h⟩ := h
  refine r_callV (as := [vR l1]) (rv := none) (kc := 0) (nc := 0) (tX6_copyStories h58) clok_6 F (gK_so g58) tw_1282 tw_1284 tw_53 tw_1285 tw_114 ⟨by decide, by decide, show (parseMethodDescriptor yX6_copyStories.desc).map (fun d => d.parameters.length) = some 1 by decide +kernel⟩ ⟨by decide, by decide⟩ (Nat.le_of_ble_eq_true rfl) dX6_copy_58 ?_
  refine r_aload_n (j := 0) F rfl rfl dX6_copy_61 ?_
  refine r_aload_n (j := 1) F rfl rfl dX6_copy_62 ?_
  replace h := bind_so h
  obtain ⟨a63, h63, h⟩ := h
  refine r_getT (t := 2) rfl clok_6 F (by decide) h63 tw_235 dX6_copy_63 ?_
  replace h := bind_so h
  obtain ⟨M66, h66, h⟩ := h
  refine r_put clok_6 F (by decide) rfl (by decide) (by decide) h66 tw_235 dX6_copy_66 ?_
  refine r_aload_n (j := 0) F rfl rfl dX6_copy_69 ?_
  refine r_aload_n (j := 1) F rfl rfl dX6_copy_70 ?_
  replace h := bind_so h
  obtain ⟨a71, h71, h⟩ := h
  refine r_getT (t := 0) rfl clok_6 F (by decide) h71 tw_238 dX6_copy_71 ?_
  replace h := bind_so h
  obtain ⟨M74, h74, h⟩ := h
  refine r_put clok_6 F (by decide) rfl (by decide) (by decide) h74 tw_238 dX6_copy_74 ?_
  refine r_aload_n (j := 0) F rfl rfl dX6_copy_77 ?_
  refine r_aload_n (j := 1) F rfl rfl dX6_copy_78 ?_
  replace h := bind_so h
  obtain ⟨a79, h79, h⟩ := h
  refine r_getT (t := 0) rfl clok_6 F (by decide) h79 tw_240 dX6_copy_79 ?_
  replace h := bind_so h
  obtain ⟨M82, h82, h⟩ := h
  refine r_put clok_6 F (by decide) rfl (by decide) (by decide) h82 tw_240 dX6_copy_82 ?_
  refine r_aload_n (j := 1) F rfl rfl dX6_copy_85 ?_
  replace h := bind_so h
  obtain ⟨a86, h86, h⟩ := h
  refine r_getT (t := 2) rfl clok_6 F (by decide) h86 tw_242 dX6_copy_86 ?_
  refine r_iconst F rfl dX6_copy_89 ?_
  refine r_aload_n (j := 0) F rfl rfl dX6_copy_90 ?_
  replace h := bind_so h
  obtain ⟨a91, h91, h⟩ := h
  refine r_getT (t := 2) rfl clok_6 F (by decide) h91 tw_242 dX6_copy_91 ?_
  refine r_iconst F rfl dX6_copy_94 ?_
  refine r_bipush F rfl (by decide) dX6_copy_95 ?_
  replace h := bind_so h
  obtain ⟨M97, h97, h⟩ := h
  refine r_copyi F h97 tw_1281 tw_931 tw_930 tw_128 ⟨by decide, by decide⟩ (Nat.le_of_ble_eq_true rfl) dX6_copy_97 ?_
  refine r_aload_n (j := 1) F rfl rfl dX6_copy_100 ?_
  replace h := bind_so h
  obtain ⟨a101, h101, h⟩ := h
  refine r_getT (t := 2) rfl clok_6 F (by decide) h101 tw_243 dX6_copy_101 ?_
  refine r_iconst F rfl dX6_copy_104 ?_
  refine r_aload_n (j := 0) F rfl rfl dX6_copy_105 ?_
  replace h := bind_so h
  obtain ⟨a106, h106, h⟩ := h
  refine r_getT (t := 2) rfl clok_6 F (by decide) h106 tw_243 dX6_copy_106 ?_
  refine r_iconst F rfl dX6_copy_109 ?_
  refine r_bipush F rfl (by decide) dX6_copy_110 ?_
  replace h := bind_so h
  obtain ⟨M112, h112, h⟩ := h
  refine r_copyz F h112 tw_1281 tw_931 tw_930 tw_128 ⟨by decide, by decide⟩ (Nat.le_of_ble_eq_true rfl) dX6_copy_112 ?_
  refine r_aload_n (j := 1) F rfl rfl dX6_copy_115 ?_
  replace h := bind_so h
  obtain ⟨a116, h116, h⟩ := h
  refine r_getT (t := 2) rfl clok_6 F (by decide) h116 tw_244 dX6_copy_116 ?_
  refine r_iconst F rfl dX6_copy_119 ?_
  refine r_aload_n (j := 0) F rfl rfl dX6_copy_120 ?_
  replace h := bind_so h
  obtain ⟨a121, h121, h⟩ := h
  refine r_getT (t := 2) rfl clok_6 F (by decide) h121 tw_244 dX6_copy_121 ?_
  refine r_iconst F rfl dX6_copy_124 ?_
  refine r_bipush F rfl (by decide) dX6_copy_125 ?_
  replace h := bind_so h
  obtain ⟨M127, h127, h⟩ := h
  refine r_copyi F h127 tw_1281 tw_931 tw_930 tw_128 ⟨by decide, by decide⟩ (Nat.le_of_ble_eq_true rfl) dX6_copy_127 ?_
  refine r_aload_n (j := 0) F rfl rfl dX6_copy_130 ?_
  refine r_aload_n (j := 1) F rfl rfl dX6_copy_131 ?_
  replace h := bind_so h
  obtain ⟨a132, h132, h⟩ := h
  refine r_getT (t := 0) rfl clok_6 F (by decide) h132 tw_245 dX6_copy_132 ?_
  replace h := bind_so h
  obtain ⟨M135, h135, h⟩ := h
  refine r_put clok_6 F (by decide) rfl (by decide) (by decide) h135 tw_245 dX6_copy_135 ?_
  obtain rfl := Option.some.inj h
  exact r_vret F dX6_copy_138
theorem tbX6_clearWorlds_7 {E : En} {p : Program} {l : Launch} {e : Env} {s : State} {m : MethodId} {args : Array Value} {below : List Frame} {meth : Method} {c : Code} {q : Int × Mem} {k7 : Int → Int → Mem → Option (Int × Mem)} (hk7 : ∀ {l0 l1 : Int} {M : Mem}, k7 l0 l1 M = some q → G E p l e (rmOf 0 0 0) s m args below meth c 2 (QZ E below args s (rmOf 0 0 0) none q.2) 0 0 M 7 [(0, vR l0), (1, vI l1)] []) {l0 l1 : Int} {M : Mem} (F : Fx E p s m args meth c cX6_clearWorlds 2 yX6_clearWorlds.cls none yX6_clearWorlds.name) (h : bX6_clearWorlds_7 k7 l0 l1 M = some q) : G E p l e (rmOf 0 0 0) s m args below meth c 2 (QZ E below args s (rmOf 0 0 0) none q.2) 0 0 M 7 [(0, vR l0), (1, vI l1)] [] := by
  unfold bX6_clearWorlds_7 at h
  refine r_iload_n (j := 1) F rfl rfl dX6_clearWorlds_7 ?_
  refine r_iconst F rfl dX6_clearWorlds_8 ?_
  refine r_icmp_ge (tgt := 25) F (by decide) dX6_clearWorlds_9 (fun hc => ?_) (fun hc => ?_)
  · replace h := ite_p h hc
    obtain rfl := Option.some.inj h
    exact r_vret F dX6_clearWorlds_25
  · replace h := ite_n h hc
    refine r_aload_n (j := 0) F rfl rfl dX6_clearWorlds_12 ?_
    replace h := bind_so h
    obtain ⟨a13, h13, h⟩ := h
    refine r_getT (t := 2) rfl clok_6 F (by decide) h13 tw_215 dX6_clearWorlds_13 ?_
    refine r_iload_n (j := 1) F rfl rfl dX6_clearWorlds_16 ?_
    refine r_iconst F rfl dX6_clearWorlds_17 ?_
    replace h := bind_so h
    obtain ⟨M18, h18, h⟩ := h
    refine r_zast F h18 dX6_clearWorlds_18 ?_
    refine r_iinc (j := 1) (ls' := [(1, vI (wI (l1 + 1))), (0, vR l0)]) F rfl (by decide) rfl dX6_clearWorlds_19 ?_
    refine r_goto (tgt := 7) F (by decide) dX6_clearWorlds_22 ?_
    refine r_sub [1, 0] (ls' := [(0, vR l0), (1, vI (wI (l1 + 1)))]) rfl ?_
    exact hk7 h
theorem tX6_clearWorlds_7 {E : En} {p : Program} {l : Launch} {e : Env} {s : State} {m : MethodId} {args : Array Value} {below : List Frame} {meth : Method} {c : Code} {q : Int × Mem} (F : Fx E p s m args meth c cX6_clearWorlds 2 yX6_clearWorlds.cls none yX6_clearWorlds.name) : ∀ {fu : Nat} {l0 l1 : Int} {M : Mem}, mX6_clearWorlds_7 fu l0 l1 M = some q → G E p l e (rmOf 0 0 0) s m args below meth c 2 (QZ E below args s (rmOf 0 0 0) none q.2) 0 0 M 7 [(0, vR l0), (1, vI l1)] [] := by
  intro fu
  induction fu with
  | zero => intro l0 l1 M h; exact nomatch (show (none : Option (Int × Mem)) = some q from h)
  | succ fu ih => intro l0 l1 M h; exact tbX6_clearWorlds_7  (fun h => ih h) F h
theorem tX6_clearWorlds {l0 : Int} {M : Mem} {q : Int × Mem} (h : mX6_clearWorlds l0 M = some q) : Ct 0 0 0 yX6_clearWorlds cX6_clearWorlds 2 none [vR l0] M none q.2 := by
  unfold mX6_clearWorlds at h
  refine Ct.of (by decide) (Nat.le_of_ble_eq_true rfl) ?_
  intro E p l e s m args below meth c F
  refine r_sub [0] (ls' := [(0, vR l0)]) rfl ?_
  refine r_aload_n (j := 0) F rfl rfl dX6_clearWorlds_0 ?_
  refine r_lconst F dX6_clearWorlds_1 ?_
  refine r_eq (y := 0) rfl ?_
  replace h := bind_so h
  obtain ⟨M2, h2, h⟩ := h
  refine r_put clok_6 F (by decide) rfl (by decide) (by decide) h2 tw_210 dX6_clearWorlds_2 ?_
  refine r_iconst F rfl dX6_clearWorlds_5 ?_
  refine r_istore_n (ls' := [(1, vI 0), (0, vR l0)]) F rfl (by decide) rfl dX6_clearWorlds_6 ?_
  refine r_sub [1, 0] (ls' := [(0, vR l0), (1, vI 0)]) rfl ?_
  exact tX6_clearWorlds_7 F h
theorem tX6_isSo {l0 l1 : Int} {M : Mem} {q : Int × Mem} (h : mX6_isSo l0 l1 M = some q) : Ct 1 0 0 yX6_isSo cX6_isSo 2 (some FieldType.boolean) [vR l0, vI l1] M (some (vI q.1)) q.2 := by
  unfold mX6_isSo at h
  refine Ct.of (by decide) (Nat.le_of_ble_eq_true rfl) ?_
  intro E p l e s m args below meth c F
  refine r_sub [0, 1] (ls' := [(0, vR l0), (1, vI l1)]) rfl ?_
  refine r_aload_n (j := 0) F rfl rfl dX6_isSo_0 ?_
  replace h := bind_so h
  obtain ⟨a1, h1, h⟩ := h
  refine r_getT (t := 1) rfl clok_6 F (by decide) h1 tw_210 dX6_isSo_1 ?_
  refine r_aload_n (j := 0) F rfl rfl dX6_isSo_4 ?_
  replace h := bind_so h
  obtain ⟨a5, h5, h⟩ := h
  refine r_getT (t := 2) rfl clok_6 F (by decide) h5 tw_206 dX6_isSo_5 ?_
  refine r_iload_n (j := 1) F rfl rfl dX6_isSo_8 ?_
  replace h := bind_so h
  obtain ⟨_, g9, h⟩ := h
  replace h := bind_so h
  obtain ⟨q9, h9, h⟩ := h
  refine r_callV (as := [vI l1]) (rv := (some (vI q9.1))) (kc := 0) (nc := 0) (tX3_bit h9) clok_3 F (gK_so g9) tw_554 tw_555 tw_556 tw_557 tw_115 ⟨by decide, by decide, show (parseMethodDescriptor yX3_bit.desc).map (fun d => d.parameters.length) = some 1 by decide +kernel⟩ ⟨by decide, by decide⟩ (Nat.le_of_ble_eq_true rfl) dX6_isSo_9 ?_
  refine r_lshr F dX6_isSo_12 ?_
  refine r_lconst F dX6_isSo_13 ?_
  refine r_eq (y := 1) rfl ?_
  refine r_land F dX6_isSo_14 ?_
  refine r_lconst F dX6_isSo_15 ?_
  refine r_eq (y := 0) rfl ?_
  refine r_lcmp F dX6_isSo_16 ?_
  refine r_if_eq (tgt := 24) F (by decide) dX6_isSo_17 (fun hc => ?_) (fun hc => ?_)
  · replace h := ite_p h hc
    refine r_iconst F rfl dX6_isSo_24 ?_
    obtain rfl := Option.some.inj h
    exact r_zret (Or.inl rfl) F dX6_isSo_25
  · replace h := ite_n h hc
    refine r_iconst F rfl dX6_isSo_20 ?_
    refine r_goto (tgt := 25) F (by decide) dX6_isSo_21 ?_
    obtain rfl := Option.some.inj h
    exact r_zret (Or.inr rfl) F dX6_isSo_25
theorem tbX6_addBytes_3 {E : En} {p : Program} {l : Launch} {e : Env} {s : State} {m : MethodId} {args : Array Value} {below : List Frame} {meth : Method} {c : Code} {q : Int × Mem} {k3 : Int → Int → Int → Mem → Option (Int × Mem)} (hk3 : ∀ {l0 l1 l2 : Int} {M : Mem}, k3 l0 l1 l2 M = some q → G E p l e (rmOf 0 0 0) s m args below meth c 3 (QZ E below args s (rmOf 0 0 0) none q.2) 0 0 M 3 [(0, vR l0), (1, vI l1), (2, vI l2)] []) {l0 l1 l2 : Int} {M : Mem} (F : Fx E p s m args meth c cX6_addBytes 3 yX6_addBytes.cls none yX6_addBytes.name) (h : bX6_addBytes_3 k3 l0 l1 l2 M = some q) : G E p l e (rmOf 0 0 0) s m args below meth c 3 (QZ E below args s (rmOf 0 0 0) none q.2) 0 0 M 3 [(0, vR l0), (1, vI l1), (2, vI l2)] [] := by
  unfold bX6_addBytes_3 at h
  refine r_iload_n (j := 2) F rfl rfl dX6_addBytes_3 ?_
  refine r_if_lt (tgt := 49) F (by decide) dX6_addBytes_4 (fun hc => ?_) (fun hc => ?_)
  · replace h := ite_p h hc
    obtain rfl := Option.some.inj h
    exact r_vret F dX6_addBytes_49
  · replace h := ite_n h hc
    refine r_aload_n (j := 0) F rfl rfl dX6_addBytes_7 ?_
    replace h := bind_so h
    obtain ⟨a8, h8, h⟩ := h
    refine r_getT (t := 0) rfl clok_6 F (by decide) h8 tw_219 dX6_addBytes_8 ?_
    refine r_sipush F rfl (by decide) dX6_addBytes_11 ?_
    refine r_icmp_ge (tgt := 49) F (by decide) dX6_addBytes_14 (fun hc => ?_) (fun hc => ?_)
    · replace h := ite_p h hc
      obtain rfl := Option.some.inj h
      exact r_vret F dX6_addBytes_49
    · replace h := ite_n h hc
      refine r_aload_n (j := 0) F rfl rfl dX6_addBytes_17 ?_
      replace h := bind_so h
      obtain ⟨a18, h18, h⟩ := h
      refine r_getT (t := 2) rfl clok_6 F (by decide) h18 tw_217 dX6_addBytes_18 ?_
      refine r_aload_n (j := 0) F rfl rfl dX6_addBytes_21 ?_
      replace h := bind_so h
      obtain ⟨a22, h22, h⟩ := h
      refine r_getT (t := 0) rfl clok_6 F (by decide) h22 tw_219 dX6_addBytes_22 ?_
      refine r_iload_n (j := 1) F rfl rfl dX6_addBytes_25 ?_
      refine r_iload_n (j := 2) F rfl rfl dX6_addBytes_26 ?_
      refine r_ishr F dX6_addBytes_27 ?_
      refine r_sipush F rfl (by decide) dX6_addBytes_28 ?_
      refine r_iand F dX6_addBytes_31 ?_
      replace h := bind_so h
      obtain ⟨M32, h32, h⟩ := h
      refine r_iast F h32 dX6_addBytes_32 ?_
      refine r_aload_n (j := 0) F rfl rfl dX6_addBytes_33 ?_
      refine r_dup1 F rfl dX6_addBytes_34 ?_
      replace h := bind_so h
      obtain ⟨a35, h35, h⟩ := h
      refine r_getT (t := 0) rfl clok_6 F (by decide) h35 tw_219 dX6_addBytes_35 ?_
      refine r_iconst F rfl dX6_addBytes_38 ?_
      refine r_iadd F dX6_addBytes_39 ?_
      replace h := bind_so h
      obtain ⟨M40, h40, h⟩ := h
      refine r_put clok_6 F (by decide) rfl (by decide) (by decide) h40 tw_219 dX6_addBytes_40 ?_
      refine r_iinc (j := 2) (ls' := [(2, vI (wI (l2 + (-8)))), (0, vR l0), (1, vI l1)]) F rfl (by decide) rfl dX6_addBytes_43 ?_
      refine r_goto (tgt := 3) F (by decide) dX6_addBytes_46 ?_
      refine r_sub [1, 2, 0] (ls' := [(0, vR l0), (1, vI l1), (2, vI (wI (l2 + (-8))))]) rfl ?_
      exact hk3 h
theorem tX6_addBytes_3 {E : En} {p : Program} {l : Launch} {e : Env} {s : State} {m : MethodId} {args : Array Value} {below : List Frame} {meth : Method} {c : Code} {q : Int × Mem} (F : Fx E p s m args meth c cX6_addBytes 3 yX6_addBytes.cls none yX6_addBytes.name) : ∀ {fu : Nat} {l0 l1 l2 : Int} {M : Mem}, mX6_addBytes_3 fu l0 l1 l2 M = some q → G E p l e (rmOf 0 0 0) s m args below meth c 3 (QZ E below args s (rmOf 0 0 0) none q.2) 0 0 M 3 [(0, vR l0), (1, vI l1), (2, vI l2)] [] := by
  intro fu
  induction fu with
  | zero => intro l0 l1 l2 M h; exact nomatch (show (none : Option (Int × Mem)) = some q from h)
  | succ fu ih => intro l0 l1 l2 M h; exact tbX6_addBytes_3  (fun h => ih h) F h
theorem tX6_addBytes {l0 l1 : Int} {M : Mem} {q : Int × Mem} (h : mX6_addBytes l0 l1 M = some q) : Ct 0 0 0 yX6_addBytes cX6_addBytes 3 none [vR l0, vI l1] M none q.2 := by
  unfold mX6_addBytes at h
  refine Ct.of (by decide) (Nat.le_of_ble_eq_true rfl) ?_
  intro E p l e s m args below meth c F
  refine r_sub [0, 1] (ls' := [(0, vR l0), (1, vI l1)]) rfl ?_
  refine r_bipush F rfl (by decide) dX6_addBytes_0 ?_
  refine r_istore_n (ls' := [(2, vI 24), (0, vR l0), (1, vI l1)]) F rfl (by decide) rfl dX6_addBytes_2 ?_
  refine r_sub [1, 2, 0] (ls' := [(0, vR l0), (1, vI l1), (2, vI 24)]) rfl ?_
  exact tX6_addBytes_3 F h
theorem tX6_storyText {l0 l1 : Int} {M : Mem} {q : Int × Mem} (h : mX6_storyText l0 l1 M = some q) : Ct 1 0 0 yX6_storyText cX6_storyText 2 (some (FieldType.object "VillageStories$Text")) [vR l0, vI l1] M (some (vR q.1)) q.2 := by
  unfold mX6_storyText at h
  refine Ct.of (by decide) (Nat.le_of_ble_eq_true rfl) ?_
  intro E p l e s m args below meth c F
  refine r_sub [0, 1] (ls' := [(0, vR l0), (1, vI l1)]) rfl ?_
  refine r_aload_n (j := 0) F rfl rfl dX6_storyText_0 ?_
  refine r_iload_n (j := 1) F rfl rfl dX6_storyText_1 ?_
  replace h := bind_so h
  obtain ⟨_, g2, h⟩ := h
  replace h := bind_so h
  obtain ⟨q2, h2, h⟩ := h
  refine r_callV (as := [vI l1]) (rv := (some (vI q2.1))) (kc := 0) (nc := 0) (tX6_hasStory h2) clok_6 F (gK_so g2) tw_886 tw_867 tw_868 tw_869 tw_114 ⟨by decide, by decide, show (parseMethodDescriptor yX6_hasStory.desc).map (fun d => d.parameters.length) = some 1 by decide +kernel⟩ ⟨by decide, by decide⟩ (Nat.le_of_ble_eq_true rfl) dX6_storyText_2 ?_
  refine r_if_eq (tgt := 17) F (by decide) dX6_storyText_5 (fun hc => ?_) (fun hc => ?_)
  · replace h := ite_p h hc
    refine r_null F dX6_storyText_17 ?_
    obtain rfl := Option.some.inj h
    exact r_aret (Or.inl ⟨_, rfl⟩) F dX6_storyText_18
  · replace h := ite_n h hc
    refine r_aload_n (j := 0) F rfl rfl dX6_storyText_8 ?_
    replace h := bind_so h
    obtain ⟨a9, h9, h⟩ := h
    refine r_getT (t := 2) rfl clok_6 F (by decide) h9 tw_228 dX6_storyText_9 ?_
    refine r_iload_n (j := 1) F rfl rfl dX6_storyText_12 ?_
    replace h := bind_so h
    obtain ⟨a13, h13, h⟩ := h
    refine r_aald14 F h13 dX6_storyText_13 ?_
    refine r_goto (tgt := 18) F (by decide) dX6_storyText_14 ?_
    obtain rfl := Option.some.inj h
    exact r_aret (Or.inl ⟨_, rfl⟩) F dX6_storyText_18
theorem tX6_addStory {l0 l1 : Int} {M : Mem} {q : Int × Mem} (h : mX6_addStory l0 l1 M = some q) : Ct 0 0 0 yX6_addStory cX6_addStory 2 (some FieldType.int) [vR l0, vR l1] M (some (vI q.1)) q.2 := by
  unfold mX6_addStory at h
  refine Ct.of (by decide) (Nat.le_of_ble_eq_true rfl) ?_
  intro E p l e s m args below meth c F
  refine r_sub [0, 1] (ls' := [(0, vR l0), (1, vR l1)]) rfl ?_
  refine r_aload_n (j := 0) F rfl rfl dX6_addStory_0 ?_
  replace h := bind_so h
  obtain ⟨a1, h1, h⟩ := h
  refine r_getT (t := 0) rfl clok_6 F (by decide) h1 tw_233 dX6_addStory_1 ?_
  refine r_bipush F rfl (by decide) dX6_addStory_4 ?_
  refine r_icmp_lt (tgt := 11) F (by decide) dX6_addStory_6 (fun hc => ?_) (fun hc => ?_)
  · replace h := ite_p h hc
    refine r_aload_n (j := 0) F rfl rfl dX6_addStory_11 ?_
    replace h := bind_so h
    obtain ⟨a12, h12, h⟩ := h
    refine r_getT (t := 2) rfl clok_6 F (by decide) h12 tw_228 dX6_addStory_12 ?_
    refine r_aload_n (j := 0) F rfl rfl dX6_addStory_15 ?_
    replace h := bind_so h
    obtain ⟨a16, h16, h⟩ := h
    refine r_getT (t := 0) rfl clok_6 F (by decide) h16 tw_233 dX6_addStory_16 ?_
    refine r_aload_n (j := 1) F rfl rfl dX6_addStory_19 ?_
    replace h := bind_so h
    obtain ⟨M20, h20, h⟩ := h
    refine r_aast14 F h20 dX6_addStory_20 ?_
    refine r_aload_n (j := 0) F rfl rfl dX6_addStory_21 ?_
    replace h := bind_so h
    obtain ⟨a22, h22, h⟩ := h
    refine r_getT (t := 2) rfl clok_6 F (by decide) h22 tw_230 dX6_addStory_22 ?_
    refine r_aload_n (j := 0) F rfl rfl dX6_addStory_25 ?_
    replace h := bind_so h
    obtain ⟨a26, h26, h⟩ := h
    refine r_getT (t := 0) rfl clok_6 F (by decide) h26 tw_233 dX6_addStory_26 ?_
    refine r_aload_n (j := 0) F rfl rfl dX6_addStory_29 ?_
    replace h := bind_so h
    obtain ⟨a30, h30, h⟩ := h
    refine r_getT (t := 0) rfl clok_6 F (by decide) h30 tw_238 dX6_addStory_30 ?_
    replace h := bind_so h
    obtain ⟨M33, h33, h⟩ := h
    refine r_iast F h33 dX6_addStory_33 ?_
    refine r_aload_n (j := 0) F rfl rfl dX6_addStory_34 ?_
    replace h := bind_so h
    obtain ⟨a35, h35, h⟩ := h
    refine r_getT (t := 2) rfl clok_6 F (by decide) h35 tw_231 dX6_addStory_35 ?_
    refine r_aload_n (j := 0) F rfl rfl dX6_addStory_38 ?_
    replace h := bind_so h
    obtain ⟨a39, h39, h⟩ := h
    refine r_getT (t := 0) rfl clok_6 F (by decide) h39 tw_233 dX6_addStory_39 ?_
    refine r_iconst F rfl dX6_addStory_42 ?_
    replace h := bind_so h
    obtain ⟨M43, h43, h⟩ := h
    refine r_iast F h43 dX6_addStory_43 ?_
    refine r_aload_n (j := 0) F rfl rfl dX6_addStory_44 ?_
    refine r_dup1 F rfl dX6_addStory_45 ?_
    replace h := bind_so h
    obtain ⟨a46, h46, h⟩ := h
    refine r_getT (t := 0) rfl clok_6 F (by decide) h46 tw_233 dX6_addStory_46 ?_
    refine r_iconst F rfl dX6_addStory_49 ?_
    refine r_iadd F dX6_addStory_50 ?_
    replace h := bind_so h
    obtain ⟨M51, h51, h⟩ := h
    refine r_put clok_6 F (by decide) rfl (by decide) (by decide) h51 tw_233 dX6_addStory_51 ?_
    refine r_aload_n (j := 0) F rfl rfl dX6_addStory_54 ?_
    replace h := bind_so h
    obtain ⟨a55, h55, h⟩ := h
    refine r_getT (t := 0) rfl clok_6 F (by decide) h55 tw_233 dX6_addStory_55 ?_
    refine r_iconst F rfl dX6_addStory_58 ?_
    refine r_isub F dX6_addStory_59 ?_
    obtain rfl := Option.some.inj h
    exact r_iret F dX6_addStory_60
  · replace h := ite_n h hc
    refine r_iconst F rfl dX6_addStory_9 ?_
    obtain rfl := Option.some.inj h
    exact r_iret F dX6_addStory_10
theorem tX6_addKnown_16 {E : En} {p : Program} {l : Launch} {e : Env} {s : State} {m : MethodId} {args : Array Value} {below : List Frame} {meth : Method} {c : Code} {q : Int × Mem} {l0 l1 l2 l4 s0 : Int} {M : Mem} (F : Fx E p s m args meth c cX6_addKnown 6 yX6_addKnown.cls (some FieldType.boolean) yX6_addKnown.name) (h : mX6_addKnown_16 l0 l1 l2 l4 s0 M = some q) : G E p l e (rmOf 1 0 0) s m args below meth c 6 (QZ E below args s (rmOf 1 0 0) (some (vI q.1)) q.2) 0 0 M 16 [(0, vR l0), (1, vI l1), (2, vI l2), (4, vI l4)] [vI s0] := by
  unfold mX6_addKnown_16 at h
  refine r_istore (ls' := [(5, vI s0), (0, vR l0), (1, vI l1), (2, vI l2), (4, vI l4)]) F (by decide) rfl dX6_addKnown_16 ?_
  refine r_aload_n (j := 1) F rfl rfl dX6_addKnown_18 ?_
  replace h := bind_so h
  obtain ⟨a19, h19, h⟩ := h
  refine r_getT (t := 0) rfl clok_6 F (by decide) h19 tw_245 dX6_addKnown_19 ?_
  refine r_bipush F rfl (by decide) dX6_addKnown_22 ?_
  refine r_icmp_ge (tgt := 58) F (by decide) dX6_addKnown_24 (fun hc => ?_) (fun hc => ?_)
  · replace h := ite_p h hc
    refine r_iconst F rfl dX6_addKnown_58 ?_
    obtain rfl := Option.some.inj h
    exact r_zret (Or.inl rfl) F dX6_addKnown_59
  · replace h := ite_n h hc
    refine r_aload_n (j := 1) F rfl rfl dX6_addKnown_27 ?_
    replace h := bind_so h
    obtain ⟨a28, h28, h⟩ := h
    refine r_getT (t := 2) rfl clok_6 F (by decide) h28 tw_206 dX6_addKnown_28 ?_
    refine r_iload_n (j := 2) F rfl rfl dX6_addKnown_31 ?_
    replace h := bind_so h
    obtain ⟨_, g32, h⟩ := h
    replace h := bind_so h
    obtain ⟨q32, h32, h⟩ := h
    refine r_callV (as := [vI l1]) (rv := (some (vI q32.1))) (kc := 0) (nc := 0) (tX3_hasRelation h32) clok_3 F (gK_so g32) tw_575 tw_576 tw_577 tw_578 tw_115 ⟨by decide, by decide, show (parseMethodDescriptor yX3_hasRelation.desc).map (fun d => d.parameters.length) = some 1 by decide +kernel⟩ ⟨by decide, by decide⟩ (Nat.le_of_ble_eq_true rfl) dX6_addKnown_32 ?_
    refine r_if_eq (tgt := 58) F (by decide) dX6_addKnown_35 (fun hc => ?_) (fun hc => ?_)
    · replace h := ite_p h hc
      refine r_iconst F rfl dX6_addKnown_58 ?_
      obtain rfl := Option.some.inj h
      exact r_zret (Or.inl rfl) F dX6_addKnown_59
    · replace h := ite_n h hc
      refine r_iload_n (j := 3) F rfl rfl dX6_addKnown_38 ?_
      refine r_if_lt (tgt := 58) F (by decide) dX6_addKnown_39 (fun hc => ?_) (fun hc => ?_)
      · replace h := ite_p h hc
        refine r_iconst F rfl dX6_addKnown_58 ?_
        obtain rfl := Option.some.inj h
        exact r_zret (Or.inl rfl) F dX6_addKnown_59
      · replace h := ite_n h hc
        refine r_iload_n (j := 3) F rfl rfl dX6_addKnown_42 ?_
        refine r_iconst F rfl dX6_addKnown_43 ?_
        refine r_icmp_ge (tgt := 58) F (by decide) dX6_addKnown_44 (fun hc => ?_) (fun hc => ?_)
        · replace h := ite_p h hc
          refine r_iconst F rfl dX6_addKnown_58 ?_
          obtain rfl := Option.some.inj h
          exact r_zret (Or.inl rfl) F dX6_addKnown_59
        · replace h := ite_n h hc
          refine r_iload (j := 0) F rfl dX6_addKnown_47 ?_
          refine r_if_lt (tgt := 58) F (by decide) dX6_addKnown_49 (fun hc => ?_) (fun hc => ?_)
          · replace h := ite_p h hc
            refine r_iconst F rfl dX6_addKnown_58 ?_
            obtain rfl := Option.some.inj h
            exact r_zret (Or.inl rfl) F dX6_addKnown_59
          · replace h := ite_n h hc
            refine r_iload (j := 0) F rfl dX6_addKnown_52 ?_
            refine r_iconst F rfl dX6_addKnown_54 ?_
            refine r_icmp_lt (tgt := 60) F (by decide) dX6_addKnown_55 (fun hc => ?_) (fun hc => ?_)
            · replace h := ite_p h hc
              refine r_aload_n (j := 1) F rfl rfl dX6_addKnown_60 ?_
              replace h := bind_so h
              obtain ⟨a61, h61, h⟩ := h
              refine r_getT (t := 2) rfl clok_6 F (by decide) h61 tw_242 dX6_addKnown_61 ?_
              refine r_aload_n (j := 1) F rfl rfl dX6_addKnown_64 ?_
              replace h := bind_so h
              obtain ⟨a65, h65, h⟩ := h
              refine r_getT (t := 0) rfl clok_6 F (by decide) h65 tw_245 dX6_addKnown_65 ?_
              refine r_iload_n (j := 2) F rfl rfl dX6_addKnown_68 ?_
              refine r_iconst F rfl dX6_addKnown_69 ?_
              refine r_imul F dX6_addKnown_70 ?_
              refine r_iload_n (j := 3) F rfl rfl dX6_addKnown_71 ?_
              refine r_iadd F dX6_addKnown_72 ?_
              refine r_iconst F rfl dX6_addKnown_73 ?_
              refine r_imul F dX6_addKnown_74 ?_
              refine r_iload (j := 0) F rfl dX6_addKnown_75 ?_
              refine r_iadd F dX6_addKnown_77 ?_
              replace h := bind_so h
              obtain ⟨M78, h78, h⟩ := h
              refine r_iast F h78 dX6_addKnown_78 ?_
              refine r_aload_n (j := 1) F rfl rfl dX6_addKnown_79 ?_
              replace h := bind_so h
              obtain ⟨a80, h80, h⟩ := h
              refine r_getT (t := 2) rfl clok_6 F (by decide) h80 tw_243 dX6_addKnown_80 ?_
              refine r_aload_n (j := 1) F rfl rfl dX6_addKnown_83 ?_
              replace h := bind_so h
              obtain ⟨a84, h84, h⟩ := h
              refine r_getT (t := 0) rfl clok_6 F (by decide) h84 tw_245 dX6_addKnown_84 ?_
              refine r_iload (j := 4) F rfl dX6_addKnown_87 ?_
              replace h := bind_so h
              obtain ⟨M89, h89, h⟩ := h
              refine r_zast F h89 dX6_addKnown_89 ?_
              refine r_aload_n (j := 1) F rfl rfl dX6_addKnown_90 ?_
              replace h := bind_so h
              obtain ⟨a91, h91, h⟩ := h
              refine r_getT (t := 2) rfl clok_6 F (by decide) h91 tw_244 dX6_addKnown_91 ?_
              refine r_aload_n (j := 1) F rfl rfl dX6_addKnown_94 ?_
              replace h := bind_so h
              obtain ⟨a95, h95, h⟩ := h
              refine r_getT (t := 0) rfl clok_6 F (by decide) h95 tw_245 dX6_addKnown_95 ?_
              refine r_aload_n (j := 1) F rfl rfl dX6_addKnown_98 ?_
              replace h := bind_so h
              obtain ⟨a99, h99, h⟩ := h
              refine r_getT (t := 0) rfl clok_6 F (by decide) h99 tw_238 dX6_addKnown_99 ?_
              replace h := bind_so h
              obtain ⟨M102, h102, h⟩ := h
              refine r_iast F h102 dX6_addKnown_102 ?_
              refine r_aload_n (j := 1) F rfl rfl dX6_addKnown_103 ?_
              refine r_dup1 F rfl dX6_addKnown_104 ?_
              replace h := bind_so h
              obtain ⟨a105, h105, h⟩ := h
              refine r_getT (t := 0) rfl clok_6 F (by decide) h105 tw_245 dX6_addKnown_105 ?_
              refine r_iconst F rfl dX6_addKnown_108 ?_
              refine r_iadd F dX6_addKnown_109 ?_
              replace h := bind_so h
              obtain ⟨M110, h110, h⟩ := h
              refine r_put clok_6 F (by decide) rfl (by decide) (by decide) h110 tw_245 dX6_addKnown_110 ?_
              refine r_iconst F rfl dX6_addKnown_113 ?_
              obtain rfl := Option.some.inj h
              exact r_zret (Or.inr rfl) F dX6_addKnown_114
            · replace h := ite_n h hc
              refine r_iconst F rfl dX6_addKnown_58 ?_
              obtain rfl := Option.some.inj h
              exact r_zret (Or.inl rfl) F dX6_addKnown_59
theorem tX6_addKnown {l0 l1 l2 l3 l4 : Int} {M : Mem} {q : Int × Mem} (h : mX6_addKnown l0 l1 l2 l3 l4 M = some q) : Ct 1 0 0 yX6_addKnown cX6_addKnown 6 (some FieldType.boolean) [vR l0, vI l1, vI l2, vI l3, vI l4] M (some (vI q.1)) q.2 := by
  unfold mX6_addKnown at h
  refine Ct.of (by decide) (Nat.le_of_ble_eq_true rfl) ?_
  intro E p l e s m args below meth c F
  refine r_sub [0, 1, 2, 3, 4] (ls' := [(0, vR l0), (1, vI l1), (2, vI l2), (3, vI l3), (4, vI l4)]) rfl ?_
  refine r_aload_n (j := 0) F rfl rfl dX6_addKnown_0 ?_
  replace h := bind_so h
  obtain ⟨a1, h1, h⟩ := h
  refine r_getT (t := 2) rfl clok_6 F (by decide) h1 tw_206 dX6_addKnown_1 ?_
  refine r_iload_n (j := 1) F rfl rfl dX6_addKnown_4 ?_
  replace h := bind_so h
  obtain ⟨_, g5, h⟩ := h
  replace h := bind_so h
  obtain ⟨q5, h5, h⟩ := h
  refine r_callV (as := [vI l1]) (rv := (some (vI q5.1))) (kc := 0) (nc := 0) (tX3_isOfTwo h5) clok_3 F (gK_so g5) tw_571 tw_572 tw_573 tw_574 tw_115 ⟨by decide, by decide, show (parseMethodDescriptor yX3_isOfTwo.desc).map (fun d => d.parameters.length) = some 1 by decide +kernel⟩ ⟨by decide, by decide⟩ (Nat.le_of_ble_eq_true rfl) dX6_addKnown_5 ?_
  refine r_if_eq (tgt := 15) F (by decide) dX6_addKnown_8 (fun hc => ?_) (fun hc => ?_)
  · replace h := ite_p h hc
    refine r_iconst F rfl dX6_addKnown_15 ?_
    refine r_sub [0, 1, 2, 4] (ls' := [(0, vR l0), (1, vI l1), (2, vI l2), (4, vI l4)]) rfl ?_
    exact tX6_addKnown_16 F h
  · replace h := ite_n h hc
    refine r_iload_n (j := 3) F rfl rfl dX6_addKnown_11 ?_
    refine r_goto (tgt := 16) F (by decide) dX6_addKnown_12 ?_
    refine r_sub [0, 1, 2, 4] (ls' := [(0, vR l0), (1, vI l1), (2, vI l2), (4, vI l4)]) rfl ?_
    exact tX6_addKnown_16 F h
theorem tX8_init {l0 : Int} {M : Mem} {q : Int × Mem} (h : mX8_init l0 M = some q) : Ct 4 124 6724 yX8_init cX8_init 2 none [vR l0] M none q.2 := by
  unfold mX8_init at h
  refine Ct.of (by decide) (Nat.le_of_ble_eq_true rfl) ?_
  intro E p l e s m args below meth c F
  refine r_sub [0] (ls' := [(0, vR l0)]) rfl ?_
  refine r_aload_n (j := 0) F rfl rfl dX8_init_0 ?_
  replace h := bind_so h
  obtain ⟨_, h1, h⟩ := h
  refine r_objK (gK_so h1) (by decide) F tw_135 tw_136 tw_137 ⟨by decide, by decide⟩ (Nat.le_of_ble_eq_true rfl) dX8_init_1 ?_
  refine r_aload_n (j := 0) F rfl rfl dX8_init_4 ?_
  replace h := bind_so h
  obtain ⟨q5, h5, h⟩ := h
  refine r_newO clok_4 (by decide +kernel) F h5 tw_138 tw_139 tw_113 dX8_init_5 (by decide) ?_
  refine r_dup1 F rfl dX8_init_8 ?_
  replace h := bind_so h
  obtain ⟨_, g9, h⟩ := h
  replace h := bind_so h
  obtain ⟨q9, h9, h⟩ := h
  refine r_callIK (as := []) (rv := none) (kc := 62) (nc := 4280) (tX4_init h9) rfl (gK_so g9) (by decide) F tw_140 tw_141 rfl tw_142 tw_113 ⟨by decide, by decide, show (parseMethodDescriptor yX4_init.desc).map (fun d => d.parameters.length) = some 0 by decide +kernel⟩ ⟨by decide, by decide⟩ (Nat.le_of_ble_eq_true rfl) dX8_init_9 (by decide) ?_
  replace h := bind_so h
  obtain ⟨M12, h12, h⟩ := h
  refine r_putF clok_8 F (by decide) rfl rfl rfl (by decide) (by decide) h12 tw_487 dX8_init_12 ?_
  refine r_aload_n (j := 0) F rfl rfl dX8_init_15 ?_
  refine r_aload_n (j := 0) F rfl rfl dX8_init_16 ?_
  replace h := bind_so h
  obtain ⟨a17, h17, h⟩ := h
  refine r_getT (t := 2) rfl clok_8 F (by decide) h17 tw_487 dX8_init_17 ?_
  replace h := bind_so h
  obtain ⟨a20, h20, h⟩ := h
  refine r_getT (t := 2) rfl clok_4 F (by decide) h20 tw_367 dX8_init_20 ?_
  replace h := bind_so h
  obtain ⟨M23, h23, h⟩ := h
  refine r_putF clok_8 F (by decide) rfl rfl rfl (by decide) (by decide) h23 tw_488 dX8_init_23 ?_
  refine r_aload_n (j := 0) F rfl rfl dX8_init_26 ?_
  replace h := bind_so h
  obtain ⟨q27, h27, h⟩ := h
  refine r_newO clok_2 (by decide +kernel) F h27 tw_405 tw_406 tw_119 dX8_init_27 (by decide) ?_
  refine r_dup1 F rfl dX8_init_30 ?_
  replace h := bind_so h
  obtain ⟨_, g31, h⟩ := h
  replace h := bind_so h
  obtain ⟨q31, h31, h⟩ := h
  refine r_callINK (as := []) (rv := none) (kc := 7) (nc := 608) (tX2_init h31) rfl (gK_so g31) (by decide) F (by decide +kernel) tw_408 rfl tw_409 tw_119 ⟨by decide, by decide, show (parseMethodDescriptor yX2_init.desc).map (fun d => d.parameters.length) = some 0 by decide +kernel⟩ ⟨by decide, by decide⟩ (Nat.le_of_ble_eq_true rfl) dX8_init_31 (by decide) ?_
  replace h := bind_so h
  obtain ⟨M34, h34, h⟩ := h
  refine r_putF clok_8 F (by decide) rfl rfl rfl (by decide) (by decide) h34 tw_489 dX8_init_34 ?_
  refine r_aload_n (j := 0) F rfl rfl dX8_init_37 ?_
  refine r_iconst F rfl dX8_init_38 ?_
  replace h := bind_so h
  obtain ⟨q39, h39, h⟩ := h
  refine r_newqK15 (B := 3) (by decide) F h39 tw_484 dX8_init_39 (by decide) ?_
  replace h := bind_so h
  obtain ⟨M42, h42, h⟩ := h
  refine r_putF clok_8 F (by decide) rfl rfl rfl (by decide) (by decide) h42 tw_490 dX8_init_42 ?_
  refine r_aload_n (j := 0) F rfl rfl dX8_init_45 ?_
  refine r_iconst F rfl dX8_init_46 ?_
  replace h := bind_so h
  obtain ⟨q47, h47, h⟩ := h
  refine r_newaK11 (B := 3) (by decide) F h47 tw_287 dX8_init_47 (by decide) ?_
  replace h := bind_so h
  obtain ⟨M49, h49, h⟩ := h
  refine r_putF clok_8 F (by decide) rfl rfl rfl (by decide) (by decide) h49 tw_491 dX8_init_49 ?_
  refine r_iconst F rfl dX8_init_52 ?_
  refine r_istore_n (ls' := [(1, vI 0), (0, vR l0)]) F rfl (by decide) rfl dX8_init_53 ?_
  refine r_iload_n (j := 0) F rfl rfl dX8_init_54 ?_
  refine r_iconst F rfl dX8_init_55 ?_
  refine r_icmp_ge (tgt := 78) F (by decide) dX8_init_56 (fun hc => absurd hc (by decide)) (fun _ => ?_)
  refine r_aload_n (j := 1) F rfl rfl dX8_init_59 ?_
  replace h := bind_so h
  obtain ⟨a60, h60, h⟩ := h
  refine r_getT (t := 2) rfl clok_8 F (by decide) h60 tw_490 dX8_init_60 ?_
  refine r_iload_n (j := 0) F rfl rfl dX8_init_63 ?_
  replace h := bind_so h
  obtain ⟨q64, h64, h⟩ := h
  refine r_newO clok_6 (by decide +kernel) F h64 tw_484 tw_145 tw_114 dX8_init_64 (by decide) ?_
  refine r_dup1 F rfl dX8_init_67 ?_
  replace h := bind_so h
  obtain ⟨_, g68, h⟩ := h
  replace h := bind_so h
  obtain ⟨q68, h68, h⟩ := h
  refine r_callINK (as := []) (rv := none) (kc := 16) (nc := 583) (tX6_init h68) rfl (gK_so g68) (by decide) F (by decide +kernel) tw_147 rfl tw_148 tw_114 ⟨by decide, by decide, show (parseMethodDescriptor yX6_init.desc).map (fun d => d.parameters.length) = some 0 by decide +kernel⟩ ⟨by decide, by decide⟩ (Nat.le_of_ble_eq_true rfl) dX8_init_68 (by decide) ?_
  replace h := bind_so h
  obtain ⟨M71, h71, h⟩ := h
  refine r_aast15 F h71 dX8_init_71 ?_
  refine r_iinc (j := 0) (ls' := [(1, vI 1), (0, vR l0)]) F rfl (by decide) rfl dX8_init_72 ?_
  refine r_goto (tgt := 54) F (by decide) dX8_init_75 ?_
  refine r_iload_n (j := 0) F rfl rfl dX8_init_54 ?_
  refine r_iconst F rfl dX8_init_55 ?_
  refine r_icmp_ge (tgt := 78) F (by decide) dX8_init_56 (fun hc => absurd hc (by decide)) (fun _ => ?_)
  refine r_aload_n (j := 1) F rfl rfl dX8_init_59 ?_
  replace h := bind_so h
  obtain ⟨a60, h60, h⟩ := h
  refine r_getT (t := 2) rfl clok_8 F (by decide) h60 tw_490 dX8_init_60 ?_
  refine r_iload_n (j := 0) F rfl rfl dX8_init_63 ?_
  replace h := bind_so h
  obtain ⟨q64, h64, h⟩ := h
  refine r_newO clok_6 (by decide +kernel) F h64 tw_484 tw_145 tw_114 dX8_init_64 (by decide) ?_
  refine r_dup1 F rfl dX8_init_67 ?_
  replace h := bind_so h
  obtain ⟨_, g68, h⟩ := h
  replace h := bind_so h
  obtain ⟨q68, h68, h⟩ := h
  refine r_callINK (as := []) (rv := none) (kc := 16) (nc := 583) (tX6_init h68) rfl (gK_so g68) (by decide) F (by decide +kernel) tw_147 rfl tw_148 tw_114 ⟨by decide, by decide, show (parseMethodDescriptor yX6_init.desc).map (fun d => d.parameters.length) = some 0 by decide +kernel⟩ ⟨by decide, by decide⟩ (Nat.le_of_ble_eq_true rfl) dX8_init_68 (by decide) ?_
  replace h := bind_so h
  obtain ⟨M71, h71, h⟩ := h
  refine r_aast15 F h71 dX8_init_71 ?_
  refine r_iinc (j := 0) (ls' := [(1, vI 2), (0, vR l0)]) F rfl (by decide) rfl dX8_init_72 ?_
  refine r_goto (tgt := 54) F (by decide) dX8_init_75 ?_
  refine r_iload_n (j := 0) F rfl rfl dX8_init_54 ?_
  refine r_iconst F rfl dX8_init_55 ?_
  refine r_icmp_ge (tgt := 78) F (by decide) dX8_init_56 (fun hc => absurd hc (by decide)) (fun _ => ?_)
  refine r_aload_n (j := 1) F rfl rfl dX8_init_59 ?_
  replace h := bind_so h
  obtain ⟨a60, h60, h⟩ := h
  refine r_getT (t := 2) rfl clok_8 F (by decide) h60 tw_490 dX8_init_60 ?_
  refine r_iload_n (j := 0) F rfl rfl dX8_init_63 ?_
  replace h := bind_so h
  obtain ⟨q64, h64, h⟩ := h
  refine r_newO clok_6 (by decide +kernel) F h64 tw_484 tw_145 tw_114 dX8_init_64 (by decide) ?_
  refine r_dup1 F rfl dX8_init_67 ?_
  replace h := bind_so h
  obtain ⟨_, g68, h⟩ := h
  replace h := bind_so h
  obtain ⟨q68, h68, h⟩ := h
  refine r_callINK (as := []) (rv := none) (kc := 16) (nc := 583) (tX6_init h68) rfl (gK_so g68) (by decide) F (by decide +kernel) tw_147 rfl tw_148 tw_114 ⟨by decide, by decide, show (parseMethodDescriptor yX6_init.desc).map (fun d => d.parameters.length) = some 0 by decide +kernel⟩ ⟨by decide, by decide⟩ (Nat.le_of_ble_eq_true rfl) dX8_init_68 (by decide) ?_
  replace h := bind_so h
  obtain ⟨M71, h71, h⟩ := h
  refine r_aast15 F h71 dX8_init_71 ?_
  refine r_iinc (j := 0) (ls' := [(1, vI 3), (0, vR l0)]) F rfl (by decide) rfl dX8_init_72 ?_
  refine r_goto (tgt := 54) F (by decide) dX8_init_75 ?_
  refine r_iload_n (j := 0) F rfl rfl dX8_init_54 ?_
  refine r_iconst F rfl dX8_init_55 ?_
  refine r_icmp_ge (tgt := 78) F (by decide) dX8_init_56 (fun _ => ?_) (fun hc => absurd (by decide) hc)
  obtain rfl := Option.some.inj h
  exact r_vret F dX8_init_78
theorem tX8_size {l0 l1 l2 : Int} {M : Mem} {q : Int × Mem} (h : mX8_size l0 l1 l2 M = some q) : Ct 2 0 0 yX8_size cX8_size 3 (some FieldType.boolean) [vR l0, vI l1, vI l2] M (some (vI q.1)) q.2 := by
  unfold mX8_size at h
  refine Ct.of (by decide) (Nat.le_of_ble_eq_true rfl) ?_
  intro E p l e s m args below meth c F
  refine r_sub [0, 1, 2] (ls' := [(0, vR l0), (1, vI l1), (2, vI l2)]) rfl ?_
  refine r_aload_n (j := 0) F rfl rfl dX8_size_0 ?_
  replace h := bind_so h
  obtain ⟨a1, h1, h⟩ := h
  refine r_getT (t := 2) rfl clok_8 F (by decide) h1 tw_488 dX8_size_1 ?_
  replace h := bind_so h
  obtain ⟨a4, h4, h⟩ := h
  refine r_getT (t := 2) rfl clok_6 F (by decide) h4 tw_207 dX8_size_4 ?_
  refine r_iload_n (j := 1) F rfl rfl dX8_size_7 ?_
  refine r_iload_n (j := 2) F rfl rfl dX8_size_8 ?_
  replace h := bind_so h
  obtain ⟨_, g9, h⟩ := h
  replace h := bind_so h
  obtain ⟨q9, h9, h⟩ := h
  refine r_callV (as := [vI l1, vI l2]) (rv := (some (vI q9.1))) (kc := 0) (nc := 0) (tX3_resize h9) clok_3 F (gK_so g9) tw_507 tw_508 tw_509 tw_510 tw_115 ⟨by decide, by decide, show (parseMethodDescriptor yX3_resize.desc).map (fun d => d.parameters.length) = some 2 by decide +kernel⟩ ⟨by decide, by decide⟩ (Nat.le_of_ble_eq_true rfl) dX8_size_9 ?_
  refine r_if_ne (tgt := 17) F (by decide) dX8_size_12 (fun hc => ?_) (fun hc => ?_)
  · replace h := ite_n h hc
    refine r_aload_n (j := 0) F rfl rfl dX8_size_17 ?_
    replace h := bind_so h
    obtain ⟨a18, h18, h⟩ := h
    refine r_getT (t := 2) rfl clok_8 F (by decide) h18 tw_488 dX8_size_18 ?_
    replace h := bind_so h
    obtain ⟨_, g21, h⟩ := h
    replace h := bind_so h
    obtain ⟨q21, h21, h⟩ := h
    refine r_callV (as := []) (rv := none) (kc := 0) (nc := 0) (tX6_clearWorlds h21) clok_6 F (gK_so g21) tw_518 tw_519 tw_520 tw_521 tw_114 ⟨by decide, by decide, show (parseMethodDescriptor yX6_clearWorlds.desc).map (fun d => d.parameters.length) = some 0 by decide +kernel⟩ ⟨by decide, by decide⟩ (Nat.le_of_ble_eq_true rfl) dX8_size_21 ?_
    refine r_aload_n (j := 0) F rfl rfl dX8_size_24 ?_
    replace h := bind_so h
    obtain ⟨a25, h25, h⟩ := h
    refine r_getT (t := 2) rfl clok_8 F (by decide) h25 tw_487 dX8_size_25 ?_
    replace h := bind_so h
    obtain ⟨_, g28, h⟩ := h
    replace h := bind_so h
    obtain ⟨q28, h28, h⟩ := h
    refine r_callV (as := []) (rv := none) (kc := 0) (nc := 0) (tX4_forget h28) clok_4 F (gK_so g28) tw_522 tw_523 tw_524 tw_525 tw_113 ⟨by decide, by decide, show (parseMethodDescriptor yX4_forget.desc).map (fun d => d.parameters.length) = some 0 by decide +kernel⟩ ⟨by decide, by decide⟩ (Nat.le_of_ble_eq_true rfl) dX8_size_28 ?_
    refine r_iconst F rfl dX8_size_31 ?_
    obtain rfl := Option.some.inj h
    exact r_zret (Or.inr rfl) F dX8_size_32
  · replace h := ite_p h hc
    refine r_iconst F rfl dX8_size_15 ?_
    obtain rfl := Option.some.inj h
    exact r_zret (Or.inl rfl) F dX8_size_16
theorem tX8_relation_32 {E : En} {p : Program} {l : Launch} {e : Env} {s : State} {m : MethodId} {args : Array Value} {below : List Frame} {meth : Method} {c : Code} {q : Int × Mem} {l3 : Int} {M : Mem} (F : Fx E p s m args meth c cX8_relation 4 yX8_relation.cls (some FieldType.int) yX8_relation.name) (h : mX8_relation_32 l3 M = some q) : G E p l e (rmOf 2 0 0) s m args below meth c 4 (QZ E below args s (rmOf 2 0 0) (some (vI q.1)) q.2) 0 0 M 32 [(3, vI l3)] [] := by
  unfold mX8_relation_32 at h
  refine r_iload_n (j := 0) F rfl rfl dX8_relation_32 ?_
  obtain rfl := Option.some.inj h
  exact r_iret F dX8_relation_33
theorem tX8_relation {l0 l1 l2 : Int} {M : Mem} {q : Int × Mem} (h : mX8_relation l0 l1 l2 M = some q) : Ct 2 0 0 yX8_relation cX8_relation 4 (some FieldType.int) [vR l0, vI l1, vI l2] M (some (vI q.1)) q.2 := by
  unfold mX8_relation at h
  refine Ct.of (by decide) (Nat.le_of_ble_eq_true rfl) ?_
  intro E p l e s m args below meth c F
  refine r_sub [0, 1, 2] (ls' := [(0, vR l0), (1, vI l1), (2, vI l2)]) rfl ?_
  refine r_aload_n (j := 0) F rfl rfl dX8_relation_0 ?_
  replace h := bind_so h
  obtain ⟨a1, h1, h⟩ := h
  refine r_getT (t := 2) rfl clok_8 F (by decide) h1 tw_488 dX8_relation_1 ?_
  replace h := bind_so h
  obtain ⟨a4, h4, h⟩ := h
  refine r_getT (t := 2) rfl clok_6 F (by decide) h4 tw_207 dX8_relation_4 ?_
  refine r_iload_n (j := 1) F rfl rfl dX8_relation_7 ?_
  refine r_iload_n (j := 2) F rfl rfl dX8_relation_8 ?_
  replace h := bind_so h
  obtain ⟨_, g9, h⟩ := h
  replace h := bind_so h
  obtain ⟨q9, h9, h⟩ := h
  refine r_callV (as := [vI l1, vI l2]) (rv := (some (vI q9.1))) (kc := 0) (nc := 0) (tX3_addRelation h9) clok_3 F (gK_so g9) tw_534 tw_535 tw_536 tw_537 tw_115 ⟨by decide, by decide, show (parseMethodDescriptor yX3_addRelation.desc).map (fun d => d.parameters.length) = some 2 by decide +kernel⟩ ⟨by decide, by decide⟩ (Nat.le_of_ble_eq_true rfl) dX8_relation_9 ?_
  refine r_istore_n (ls' := [(3, vI q9.1), (0, vR l0), (1, vI l1), (2, vI l2)]) F rfl (by decide) rfl dX8_relation_12 ?_
  refine r_iload_n (j := 0) F rfl rfl dX8_relation_13 ?_
  refine r_iconst F rfl dX8_relation_14 ?_
  refine r_icmp_eq (tgt := 32) F (by decide) dX8_relation_15 (fun hc => ?_) (fun hc => ?_)
  · replace h := ite_p h hc
    refine r_sub [0] (ls' := [(3, vI q9.1)]) rfl ?_
    exact tX8_relation_32 F h
  · replace h := ite_n h hc
    refine r_aload_n (j := 1) F rfl rfl dX8_relation_18 ?_
    replace h := bind_so h
    obtain ⟨a19, h19, h⟩ := h
    refine r_getT (t := 2) rfl clok_8 F (by decide) h19 tw_488 dX8_relation_19 ?_
    replace h := bind_so h
    obtain ⟨_, g22, h⟩ := h
    replace h := bind_so h
    obtain ⟨q22, h22, h⟩ := h
    refine r_callV (as := []) (rv := none) (kc := 0) (nc := 0) (tX6_clearWorlds h22) clok_6 F (gK_so g22) tw_518 tw_519 tw_520 tw_521 tw_114 ⟨by decide, by decide, show (parseMethodDescriptor yX6_clearWorlds.desc).map (fun d => d.parameters.length) = some 0 by decide +kernel⟩ ⟨by decide, by decide⟩ (Nat.le_of_ble_eq_true rfl) dX8_relation_22 ?_
    refine r_aload_n (j := 1) F rfl rfl dX8_relation_25 ?_
    replace h := bind_so h
    obtain ⟨a26, h26, h⟩ := h
    refine r_getT (t := 2) rfl clok_8 F (by decide) h26 tw_487 dX8_relation_26 ?_
    replace h := bind_so h
    obtain ⟨_, g29, h⟩ := h
    replace h := bind_so h
    obtain ⟨q29, h29, h⟩ := h
    refine r_callV (as := []) (rv := none) (kc := 0) (nc := 0) (tX4_forget h29) clok_4 F (gK_so g29) tw_522 tw_523 tw_524 tw_525 tw_113 ⟨by decide, by decide, show (parseMethodDescriptor yX4_forget.desc).map (fun d => d.parameters.length) = some 0 by decide +kernel⟩ ⟨by decide, by decide⟩ (Nat.le_of_ble_eq_true rfl) dX8_relation_29 ?_
    refine r_sub [0] (ls' := [(3, vI q9.1)]) rfl ?_
    exact tX8_relation_32 F h
theorem tX8_facts {l0 : Int} {M : Mem} {q : Int × Mem} (h : mX8_facts l0 M = some q) : Ct 0 0 0 yX8_facts cX8_facts 1 (some FieldType.int) [vR l0] M (some (vI q.1)) q.2 := by
  unfold mX8_facts at h
  refine Ct.of (by decide) (Nat.le_of_ble_eq_true rfl) ?_
  intro E p l e s m args below meth c F
  refine r_sub [0] (ls' := [(0, vR l0)]) rfl ?_
  refine r_aload_n (j := 0) F rfl rfl dX8_facts_0 ?_
  replace h := bind_so h
  obtain ⟨a1, h1, h⟩ := h
  refine r_getT (t := 2) rfl clok_8 F (by decide) h1 tw_488 dX8_facts_1 ?_
  replace h := bind_so h
  obtain ⟨a4, h4, h⟩ := h
  refine r_getT (t := 2) rfl clok_6 F (by decide) h4 tw_207 dX8_facts_4 ?_
  replace h := bind_so h
  obtain ⟨a7, h7, h⟩ := h
  refine r_getT (t := 0) rfl clok_3 F (by decide) h7 tw_183 dX8_facts_7 ?_
  obtain rfl := Option.some.inj h
  exact r_iret F dX8_facts_10
theorem tX8_tell {l0 l1 l2 l3 l4 : Int} {M : Mem} {q : Int × Mem} (h : mX8_tell l0 l1 l2 l3 l4 M = some q) : Ct 2 0 0 yX8_tell cX8_tell 6 (some FieldType.boolean) [vR l0, vI l1, vI l2, vI l3, vI l4] M (some (vI q.1)) q.2 := by
  unfold mX8_tell at h
  refine Ct.of (by decide) (Nat.le_of_ble_eq_true rfl) ?_
  intro E p l e s m args below meth c F
  refine r_sub [0, 1, 2, 3, 4] (ls' := [(0, vR l0), (1, vI l1), (2, vI l2), (3, vI l3), (4, vI l4)]) rfl ?_
  refine r_aload_n (j := 0) F rfl rfl dX8_tell_0 ?_
  replace h := bind_so h
  obtain ⟨a1, h1, h⟩ := h
  refine r_getT (t := 2) rfl clok_8 F (by decide) h1 tw_488 dX8_tell_1 ?_
  replace h := bind_so h
  obtain ⟨a4, h4, h⟩ := h
  refine r_getT (t := 2) rfl clok_6 F (by decide) h4 tw_207 dX8_tell_4 ?_
  refine r_iload_n (j := 1) F rfl rfl dX8_tell_7 ?_
  refine r_iload_n (j := 2) F rfl rfl dX8_tell_8 ?_
  refine r_iload_n (j := 3) F rfl rfl dX8_tell_9 ?_
  replace h := bind_so h
  obtain ⟨_, g10, h⟩ := h
  replace h := bind_so h
  obtain ⟨q10, h10, h⟩ := h
  refine r_callV (as := [vI l1, vI l2, vI l3]) (rv := (some (vI q10.1))) (kc := 0) (nc := 0) (tX3_place h10) clok_3 F (gK_so g10) tw_546 tw_547 tw_548 tw_549 tw_115 ⟨by decide, by decide, show (parseMethodDescriptor yX3_place.desc).map (fun d => d.parameters.length) = some 3 by decide +kernel⟩ ⟨by decide, by decide⟩ (Nat.le_of_ble_eq_true rfl) dX8_tell_10 ?_
  refine r_istore (ls' := [(5, vI q10.1), (0, vR l0), (1, vI l1), (2, vI l2), (3, vI l3), (4, vI l4)]) F (by decide) rfl dX8_tell_13 ?_
  refine r_iload (j := 0) F rfl dX8_tell_15 ?_
  refine r_iconst F rfl dX8_tell_17 ?_
  refine r_icmp_eq (tgt := 35) F (by decide) dX8_tell_18 (fun hc => ?_) (fun hc => ?_)
  · replace h := ite_p h hc
    refine r_iconst F rfl dX8_tell_35 ?_
    obtain rfl := Option.some.inj h
    exact r_zret (Or.inl rfl) F dX8_tell_36
  · replace h := ite_n h hc
    refine r_aload_n (j := 1) F rfl rfl dX8_tell_21 ?_
    replace h := bind_so h
    obtain ⟨a22, h22, h⟩ := h
    refine r_getT (t := 2) rfl clok_8 F (by decide) h22 tw_488 dX8_tell_22 ?_
    refine r_iload (j := 0) F rfl dX8_tell_25 ?_
    replace h := bind_so h
    obtain ⟨_, g27, h⟩ := h
    replace h := bind_so h
    obtain ⟨q27, h27, h⟩ := h
    refine r_callV (as := [vI q10.1]) (rv := (some (vI q27.1))) (kc := 0) (nc := 0) (tX6_isSo h27) clok_6 F (gK_so g27) tw_550 tw_551 tw_552 tw_553 tw_114 ⟨by decide, by decide, show (parseMethodDescriptor yX6_isSo.desc).map (fun d => d.parameters.length) = some 1 by decide +kernel⟩ ⟨by decide, by decide⟩ (Nat.le_of_ble_eq_true rfl) dX8_tell_27 ?_
    refine r_iload (j := 5) F rfl dX8_tell_30 ?_
    refine r_icmp_ne (tgt := 37) F (by decide) dX8_tell_32 (fun hc => ?_) (fun hc => ?_)
    · replace h := ite_n h hc
      refine r_aload_n (j := 1) F rfl rfl dX8_tell_37 ?_
      replace h := bind_so h
      obtain ⟨a38, h38, h⟩ := h
      refine r_getT (t := 2) rfl clok_8 F (by decide) h38 tw_488 dX8_tell_38 ?_
      refine r_dup1 F rfl dX8_tell_41 ?_
      replace h := bind_so h
      obtain ⟨a42, h42, h⟩ := h
      refine r_getT (t := 1) rfl clok_6 F (by decide) h42 tw_211 dX8_tell_42 ?_
      refine r_lconst F dX8_tell_45 ?_
      refine r_eq (y := 1) rfl ?_
      refine r_aload_n (j := 1) F rfl rfl dX8_tell_46 ?_
      replace h := bind_so h
      obtain ⟨a47, h47, h⟩ := h
      refine r_getT (t := 2) rfl clok_8 F (by decide) h47 tw_488 dX8_tell_47 ?_
      replace h := bind_so h
      obtain ⟨a50, h50, h⟩ := h
      refine r_getT (t := 2) rfl clok_6 F (by decide) h50 tw_207 dX8_tell_50 ?_
      refine r_iload (j := 0) F rfl dX8_tell_53 ?_
      replace h := bind_so h
      obtain ⟨_, g55, h⟩ := h
      replace h := bind_so h
      obtain ⟨q55, h55, h⟩ := h
      refine r_callV (as := [vI q10.1]) (rv := (some (vI q55.1))) (kc := 0) (nc := 0) (tX3_bit h55) clok_3 F (gK_so g55) tw_558 tw_555 tw_556 tw_557 tw_115 ⟨by decide, by decide, show (parseMethodDescriptor yX3_bit.desc).map (fun d => d.parameters.length) = some 1 by decide +kernel⟩ ⟨by decide, by decide⟩ (Nat.le_of_ble_eq_true rfl) dX8_tell_55 ?_
      refine r_lshl F dX8_tell_58 ?_
      refine r_lxor F dX8_tell_59 ?_
      replace h := bind_so h
      obtain ⟨M60, h60, h⟩ := h
      refine r_put clok_6 F (by decide) rfl (by decide) (by decide) h60 tw_211 dX8_tell_60 ?_
      refine r_iconst F rfl dX8_tell_63 ?_
      obtain rfl := Option.some.inj h
      exact r_zret (Or.inr rfl) F dX8_tell_64
    · replace h := ite_p h hc
      refine r_iconst F rfl dX8_tell_35 ?_
      obtain rfl := Option.some.inj h
      exact r_zret (Or.inl rfl) F dX8_tell_36
theorem tX8_fact {l0 l1 l2 l3 : Int} {M : Mem} {q : Int × Mem} (h : mX8_fact l0 l1 l2 l3 M = some q) : Ct 2 0 0 yX8_fact cX8_fact 5 (some FieldType.int) [vR l0, vI l1, vI l2, vI l3] M (some (vI q.1)) q.2 := by
  unfold mX8_fact at h
  refine Ct.of (by decide) (Nat.le_of_ble_eq_true rfl) ?_
  intro E p l e s m args below meth c F
  refine r_sub [0, 1, 2, 3] (ls' := [(0, vR l0), (1, vI l1), (2, vI l2), (3, vI l3)]) rfl ?_
  refine r_aload_n (j := 0) F rfl rfl dX8_fact_0 ?_
  replace h := bind_so h
  obtain ⟨a1, h1, h⟩ := h
  refine r_getT (t := 2) rfl clok_8 F (by decide) h1 tw_488 dX8_fact_1 ?_
  replace h := bind_so h
  obtain ⟨a4, h4, h⟩ := h
  refine r_getT (t := 2) rfl clok_6 F (by decide) h4 tw_207 dX8_fact_4 ?_
  refine r_iload_n (j := 1) F rfl rfl dX8_fact_7 ?_
  refine r_iload_n (j := 2) F rfl rfl dX8_fact_8 ?_
  refine r_iload_n (j := 3) F rfl rfl dX8_fact_9 ?_
  replace h := bind_so h
  obtain ⟨_, g10, h⟩ := h
  replace h := bind_so h
  obtain ⟨q10, h10, h⟩ := h
  refine r_callV (as := [vI l1, vI l2, vI l3]) (rv := (some (vI q10.1))) (kc := 0) (nc := 0) (tX3_place h10) clok_3 F (gK_so g10) tw_546 tw_547 tw_548 tw_549 tw_115 ⟨by decide, by decide, show (parseMethodDescriptor yX3_place.desc).map (fun d => d.parameters.length) = some 3 by decide +kernel⟩ ⟨by decide, by decide⟩ (Nat.le_of_ble_eq_true rfl) dX8_fact_10 ?_
  refine r_istore (ls' := [(4, vI q10.1), (0, vR l0), (1, vI l1), (2, vI l2), (3, vI l3)]) F (by decide) rfl dX8_fact_13 ?_
  refine r_iload (j := 0) F rfl dX8_fact_15 ?_
  refine r_iconst F rfl dX8_fact_17 ?_
  refine r_icmp_ne (tgt := 23) F (by decide) dX8_fact_18 (fun hc => ?_) (fun hc => ?_)
  · replace h := ite_n h hc
    refine r_aload_n (j := 1) F rfl rfl dX8_fact_23 ?_
    replace h := bind_so h
    obtain ⟨a24, h24, h⟩ := h
    refine r_getT (t := 2) rfl clok_8 F (by decide) h24 tw_488 dX8_fact_24 ?_
    refine r_iload (j := 0) F rfl dX8_fact_27 ?_
    replace h := bind_so h
    obtain ⟨_, g29, h⟩ := h
    replace h := bind_so h
    obtain ⟨q29, h29, h⟩ := h
    refine r_callV (as := [vI q10.1]) (rv := (some (vI q29.1))) (kc := 0) (nc := 0) (tX6_isSo h29) clok_6 F (gK_so g29) tw_550 tw_551 tw_552 tw_553 tw_114 ⟨by decide, by decide, show (parseMethodDescriptor yX6_isSo.desc).map (fun d => d.parameters.length) = some 1 by decide +kernel⟩ ⟨by decide, by decide⟩ (Nat.le_of_ble_eq_true rfl) dX8_fact_29 ?_
    refine r_if_eq (tgt := 39) F (by decide) dX8_fact_32 (fun hc => ?_) (fun hc => ?_)
    · replace h := ite_p h hc
      refine r_iconst F rfl dX8_fact_39 ?_
      obtain rfl := Option.some.inj h
      exact r_iret F dX8_fact_40
    · replace h := ite_n h hc
      refine r_iconst F rfl dX8_fact_35 ?_
      refine r_goto (tgt := 40) F (by decide) dX8_fact_36 ?_
      obtain rfl := Option.some.inj h
      exact r_iret F dX8_fact_40
  · replace h := ite_p h hc
    refine r_iconst F rfl dX8_fact_21 ?_
    obtain rfl := Option.some.inj h
    exact r_iret F dX8_fact_22
theorem tX8_known {l0 l1 l2 l3 l4 : Int} {M : Mem} {q : Int × Mem} (h : mX8_known l0 l1 l2 l3 l4 M = some q) : Ct 2 0 0 yX8_known cX8_known 5 (some FieldType.boolean) [vR l0, vI l1, vI l2, vI l3, vI l4] M (some (vI q.1)) q.2 := by
  unfold mX8_known at h
  refine Ct.of (by decide) (Nat.le_of_ble_eq_true rfl) ?_
  intro E p l e s m args below meth c F
  refine r_sub [0, 1, 2, 3, 4] (ls' := [(0, vR l0), (1, vI l1), (2, vI l2), (3, vI l3), (4, vI l4)]) rfl ?_
  refine r_aload_n (j := 0) F rfl rfl dX8_known_0 ?_
  replace h := bind_so h
  obtain ⟨a1, h1, h⟩ := h
  refine r_getT (t := 2) rfl clok_8 F (by decide) h1 tw_488 dX8_known_1 ?_
  refine r_iload_n (j := 1) F rfl rfl dX8_known_4 ?_
  refine r_iload_n (j := 2) F rfl rfl dX8_known_5 ?_
  refine r_iload_n (j := 3) F rfl rfl dX8_known_6 ?_
  refine r_iload (j := 4) F rfl dX8_known_7 ?_
  replace h := bind_so h
  obtain ⟨_, g9, h⟩ := h
  replace h := bind_so h
  obtain ⟨q9, h9, h⟩ := h
  refine r_callV (as := [vI l1, vI l2, vI l3, vI l4]) (rv := (some (vI q9.1))) (kc := 0) (nc := 0) (tX6_addKnown h9) clok_6 F (gK_so g9) tw_567 tw_568 tw_569 tw_570 tw_114 ⟨by decide, by decide, show (parseMethodDescriptor yX6_addKnown.desc).map (fun d => d.parameters.length) = some 4 by decide +kernel⟩ ⟨by decide, by decide⟩ (Nat.le_of_ble_eq_true rfl) dX8_known_9 ?_
  replace h := bind_so h
  obtain ⟨z, hz, h⟩ := h
  obtain ⟨hz1, rfl⟩ := ite_so hz
  obtain rfl := Option.some.inj h
  exact r_zret hz1 F dX8_known_12
theorem tX8_keep {l0 l1 : Int} {M : Mem} {q : Int × Mem} (h : mX8_keep l0 l1 M = some q) : Ct 0 0 0 yX8_keep cX8_keep 2 (some FieldType.boolean) [vR l0, vI l1] M (some (vI q.1)) q.2 := by
  unfold mX8_keep at h
  refine Ct.of (by decide) (Nat.le_of_ble_eq_true rfl) ?_
  intro E p l e s m args below meth c F
  refine r_sub [0, 1] (ls' := [(0, vR l0), (1, vI l1)]) rfl ?_
  refine r_iload_n (j := 1) F rfl rfl dX8_keep_0 ?_
  refine r_if_lt (tgt := 9) F (by decide) dX8_keep_1 (fun hc => ?_) (fun hc => ?_)
  · replace h := ite_p h hc
    refine r_iconst F rfl dX8_keep_9 ?_
    obtain rfl := Option.some.inj h
    exact r_zret (Or.inl rfl) F dX8_keep_10
  · replace h := ite_n h hc
    refine r_iload_n (j := 1) F rfl rfl dX8_keep_4 ?_
    refine r_iconst F rfl dX8_keep_5 ?_
    refine r_icmp_lt (tgt := 11) F (by decide) dX8_keep_6 (fun hc => ?_) (fun hc => ?_)
    · replace h := ite_p h hc
      refine r_aload_n (j := 0) F rfl rfl dX8_keep_11 ?_
      replace h := bind_so h
      obtain ⟨a12, h12, h⟩ := h
      refine r_getT (t := 2) rfl clok_8 F (by decide) h12 tw_488 dX8_keep_12 ?_
      replace h := bind_so h
      obtain ⟨a15, h15, h⟩ := h
      refine r_getT (t := 2) rfl clok_6 F (by decide) h15 tw_214 dX8_keep_15 ?_
      refine r_iload_n (j := 1) F rfl rfl dX8_keep_18 ?_
      refine r_aload_n (j := 0) F rfl rfl dX8_keep_19 ?_
      replace h := bind_so h
      obtain ⟨a20, h20, h⟩ := h
      refine r_getT (t := 2) rfl clok_8 F (by decide) h20 tw_488 dX8_keep_20 ?_
      replace h := bind_so h
      obtain ⟨a23, h23, h⟩ := h
      refine r_getT (t := 1) rfl clok_6 F (by decide) h23 tw_211 dX8_keep_23 ?_
      replace h := bind_so h
      obtain ⟨M26, h26, h⟩ := h
      refine r_last F h26 dX8_keep_26 ?_
      refine r_aload_n (j := 0) F rfl rfl dX8_keep_27 ?_
      replace h := bind_so h
      obtain ⟨a28, h28, h⟩ := h
      refine r_getT (t := 2) rfl clok_8 F (by decide) h28 tw_488 dX8_keep_28 ?_
      replace h := bind_so h
      obtain ⟨a31, h31, h⟩ := h
      refine r_getT (t := 2) rfl clok_6 F (by decide) h31 tw_216 dX8_keep_31 ?_
      refine r_iload_n (j := 1) F rfl rfl dX8_keep_34 ?_
      refine r_iconst F rfl dX8_keep_35 ?_
      replace h := bind_so h
      obtain ⟨M36, h36, h⟩ := h
      refine r_zast F h36 dX8_keep_36 ?_
      refine r_iconst F rfl dX8_keep_37 ?_
      obtain rfl := Option.some.inj h
      exact r_zret (Or.inr rfl) F dX8_keep_38
    · replace h := ite_n h hc
      refine r_iconst F rfl dX8_keep_9 ?_
      obtain rfl := Option.some.inj h
      exact r_zret (Or.inl rfl) F dX8_keep_10
theorem tX8_apart {l0 l1 : Int} {M : Mem} {q : Int × Mem} (h : mX8_apart l0 l1 M = some q) : Ct 5 0 0 yX8_apart cX8_apart 2 (some FieldType.int) [vR l0, vI l1] M (some (vI q.1)) q.2 := by
  unfold mX8_apart at h
  refine Ct.of (by decide) (Nat.le_of_ble_eq_true rfl) ?_
  intro E p l e s m args below meth c F
  refine r_sub [0, 1] (ls' := [(0, vR l0), (1, vI l1)]) rfl ?_
  refine r_iload_n (j := 1) F rfl rfl dX8_apart_0 ?_
  refine r_if_lt (tgt := 21) F (by decide) dX8_apart_1 (fun hc => ?_) (fun hc => ?_)
  · replace h := ite_p h hc
    refine r_iconst F rfl dX8_apart_21 ?_
    obtain rfl := Option.some.inj h
    exact r_iret F dX8_apart_22
  · replace h := ite_n h hc
    refine r_iload_n (j := 1) F rfl rfl dX8_apart_4 ?_
    refine r_iconst F rfl dX8_apart_5 ?_
    refine r_icmp_ge (tgt := 21) F (by decide) dX8_apart_6 (fun hc => ?_) (fun hc => ?_)
    · replace h := ite_p h hc
      refine r_iconst F rfl dX8_apart_21 ?_
      obtain rfl := Option.some.inj h
      exact r_iret F dX8_apart_22
    · replace h := ite_n h hc
      refine r_aload_n (j := 0) F rfl rfl dX8_apart_9 ?_
      replace h := bind_so h
      obtain ⟨a10, h10, h⟩ := h
      refine r_getT (t := 2) rfl clok_8 F (by decide) h10 tw_488 dX8_apart_10 ?_
      replace h := bind_so h
      obtain ⟨a13, h13, h⟩ := h
      refine r_getT (t := 2) rfl clok_6 F (by decide) h13 tw_216 dX8_apart_13 ?_
      refine r_iload_n (j := 1) F rfl rfl dX8_apart_16 ?_
      replace h := bind_so h
      obtain ⟨a17, h17, h⟩ := h
      refine r_zald F h17 dX8_apart_17 ?_
      refine r_if_ne (tgt := 23) F (by decide) dX8_apart_18 (fun hc => ?_) (fun hc => ?_)
      · replace h := ite_n h hc
        refine r_aload_n (j := 0) F rfl rfl dX8_apart_23 ?_
        replace h := bind_so h
        obtain ⟨a24, h24, h⟩ := h
        refine r_getT (t := 2) rfl clok_8 F (by decide) h24 tw_487 dX8_apart_24 ?_
        refine r_aload_n (j := 0) F rfl rfl dX8_apart_27 ?_
        replace h := bind_so h
        obtain ⟨a28, h28, h⟩ := h
        refine r_getT (t := 2) rfl clok_8 F (by decide) h28 tw_488 dX8_apart_28 ?_
        replace h := bind_so h
        obtain ⟨a31, h31, h⟩ := h
        refine r_getT (t := 2) rfl clok_6 F (by decide) h31 tw_214 dX8_apart_31 ?_
        refine r_iload_n (j := 1) F rfl rfl dX8_apart_34 ?_
        replace h := bind_so h
        obtain ⟨a35, h35, h⟩ := h
        refine r_lald F h35 dX8_apart_35 ?_
        replace h := bind_so h
        obtain ⟨_, g36, h⟩ := h
        replace h := bind_so h
        obtain ⟨q36, h36, h⟩ := h
        refine r_callV (as := [vL a35]) (rv := (some (vI q36.1))) (kc := 0) (nc := 0) (tX4_fewestApart h36) clok_4 F (gK_so g36) tw_587 tw_588 tw_589 tw_590 tw_113 ⟨by decide, by decide, show (parseMethodDescriptor yX4_fewestApart.desc).map (fun d => d.parameters.length) = some 1 by decide +kernel⟩ ⟨by decide, by decide⟩ (Nat.le_of_ble_eq_true rfl) dX8_apart_36 ?_
        obtain rfl := Option.some.inj h
        exact r_iret F dX8_apart_39
      · replace h := ite_p h hc
        refine r_iconst F rfl dX8_apart_21 ?_
        obtain rfl := Option.some.inj h
        exact r_iret F dX8_apart_22
theorem tX8_feed {l0 l1 l2 l3 l4 l5 : Int} {M : Mem} {q : Int × Mem} (h : mX8_feed l0 l1 l2 l3 l4 l5 M = some q) : Ct 1 0 0 yX8_feed cX8_feed 6 (some FieldType.int) [vR l0, vI l1, vI l2, vI l3, vI l4, vI l5] M (some (vI q.1)) q.2 := by
  unfold mX8_feed at h
  refine Ct.of (by decide) (Nat.le_of_ble_eq_true rfl) ?_
  intro E p l e s m args below meth c F
  refine r_sub [0, 1, 2, 3, 4, 5] (ls' := [(0, vR l0), (1, vI l1), (2, vI l2), (3, vI l3), (4, vI l4), (5, vI l5)]) rfl ?_
  refine r_aload_n (j := 0) F rfl rfl dX8_feed_0 ?_
  replace h := bind_so h
  obtain ⟨a1, h1, h⟩ := h
  refine r_getT (t := 2) rfl clok_8 F (by decide) h1 tw_488 dX8_feed_1 ?_
  replace h := bind_so h
  obtain ⟨a4, h4, h⟩ := h
  refine r_getT (t := 0) rfl clok_6 F (by decide) h4 tw_221 dX8_feed_4 ?_
  refine r_bipush F rfl (by decide) dX8_feed_7 ?_
  refine r_iadd F dX8_feed_9 ?_
  refine r_sipush F rfl (by decide) dX8_feed_10 ?_
  refine r_icmp_le (tgt := 18) F (by decide) dX8_feed_13 (fun hc => ?_) (fun hc => ?_)
  · replace h := ite_p h hc
    refine r_aload_n (j := 0) F rfl rfl dX8_feed_18 ?_
    replace h := bind_so h
    obtain ⟨a19, h19, h⟩ := h
    refine r_getT (t := 2) rfl clok_8 F (by decide) h19 tw_488 dX8_feed_19 ?_
    refine r_iload_n (j := 1) F rfl rfl dX8_feed_22 ?_
    replace h := bind_so h
    obtain ⟨_, g23, h⟩ := h
    replace h := bind_so h
    obtain ⟨q23, h23, h⟩ := h
    refine r_callV (as := [vI l1]) (rv := none) (kc := 0) (nc := 0) (tX6_addBytes h23) clok_6 F (gK_so g23) tw_636 tw_637 tw_638 tw_639 tw_114 ⟨by decide, by decide, show (parseMethodDescriptor yX6_addBytes.desc).map (fun d => d.parameters.length) = some 1 by decide +kernel⟩ ⟨by decide, by decide⟩ (Nat.le_of_ble_eq_true rfl) dX8_feed_23 ?_
    refine r_aload_n (j := 0) F rfl rfl dX8_feed_26 ?_
    replace h := bind_so h
    obtain ⟨a27, h27, h⟩ := h
    refine r_getT (t := 2) rfl clok_8 F (by decide) h27 tw_488 dX8_feed_27 ?_
    refine r_iload_n (j := 2) F rfl rfl dX8_feed_30 ?_
    replace h := bind_so h
    obtain ⟨_, g31, h⟩ := h
    replace h := bind_so h
    obtain ⟨q31, h31, h⟩ := h
    refine r_callV (as := [vI l2]) (rv := none) (kc := 0) (nc := 0) (tX6_addBytes h31) clok_6 F (gK_so g31) tw_636 tw_637 tw_638 tw_639 tw_114 ⟨by decide, by decide, show (parseMethodDescriptor yX6_addBytes.desc).map (fun d => d.parameters.length) = some 1 by decide +kernel⟩ ⟨by decide, by decide⟩ (Nat.le_of_ble_eq_true rfl) dX8_feed_31 ?_
    refine r_aload_n (j := 0) F rfl rfl dX8_feed_34 ?_
    replace h := bind_so h
    obtain ⟨a35, h35, h⟩ := h
    refine r_getT (t := 2) rfl clok_8 F (by decide) h35 tw_488 dX8_feed_35 ?_
    refine r_iload_n (j := 3) F rfl rfl dX8_feed_38 ?_
    replace h := bind_so h
    obtain ⟨_, g39, h⟩ := h
    replace h := bind_so h
    obtain ⟨q39, h39, h⟩ := h
    refine r_callV (as := [vI l3]) (rv := none) (kc := 0) (nc := 0) (tX6_addBytes h39) clok_6 F (gK_so g39) tw_636 tw_637 tw_638 tw_639 tw_114 ⟨by decide, by decide, show (parseMethodDescriptor yX6_addBytes.desc).map (fun d => d.parameters.length) = some 1 by decide +kernel⟩ ⟨by decide, by decide⟩ (Nat.le_of_ble_eq_true rfl) dX8_feed_39 ?_
    refine r_aload_n (j := 0) F rfl rfl dX8_feed_42 ?_
    replace h := bind_so h
    obtain ⟨a43, h43, h⟩ := h
    refine r_getT (t := 2) rfl clok_8 F (by decide) h43 tw_488 dX8_feed_43 ?_
    refine r_iload (j := 4) F rfl dX8_feed_46 ?_
    replace h := bind_so h
    obtain ⟨_, g48, h⟩ := h
    replace h := bind_so h
    obtain ⟨q48, h48, h⟩ := h
    refine r_callV (as := [vI l4]) (rv := none) (kc := 0) (nc := 0) (tX6_addBytes h48) clok_6 F (gK_so g48) tw_636 tw_637 tw_638 tw_639 tw_114 ⟨by decide, by decide, show (parseMethodDescriptor yX6_addBytes.desc).map (fun d => d.parameters.length) = some 1 by decide +kernel⟩ ⟨by decide, by decide⟩ (Nat.le_of_ble_eq_true rfl) dX8_feed_48 ?_
    refine r_aload_n (j := 0) F rfl rfl dX8_feed_51 ?_
    replace h := bind_so h
    obtain ⟨a52, h52, h⟩ := h
    refine r_getT (t := 2) rfl clok_8 F (by decide) h52 tw_488 dX8_feed_52 ?_
    refine r_iload (j := 5) F rfl dX8_feed_55 ?_
    replace h := bind_so h
    obtain ⟨_, g57, h⟩ := h
    replace h := bind_so h
    obtain ⟨q57, h57, h⟩ := h
    refine r_callV (as := [vI l5]) (rv := none) (kc := 0) (nc := 0) (tX6_addBytes h57) clok_6 F (gK_so g57) tw_636 tw_637 tw_638 tw_639 tw_114 ⟨by decide, by decide, show (parseMethodDescriptor yX6_addBytes.desc).map (fun d => d.parameters.length) = some 1 by decide +kernel⟩ ⟨by decide, by decide⟩ (Nat.le_of_ble_eq_true rfl) dX8_feed_57 ?_
    refine r_aload_n (j := 0) F rfl rfl dX8_feed_60 ?_
    replace h := bind_so h
    obtain ⟨a61, h61, h⟩ := h
    refine r_getT (t := 2) rfl clok_8 F (by decide) h61 tw_488 dX8_feed_61 ?_
    replace h := bind_so h
    obtain ⟨a64, h64, h⟩ := h
    refine r_getT (t := 0) rfl clok_6 F (by decide) h64 tw_221 dX8_feed_64 ?_
    obtain rfl := Option.some.inj h
    exact r_iret F dX8_feed_67
  · replace h := ite_n h hc
    refine r_iconst F rfl dX8_feed_16 ?_
    obtain rfl := Option.some.inj h
    exact r_iret F dX8_feed_17
theorem tX8_end {l0 l1 : Int} {M : Mem} {q : Int × Mem} (h : mX8_end l0 l1 M = some q) : Ct 0 0 0 yX8_end cX8_end 2 (some FieldType.int) [vR l0, vI l1] M (some (vI q.1)) q.2 := by
  unfold mX8_end at h
  refine Ct.of (by decide) (Nat.le_of_ble_eq_true rfl) ?_
  intro E p l e s m args below meth c F
  refine r_sub [0, 1] (ls' := [(0, vR l0), (1, vI l1)]) rfl ?_
  refine r_iload_n (j := 1) F rfl rfl dX8_end_0 ?_
  refine r_if_lt (tgt := 15) F (by decide) dX8_end_1 (fun hc => ?_) (fun hc => ?_)
  · replace h := ite_p h hc
    refine r_iconst F rfl dX8_end_15 ?_
    obtain rfl := Option.some.inj h
    exact r_iret F dX8_end_16
  · replace h := ite_n h hc
    refine r_iload_n (j := 1) F rfl rfl dX8_end_4 ?_
    refine r_aload_n (j := 0) F rfl rfl dX8_end_5 ?_
    replace h := bind_so h
    obtain ⟨a6, h6, h⟩ := h
    refine r_getT (t := 2) rfl clok_8 F (by decide) h6 tw_488 dX8_end_6 ?_
    replace h := bind_so h
    obtain ⟨a9, h9, h⟩ := h
    refine r_getT (t := 0) rfl clok_6 F (by decide) h9 tw_221 dX8_end_9 ?_
    refine r_icmp_le (tgt := 17) F (by decide) dX8_end_12 (fun hc => ?_) (fun hc => ?_)
    · replace h := ite_p h hc
      refine r_aload_n (j := 0) F rfl rfl dX8_end_17 ?_
      replace h := bind_so h
      obtain ⟨a18, h18, h⟩ := h
      refine r_getT (t := 2) rfl clok_8 F (by decide) h18 tw_488 dX8_end_18 ?_
      refine r_iload_n (j := 1) F rfl rfl dX8_end_21 ?_
      replace h := bind_so h
      obtain ⟨M22, h22, h⟩ := h
      refine r_put clok_6 F (by decide) rfl (by decide) (by decide) h22 tw_221 dX8_end_22 ?_
      refine r_iload_n (j := 1) F rfl rfl dX8_end_25 ?_
      obtain rfl := Option.some.inj h
      exact r_iret F dX8_end_26
    · replace h := ite_n h hc
      refine r_iconst F rfl dX8_end_15 ?_
      obtain rfl := Option.some.inj h
      exact r_iret F dX8_end_16
theorem tX8_story {l0 : Int} {M : Mem} {q : Int × Mem} (h : mX8_story l0 M = some q) : Ct 11 6 206 yX8_story cX8_story 2 (some FieldType.int) [vR l0] M (some (vI q.1)) q.2 := by
  unfold mX8_story at h
  refine Ct.of (by decide) (Nat.le_of_ble_eq_true rfl) ?_
  intro E p l e s m args below meth c F
  refine r_sub [0] (ls' := [(0, vR l0)]) rfl ?_
  refine r_aload_n (j := 0) F rfl rfl dX8_story_0 ?_
  replace h := bind_so h
  obtain ⟨a1, h1, h⟩ := h
  refine r_getT (t := 2) rfl clok_8 F (by decide) h1 tw_488 dX8_story_1 ?_
  replace h := bind_so h
  obtain ⟨a4, h4, h⟩ := h
  refine r_getT (t := 0) rfl clok_6 F (by decide) h4 tw_234 dX8_story_4 ?_
  refine r_bipush F rfl (by decide) dX8_story_7 ?_
  refine r_icmp_lt (tgt := 22) F (by decide) dX8_story_9 (fun hc => ?_) (fun hc => ?_)
  · replace h := ite_p h hc
    refine r_aload_n (j := 0) F rfl rfl dX8_story_22 ?_
    replace h := bind_so h
    obtain ⟨a23, h23, h⟩ := h
    refine r_getT (t := 2) rfl clok_8 F (by decide) h23 tw_489 dX8_story_23 ?_
    refine r_aload_n (j := 0) F rfl rfl dX8_story_26 ?_
    replace h := bind_so h
    obtain ⟨a27, h27, h⟩ := h
    refine r_getT (t := 2) rfl clok_8 F (by decide) h27 tw_488 dX8_story_27 ?_
    replace h := bind_so h
    obtain ⟨_, g30, h⟩ := h
    replace h := bind_so h
    obtain ⟨q30, h30, h⟩ := h
    refine r_callVK (as := [vR a27]) (rv := (some (vR q30.1))) (kc := 6) (nc := 206) (tX2_read h30) clok_2 F (gK_so g30) tw_652 tw_653 tw_654 tw_655 tw_119 ⟨by decide, by decide, show (parseMethodDescriptor yX2_read.desc).map (fun d => d.parameters.length) = some 1 by decide +kernel⟩ ⟨by decide, by decide⟩ (Nat.le_of_ble_eq_true rfl) dX8_story_30 (by decide) ?_
    refine r_astore_n (ls' := [(1, vR q30.1), (0, vR l0)]) F rfl (by decide) rfl dX8_story_33 ?_
    refine r_aload_n (j := 0) F rfl rfl dX8_story_34 ?_
    refine r_ifnonnull (tgt := 42) F (by decide) dX8_story_35 (fun hc => ?_) (fun hc => ?_)
    · replace h := ite_n h hc
      refine r_aload_n (j := 1) F rfl rfl dX8_story_42 ?_
      replace h := bind_so h
      obtain ⟨a43, h43, h⟩ := h
      refine r_getT (t := 2) rfl clok_8 F (by decide) h43 tw_488 dX8_story_43 ?_
      refine r_aload_n (j := 0) F rfl rfl dX8_story_46 ?_
      replace h := bind_so h
      obtain ⟨_, g47, h⟩ := h
      replace h := bind_so h
      obtain ⟨q47, h47, h⟩ := h
      refine r_callVK (as := [vR q30.1]) (rv := (some (vI q47.1))) (kc := 0) (nc := 0) (tX6_addStory h47) clok_6 F (gK_so g47) tw_845 tw_846 tw_847 tw_848 tw_114 ⟨by decide, by decide, show (parseMethodDescriptor yX6_addStory.desc).map (fun d => d.parameters.length) = some 1 by decide +kernel⟩ ⟨by decide, by decide⟩ (Nat.le_of_ble_eq_true rfl) dX8_story_47 (by decide) ?_
      obtain rfl := Option.some.inj h
      exact r_iret F dX8_story_50
    · replace h := ite_p h hc
      refine r_iconst F rfl dX8_story_38 ?_
      refine r_goto (tgt := 50) F (by decide) dX8_story_39 ?_
      obtain rfl := Option.some.inj h
      exact r_iret F dX8_story_50
  · replace h := ite_n h hc
    refine r_aload_n (j := 0) F rfl rfl dX8_story_12 ?_
    replace h := bind_so h
    obtain ⟨a13, h13, h⟩ := h
    refine r_getT (t := 2) rfl clok_8 F (by decide) h13 tw_488 dX8_story_13 ?_
    replace h := bind_so h
    obtain ⟨_, g16, h⟩ := h
    replace h := bind_so h
    obtain ⟨q16, h16, h⟩ := h
    refine r_callVK (as := []) (rv := none) (kc := 0) (nc := 0) (tX6_clearTape h16) clok_6 F (gK_so g16) tw_648 tw_649 tw_650 tw_651 tw_114 ⟨by decide, by decide, show (parseMethodDescriptor yX6_clearTape.desc).map (fun d => d.parameters.length) = some 0 by decide +kernel⟩ ⟨by decide, by decide⟩ (Nat.le_of_ble_eq_true rfl) dX8_story_16 (by decide) ?_
    refine r_bipush F rfl (by decide) dX8_story_19 ?_
    obtain rfl := Option.some.inj h
    exact r_iret F dX8_story_21
theorem tX8_guess {l0 : Int} {M : Mem} {q : Int × Mem} (h : mX8_guess l0 M = some q) : Ct 11 6 206 yX8_guess cX8_guess 2 (some FieldType.int) [vR l0] M (some (vI q.1)) q.2 := by
  unfold mX8_guess at h
  refine Ct.of (by decide) (Nat.le_of_ble_eq_true rfl) ?_
  intro E p l e s m args below meth c F
  refine r_sub [0] (ls' := [(0, vR l0)]) rfl ?_
  refine r_aload_n (j := 0) F rfl rfl dX8_guess_0 ?_
  replace h := bind_so h
  obtain ⟨a1, h1, h⟩ := h
  refine r_getT (t := 2) rfl clok_8 F (by decide) h1 tw_489 dX8_guess_1 ?_
  refine r_aload_n (j := 0) F rfl rfl dX8_guess_4 ?_
  replace h := bind_so h
  obtain ⟨a5, h5, h⟩ := h
  refine r_getT (t := 2) rfl clok_8 F (by decide) h5 tw_488 dX8_guess_5 ?_
  replace h := bind_so h
  obtain ⟨_, g8, h⟩ := h
  replace h := bind_so h
  obtain ⟨q8, h8, h⟩ := h
  refine r_callVK (as := [vR a5]) (rv := (some (vR q8.1))) (kc := 6) (nc := 206) (tX2_read h8) clok_2 F (gK_so g8) tw_652 tw_653 tw_654 tw_655 tw_119 ⟨by decide, by decide, show (parseMethodDescriptor yX2_read.desc).map (fun d => d.parameters.length) = some 1 by decide +kernel⟩ ⟨by decide, by decide⟩ (Nat.le_of_ble_eq_true rfl) dX8_guess_8 (by decide) ?_
  refine r_astore_n (ls' := [(1, vR q8.1), (0, vR l0)]) F rfl (by decide) rfl dX8_guess_11 ?_
  refine r_aload_n (j := 0) F rfl rfl dX8_guess_12 ?_
  refine r_ifnonnull (tgt := 18) F (by decide) dX8_guess_13 (fun hc => ?_) (fun hc => ?_)
  · replace h := ite_n h hc
    refine r_aload_n (j := 1) F rfl rfl dX8_guess_18 ?_
    replace h := bind_so h
    obtain ⟨a19, h19, h⟩ := h
    refine r_getT (t := 2) rfl clok_8 F (by decide) h19 tw_488 dX8_guess_19 ?_
    refine r_aload_n (j := 0) F rfl rfl dX8_guess_22 ?_
    replace h := bind_so h
    obtain ⟨M23, h23, h⟩ := h
    refine r_put clok_6 F (by decide) rfl (by decide) (by decide) h23 tw_236 dX8_guess_23 ?_
    refine r_aload_n (j := 1) F rfl rfl dX8_guess_26 ?_
    replace h := bind_so h
    obtain ⟨a27, h27, h⟩ := h
    refine r_getT (t := 2) rfl clok_8 F (by decide) h27 tw_487 dX8_guess_27 ?_
    replace h := bind_so h
    obtain ⟨_, g30, h⟩ := h
    replace h := bind_so h
    obtain ⟨q30, h30, h⟩ := h
    refine r_callVK (as := []) (rv := none) (kc := 0) (nc := 0) (tX4_forgetGuess h30) clok_4 F (gK_so g30) tw_854 tw_855 tw_856 tw_857 tw_113 ⟨by decide, by decide, show (parseMethodDescriptor yX4_forgetGuess.desc).map (fun d => d.parameters.length) = some 0 by decide +kernel⟩ ⟨by decide, by decide⟩ (Nat.le_of_ble_eq_true rfl) dX8_guess_30 (by decide) ?_
    refine r_aload_n (j := 0) F rfl rfl dX8_guess_33 ?_
    replace h := bind_so h
    obtain ⟨a34, h34, h⟩ := h
    refine r_getT (t := 0) rfl clok_5 F (by decide) h34 tw_433 dX8_guess_34 ?_
    obtain rfl := Option.some.inj h
    exact r_iret F dX8_guess_37
  · replace h := ite_p h hc
    refine r_iconst F rfl dX8_guess_16 ?_
    obtain rfl := Option.some.inj h
    exact r_iret F dX8_guess_17
