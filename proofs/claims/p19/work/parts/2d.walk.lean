theorem tX2_readTree {l0 : Int} {M : Mem} {q : Int × Mem} (h : mX2_readTree l0 M = some q) : Ct 4 0 0 yX2_readTree cX2_readTree 1 none [vR l0] M none q.2 := by
  unfold mX2_readTree at h
  refine Ct.of (by decide) (Nat.le_of_ble_eq_true rfl) ?_
  intro E p l e s m args below meth c F
  refine r_sub [0] (ls' := [(0, vR l0)]) rfl ?_
  refine r_aload_n (j := 0) F rfl rfl dX2_readTree_0 ?_
  replace h := bind_so h
  obtain ⟨_, g1, h⟩ := h
  replace h := bind_so h
  obtain ⟨q1, h1, h⟩ := h
  refine r_callV (as := []) (rv := none) (kc := 0) (nc := 0) (tX2_advance h1) clok_2 F (gK_so g1) tw_661 tw_663 tw_7 tw_664 tw_119 ⟨by decide, by decide, show (parseMethodDescriptor yX2_advance.desc).map (fun d => d.parameters.length) = some 0 by decide +kernel⟩ ⟨by decide, by decide⟩ (Nat.le_of_ble_eq_true rfl) dX2_readTree_1 ?_
  refine r_aload_n (j := 0) F rfl rfl dX2_readTree_4 ?_
  replace h := bind_so h
  obtain ⟨a5, h5, h⟩ := h
  refine r_getT (t := 2) rfl clok_2 F (by decide) h5 tw_452 dX2_readTree_5 ?_
  refine r_bipush F rfl (by decide) dX2_readTree_8 ?_
  refine r_aload_n (j := 0) F rfl rfl dX2_readTree_10 ?_
  replace h := bind_so h
  obtain ⟨_, g11, h⟩ := h
  replace h := bind_so h
  obtain ⟨q11, h11, h⟩ := h
  refine r_callV (as := []) (rv := (some (vI q11.1))) (kc := 0) (nc := 0) (tX2_takeRoad h11) clok_2 F (gK_so g11) tw_810 tw_812 tw_24 tw_813 tw_119 ⟨by decide, by decide, show (parseMethodDescriptor yX2_takeRoad.desc).map (fun d => d.parameters.length) = some 0 by decide +kernel⟩ ⟨by decide, by decide⟩ (Nat.le_of_ble_eq_true rfl) dX2_readTree_11 ?_
  refine r_iconst F rfl dX2_readTree_14 ?_
  refine r_iconst F rfl dX2_readTree_15 ?_
  replace h := bind_so h
  obtain ⟨_, g16, h⟩ := h
  replace h := bind_so h
  obtain ⟨q16, h16, h⟩ := h
  refine r_callV (as := [vI 10, vI q11.1, vI 0, vI 0]) (rv := none) (kc := 0) (nc := 0) (tX5_write h16) clok_5 F (gK_so g16) tw_780 tw_781 tw_782 tw_783 tw_120 ⟨by decide, by decide, show (parseMethodDescriptor yX5_write.desc).map (fun d => d.parameters.length) = some 4 by decide +kernel⟩ ⟨by decide, by decide⟩ (Nat.le_of_ble_eq_true rfl) dX2_readTree_16 ?_
  obtain rfl := Option.some.inj h
  exact r_vret F dX2_readTree_19
theorem tX3_isOfTwo {l0 l1 : Int} {M : Mem} {q : Int × Mem} (h : mX3_isOfTwo l0 l1 M = some q) : Ct 0 0 0 yX3_isOfTwo cX3_isOfTwo 2 (some FieldType.boolean) [vR l0, vI l1] M (some (vI q.1)) q.2 := by
  unfold mX3_isOfTwo at h
  refine Ct.of (by decide) (Nat.le_of_ble_eq_true rfl) ?_
  intro E p l e s m args below meth c F
  refine r_sub [0, 1] (ls' := [(0, vR l0), (1, vI l1)]) rfl ?_
  refine r_iload_n (j := 1) F rfl rfl dX3_isOfTwo_0 ?_
  refine r_if_lt (tgt := 26) F (by decide) dX3_isOfTwo_1 (fun hc => ?_) (fun hc => ?_)
  · replace h := ite_p h hc
    refine r_iconst F rfl dX3_isOfTwo_26 ?_
    obtain rfl := Option.some.inj h
    exact r_zret (Or.inl rfl) F dX3_isOfTwo_27
  · replace h := ite_n h hc
    refine r_iload_n (j := 1) F rfl rfl dX3_isOfTwo_4 ?_
    refine r_aload_n (j := 0) F rfl rfl dX3_isOfTwo_5 ?_
    replace h := bind_so h
    obtain ⟨a6, h6, h⟩ := h
    refine r_getT (t := 0) rfl clok_3 F (by decide) h6 tw_177 dX3_isOfTwo_6 ?_
    refine r_icmp_ge (tgt := 26) F (by decide) dX3_isOfTwo_9 (fun hc => ?_) (fun hc => ?_)
    · replace h := ite_p h hc
      refine r_iconst F rfl dX3_isOfTwo_26 ?_
      obtain rfl := Option.some.inj h
      exact r_zret (Or.inl rfl) F dX3_isOfTwo_27
    · replace h := ite_n h hc
      refine r_aload_n (j := 0) F rfl rfl dX3_isOfTwo_12 ?_
      replace h := bind_so h
      obtain ⟨a13, h13, h⟩ := h
      refine r_getT (t := 2) rfl clok_3 F (by decide) h13 tw_164 dX3_isOfTwo_13 ?_
      refine r_iload_n (j := 1) F rfl rfl dX3_isOfTwo_16 ?_
      replace h := bind_so h
      obtain ⟨a17, h17, h⟩ := h
      refine r_iald F h17 dX3_isOfTwo_17 ?_
      refine r_iconst F rfl dX3_isOfTwo_18 ?_
      refine r_icmp_eq (tgt := 26) F (by decide) dX3_isOfTwo_19 (fun hc => ?_) (fun hc => ?_)
      · replace h := ite_p h hc
        refine r_iconst F rfl dX3_isOfTwo_26 ?_
        obtain rfl := Option.some.inj h
        exact r_zret (Or.inl rfl) F dX3_isOfTwo_27
      · replace h := ite_n h hc
        refine r_iconst F rfl dX3_isOfTwo_22 ?_
        refine r_goto (tgt := 27) F (by decide) dX3_isOfTwo_23 ?_
        obtain rfl := Option.some.inj h
        exact r_zret (Or.inr rfl) F dX3_isOfTwo_27
theorem tX2_readFact_61 {E : En} {p : Program} {l : Launch} {e : Env} {s : State} {m : MethodId} {args : Array Value} {below : List Frame} {meth : Method} {c : Code} {q : Int × Mem} {l0 l2 l3 s0 : Int} {M : Mem} (F : Fx E p s m args meth c cX2_readFact 5 yX2_readFact.cls none yX2_readFact.name) (h : mX2_readFact_61 l0 l2 l3 s0 M = some q) : G E p l e (rmOf 4 0 0) s m args below meth c 5 (QZ E below args s (rmOf 4 0 0) none q.2) 0 0 M 61 [(0, vR l0), (2, vI l2), (3, vI l3)] [vI s0] := by
  unfold mX2_readFact_61 at h
  refine r_istore (ls' := [(4, vI s0), (0, vR l0), (2, vI l2), (3, vI l3)]) F (by decide) rfl dX2_readFact_61 ?_
  refine r_aload_n (j := 1) F rfl rfl dX2_readFact_63 ?_
  replace h := bind_so h
  obtain ⟨a64, h64, h⟩ := h
  refine r_getT (t := 2) rfl clok_2 F (by decide) h64 tw_452 dX2_readFact_64 ?_
  refine r_bipush F rfl (by decide) dX2_readFact_67 ?_
  refine r_iload_n (j := 2) F rfl rfl dX2_readFact_69 ?_
  refine r_iload_n (j := 3) F rfl rfl dX2_readFact_70 ?_
  replace h := bind_so h
  obtain ⟨q71, h71, h⟩ := h
  refine r_callS (as := [vI l3]) (rv := (some (vI q71.1))) (kc := 0) (nc := 0) (tX2_slotOf h71) F tw_803 tw_804 tw_805 tw_119 ⟨by decide, by decide, show (parseMethodDescriptor yX2_slotOf.desc).map (fun d => d.parameters.length) = some 1 by decide +kernel⟩ ⟨by decide, by decide⟩ (Nat.le_of_ble_eq_true rfl) dX2_readFact_71 ?_
  refine r_iload (j := 0) F rfl dX2_readFact_74 ?_
  replace h := bind_so h
  obtain ⟨q76, h76, h⟩ := h
  refine r_callS (as := [vI s0]) (rv := (some (vI q76.1))) (kc := 0) (nc := 0) (tX2_slotOf h76) F tw_803 tw_804 tw_805 tw_119 ⟨by decide, by decide, show (parseMethodDescriptor yX2_slotOf.desc).map (fun d => d.parameters.length) = some 1 by decide +kernel⟩ ⟨by decide, by decide⟩ (Nat.le_of_ble_eq_true rfl) dX2_readFact_76 ?_
  replace h := bind_so h
  obtain ⟨_, g79, h⟩ := h
  replace h := bind_so h
  obtain ⟨q79, h79, h⟩ := h
  refine r_callV (as := [vI 11, vI l2, vI q71.1, vI q76.1]) (rv := none) (kc := 0) (nc := 0) (tX5_write h79) clok_5 F (gK_so g79) tw_780 tw_781 tw_782 tw_783 tw_120 ⟨by decide, by decide, show (parseMethodDescriptor yX5_write.desc).map (fun d => d.parameters.length) = some 4 by decide +kernel⟩ ⟨by decide, by decide⟩ (Nat.le_of_ble_eq_true rfl) dX2_readFact_79 ?_
  obtain rfl := Option.some.inj h
  exact r_vret F dX2_readFact_82
theorem tX2_readFact {l0 l1 : Int} {M : Mem} {q : Int × Mem} (h : mX2_readFact l0 l1 M = some q) : Ct 4 0 0 yX2_readFact cX2_readFact 5 none [vR l0, vI l1] M none q.2 := by
  unfold mX2_readFact at h
  refine Ct.of (by decide) (Nat.le_of_ble_eq_true rfl) ?_
  intro E p l e s m args below meth c F
  refine r_sub [0, 1] (ls' := [(0, vR l0), (1, vI l1)]) rfl ?_
  refine r_aload_n (j := 0) F rfl rfl dX2_readFact_0 ?_
  replace h := bind_so h
  obtain ⟨_, g1, h⟩ := h
  replace h := bind_so h
  obtain ⟨q1, h1, h⟩ := h
  refine r_callV (as := []) (rv := (some (vI q1.1))) (kc := 0) (nc := 0) (tX2_takeRelation h1) clok_2 F (gK_so g1) tw_814 tw_816 tw_25 tw_817 tw_119 ⟨by decide, by decide, show (parseMethodDescriptor yX2_takeRelation.desc).map (fun d => d.parameters.length) = some 0 by decide +kernel⟩ ⟨by decide, by decide⟩ (Nat.le_of_ble_eq_true rfl) dX2_readFact_1 ?_
  refine r_istore_n (ls' := [(2, vI q1.1), (0, vR l0), (1, vI l1)]) F rfl (by decide) rfl dX2_readFact_4 ?_
  refine r_aload_n (j := 1) F rfl rfl dX2_readFact_5 ?_
  replace h := bind_so h
  obtain ⟨a6, h6, h⟩ := h
  refine r_getT (t := 2) rfl clok_2 F (by decide) h6 tw_450 dX2_readFact_6 ?_
  refine r_iload_n (j := 0) F rfl rfl dX2_readFact_9 ?_
  replace h := bind_so h
  obtain ⟨_, g10, h⟩ := h
  replace h := bind_so h
  obtain ⟨q10, h10, h⟩ := h
  refine r_callV (as := [vI q1.1]) (rv := (some (vI q10.1))) (kc := 0) (nc := 0) (tX3_hasRelation h10) clok_3 F (gK_so g10) tw_748 tw_576 tw_577 tw_578 tw_115 ⟨by decide, by decide, show (parseMethodDescriptor yX3_hasRelation.desc).map (fun d => d.parameters.length) = some 1 by decide +kernel⟩ ⟨by decide, by decide⟩ (Nat.le_of_ble_eq_true rfl) dX2_readFact_10 ?_
  refine r_if_ne (tgt := 17) F (by decide) dX2_readFact_13 (fun hc => ?_) (fun hc => ?_)
  · replace h := ite_n h hc
    refine r_aload_n (j := 1) F rfl rfl dX2_readFact_17 ?_
    refine r_iload_n (j := 2) F rfl rfl dX2_readFact_18 ?_
    refine r_aload_n (j := 1) F rfl rfl dX2_readFact_19 ?_
    replace h := bind_so h
    obtain ⟨a20, h20, h⟩ := h
    refine r_getT (t := 2) rfl clok_2 F (by decide) h20 tw_450 dX2_readFact_20 ?_
    replace h := bind_so h
    obtain ⟨a23, h23, h⟩ := h
    refine r_getT (t := 2) rfl clok_3 F (by decide) h23 tw_162 dX2_readFact_23 ?_
    refine r_iload_n (j := 0) F rfl rfl dX2_readFact_26 ?_
    replace h := bind_so h
    obtain ⟨a27, h27, h⟩ := h
    refine r_iald F h27 dX2_readFact_27 ?_
    replace h := bind_so h
    obtain ⟨_, g28, h⟩ := h
    replace h := bind_so h
    obtain ⟨q28, h28, h⟩ := h
    refine r_callV (as := [vI l1, vI a27]) (rv := (some (vI q28.1))) (kc := 0) (nc := 0) (tX2_takeBound h28) clok_2 F (gK_so g28) tw_796 tw_798 tw_22 tw_799 tw_119 ⟨by decide, by decide, show (parseMethodDescriptor yX2_takeBound.desc).map (fun d => d.parameters.length) = some 2 by decide +kernel⟩ ⟨by decide, by decide⟩ (Nat.le_of_ble_eq_true rfl) dX2_readFact_28 ?_
    refine r_istore_n (ls' := [(3, vI q28.1), (2, vI q1.1), (0, vR l0), (1, vI l1)]) F rfl (by decide) rfl dX2_readFact_31 ?_
    refine r_aload_n (j := 2) F rfl rfl dX2_readFact_32 ?_
    replace h := bind_so h
    obtain ⟨a33, h33, h⟩ := h
    refine r_getT (t := 2) rfl clok_2 F (by decide) h33 tw_450 dX2_readFact_33 ?_
    refine r_iload_n (j := 1) F rfl rfl dX2_readFact_36 ?_
    replace h := bind_so h
    obtain ⟨_, g37, h⟩ := h
    replace h := bind_so h
    obtain ⟨q37, h37, h⟩ := h
    refine r_callV (as := [vI q1.1]) (rv := (some (vI q37.1))) (kc := 0) (nc := 0) (tX3_isOfTwo h37) clok_3 F (gK_so g37) tw_830 tw_572 tw_573 tw_574 tw_115 ⟨by decide, by decide, show (parseMethodDescriptor yX3_isOfTwo.desc).map (fun d => d.parameters.length) = some 1 by decide +kernel⟩ ⟨by decide, by decide⟩ (Nat.le_of_ble_eq_true rfl) dX2_readFact_37 ?_
    refine r_if_eq (tgt := 60) F (by decide) dX2_readFact_40 (fun hc => ?_) (fun hc => ?_)
    · replace h := ite_p h hc
      refine r_iconst F rfl dX2_readFact_60 ?_
      refine r_sub [2, 1, 0] (ls' := [(0, vR l0), (2, vI q1.1), (3, vI q28.1)]) rfl ?_
      exact tX2_readFact_61 F h
    · replace h := ite_n h hc
      refine r_aload_n (j := 2) F rfl rfl dX2_readFact_43 ?_
      refine r_iload_n (j := 3) F rfl rfl dX2_readFact_44 ?_
      refine r_aload_n (j := 2) F rfl rfl dX2_readFact_45 ?_
      replace h := bind_so h
      obtain ⟨a46, h46, h⟩ := h
      refine r_getT (t := 2) rfl clok_2 F (by decide) h46 tw_450 dX2_readFact_46 ?_
      replace h := bind_so h
      obtain ⟨a49, h49, h⟩ := h
      refine r_getT (t := 2) rfl clok_3 F (by decide) h49 tw_166 dX2_readFact_49 ?_
      refine r_iload_n (j := 1) F rfl rfl dX2_readFact_52 ?_
      replace h := bind_so h
      obtain ⟨a53, h53, h⟩ := h
      refine r_iald F h53 dX2_readFact_53 ?_
      replace h := bind_so h
      obtain ⟨_, g54, h⟩ := h
      replace h := bind_so h
      obtain ⟨q54, h54, h⟩ := h
      refine r_callV (as := [vI l1, vI a53]) (rv := (some (vI q54.1))) (kc := 0) (nc := 0) (tX2_takeBound h54) clok_2 F (gK_so g54) tw_796 tw_798 tw_22 tw_799 tw_119 ⟨by decide, by decide, show (parseMethodDescriptor yX2_takeBound.desc).map (fun d => d.parameters.length) = some 2 by decide +kernel⟩ ⟨by decide, by decide⟩ (Nat.le_of_ble_eq_true rfl) dX2_readFact_54 ?_
      refine r_goto (tgt := 61) F (by decide) dX2_readFact_57 ?_
      refine r_sub [2, 1, 0] (ls' := [(0, vR l0), (2, vI q1.1), (3, vI q28.1)]) rfl ?_
      exact tX2_readFact_61 F h
  · replace h := ite_p h hc
    obtain rfl := Option.some.inj h
    exact r_vret F dX2_readFact_16
theorem tX2_readPart_56 {E : En} {p : Program} {l : Launch} {e : Env} {s : State} {m : MethodId} {args : Array Value} {below : List Frame} {meth : Method} {c : Code} {q : Int × Mem} {l0 l1 l2 : Int} {M : Mem} (F : Fx E p s m args meth c cX2_readPart 3 yX2_readPart.cls none yX2_readPart.name) (h : mX2_readPart_56 l0 l1 l2 M = some q) : G E p l e (rmOf 9 0 0) s m args below meth c 3 (QZ E below args s (rmOf 9 0 0) none q.2) 0 0 M 56 [(0, vR l0), (1, vI l1), (2, vI l2)] [] := by
  unfold mX2_readPart_56 at h
  refine r_iload_n (j := 2) F rfl rfl dX2_readPart_56 ?_
  by_cases hc0 : l2 = 0
  · replace h := ite_p h hc0
    refine r_tIn (off := 59) (tgt := 116) F (by omega) (by omega) (by rw [hc0]; rfl) (by decide) dX2_readPart_57 ?_
    refine r_aload_n (j := 0) F rfl rfl dX2_readPart_116 ?_
    refine r_iload_n (j := 2) F rfl rfl dX2_readPart_117 ?_
    refine r_iload_n (j := 1) F rfl rfl dX2_readPart_118 ?_
    replace h := bind_so h
    obtain ⟨_, g119, h⟩ := h
    replace h := bind_so h
    obtain ⟨q119, h119, h⟩ := h
    refine r_callV (as := [vI l2, vI l1]) (rv := none) (kc := 0) (nc := 0) (tX2_readBinder h119) clok_2 F (gK_so g119) tw_757 tw_759 tw_16 tw_760 tw_119 ⟨by decide, by decide, show (parseMethodDescriptor yX2_readBinder.desc).map (fun d => d.parameters.length) = some 2 by decide +kernel⟩ ⟨by decide, by decide⟩ (Nat.le_of_ble_eq_true rfl) dX2_readPart_119 ?_
    refine r_goto (tgt := 176) F (by decide) dX2_readPart_122 ?_
    obtain rfl := Option.some.inj h
    exact r_vret F dX2_readPart_176
  replace h := ite_n h hc0
  by_cases hc1 : l2 = 1
  · replace h := ite_p h hc1
    refine r_tIn (off := 59) (tgt := 116) F (by omega) (by omega) (by rw [hc1]; rfl) (by decide) dX2_readPart_57 ?_
    refine r_aload_n (j := 0) F rfl rfl dX2_readPart_116 ?_
    refine r_iload_n (j := 2) F rfl rfl dX2_readPart_117 ?_
    refine r_iload_n (j := 1) F rfl rfl dX2_readPart_118 ?_
    replace h := bind_so h
    obtain ⟨_, g119, h⟩ := h
    replace h := bind_so h
    obtain ⟨q119, h119, h⟩ := h
    refine r_callV (as := [vI l2, vI l1]) (rv := none) (kc := 0) (nc := 0) (tX2_readBinder h119) clok_2 F (gK_so g119) tw_757 tw_759 tw_16 tw_760 tw_119 ⟨by decide, by decide, show (parseMethodDescriptor yX2_readBinder.desc).map (fun d => d.parameters.length) = some 2 by decide +kernel⟩ ⟨by decide, by decide⟩ (Nat.le_of_ble_eq_true rfl) dX2_readPart_119 ?_
    refine r_goto (tgt := 176) F (by decide) dX2_readPart_122 ?_
    obtain rfl := Option.some.inj h
    exact r_vret F dX2_readPart_176
  replace h := ite_n h hc1
  by_cases hc2 : l2 = 2
  · replace h := ite_p h hc2
    refine r_tIn (off := 59) (tgt := 116) F (by omega) (by omega) (by rw [hc2]; rfl) (by decide) dX2_readPart_57 ?_
    refine r_aload_n (j := 0) F rfl rfl dX2_readPart_116 ?_
    refine r_iload_n (j := 2) F rfl rfl dX2_readPart_117 ?_
    refine r_iload_n (j := 1) F rfl rfl dX2_readPart_118 ?_
    replace h := bind_so h
    obtain ⟨_, g119, h⟩ := h
    replace h := bind_so h
    obtain ⟨q119, h119, h⟩ := h
    refine r_callV (as := [vI l2, vI l1]) (rv := none) (kc := 0) (nc := 0) (tX2_readBinder h119) clok_2 F (gK_so g119) tw_757 tw_759 tw_16 tw_760 tw_119 ⟨by decide, by decide, show (parseMethodDescriptor yX2_readBinder.desc).map (fun d => d.parameters.length) = some 2 by decide +kernel⟩ ⟨by decide, by decide⟩ (Nat.le_of_ble_eq_true rfl) dX2_readPart_119 ?_
    refine r_goto (tgt := 176) F (by decide) dX2_readPart_122 ?_
    obtain rfl := Option.some.inj h
    exact r_vret F dX2_readPart_176
  replace h := ite_n h hc2
  by_cases hc3 : l2 = 3
  · replace h := ite_p h hc3
    refine r_tIn (off := 59) (tgt := 116) F (by omega) (by omega) (by rw [hc3]; rfl) (by decide) dX2_readPart_57 ?_
    refine r_aload_n (j := 0) F rfl rfl dX2_readPart_116 ?_
    refine r_iload_n (j := 2) F rfl rfl dX2_readPart_117 ?_
    refine r_iload_n (j := 1) F rfl rfl dX2_readPart_118 ?_
    replace h := bind_so h
    obtain ⟨_, g119, h⟩ := h
    replace h := bind_so h
    obtain ⟨q119, h119, h⟩ := h
    refine r_callV (as := [vI l2, vI l1]) (rv := none) (kc := 0) (nc := 0) (tX2_readBinder h119) clok_2 F (gK_so g119) tw_757 tw_759 tw_16 tw_760 tw_119 ⟨by decide, by decide, show (parseMethodDescriptor yX2_readBinder.desc).map (fun d => d.parameters.length) = some 2 by decide +kernel⟩ ⟨by decide, by decide⟩ (Nat.le_of_ble_eq_true rfl) dX2_readPart_119 ?_
    refine r_goto (tgt := 176) F (by decide) dX2_readPart_122 ?_
    obtain rfl := Option.some.inj h
    exact r_vret F dX2_readPart_176
  replace h := ite_n h hc3
  by_cases hc4 : l2 = 4
  · replace h := ite_p h hc4
    refine r_tIn (off := 68) (tgt := 125) F (by omega) (by omega) (by rw [hc4]; rfl) (by decide) dX2_readPart_57 ?_
    refine r_aload_n (j := 0) F rfl rfl dX2_readPart_125 ?_
    refine r_iload_n (j := 2) F rfl rfl dX2_readPart_126 ?_
    refine r_iload_n (j := 1) F rfl rfl dX2_readPart_127 ?_
    replace h := bind_so h
    obtain ⟨_, g128, h⟩ := h
    replace h := bind_so h
    obtain ⟨q128, h128, h⟩ := h
    refine r_callV (as := [vI l2, vI l1]) (rv := none) (kc := 0) (nc := 0) (tX2_readJoint h128) clok_2 F (gK_so g128) tw_788 tw_790 tw_20 tw_791 tw_119 ⟨by decide, by decide, show (parseMethodDescriptor yX2_readJoint.desc).map (fun d => d.parameters.length) = some 2 by decide +kernel⟩ ⟨by decide, by decide⟩ (Nat.le_of_ble_eq_true rfl) dX2_readPart_128 ?_
    refine r_goto (tgt := 176) F (by decide) dX2_readPart_131 ?_
    obtain rfl := Option.some.inj h
    exact r_vret F dX2_readPart_176
  replace h := ite_n h hc4
  by_cases hc5 : l2 = 5
  · replace h := ite_p h hc5
    refine r_tIn (off := 77) (tgt := 134) F (by omega) (by omega) (by rw [hc5]; rfl) (by decide) dX2_readPart_57 ?_
    refine r_aload_n (j := 0) F rfl rfl dX2_readPart_134 ?_
    refine r_iload_n (j := 2) F rfl rfl dX2_readPart_135 ?_
    refine r_iload_n (j := 1) F rfl rfl dX2_readPart_136 ?_
    replace h := bind_so h
    obtain ⟨_, g137, h⟩ := h
    replace h := bind_so h
    obtain ⟨q137, h137, h⟩ := h
    refine r_callV (as := [vI l2, vI l1]) (rv := none) (kc := 0) (nc := 0) (tX2_readJoint h137) clok_2 F (gK_so g137) tw_788 tw_790 tw_20 tw_791 tw_119 ⟨by decide, by decide, show (parseMethodDescriptor yX2_readJoint.desc).map (fun d => d.parameters.length) = some 2 by decide +kernel⟩ ⟨by decide, by decide⟩ (Nat.le_of_ble_eq_true rfl) dX2_readPart_137 ?_
    refine r_aload_n (j := 0) F rfl rfl dX2_readPart_140 ?_
    refine r_iload_n (j := 1) F rfl rfl dX2_readPart_141 ?_
    replace h := bind_so h
    obtain ⟨_, g142, h⟩ := h
    replace h := bind_so h
    obtain ⟨q142, h142, h⟩ := h
    refine r_callV (as := [vI l1]) (rv := none) (kc := 0) (nc := 0) (tX2_expectPart h142) clok_2 F (gK_so g142) tw_657 tw_659 tw_6 tw_660 tw_119 ⟨by decide, by decide, show (parseMethodDescriptor yX2_expectPart.desc).map (fun d => d.parameters.length) = some 1 by decide +kernel⟩ ⟨by decide, by decide⟩ (Nat.le_of_ble_eq_true rfl) dX2_readPart_142 ?_
    refine r_goto (tgt := 176) F (by decide) dX2_readPart_145 ?_
    obtain rfl := Option.some.inj h
    exact r_vret F dX2_readPart_176
  replace h := ite_n h hc5
  by_cases hc6 : l2 = 6
  · replace h := ite_p h hc6
    refine r_tIn (off := 77) (tgt := 134) F (by omega) (by omega) (by rw [hc6]; rfl) (by decide) dX2_readPart_57 ?_
    refine r_aload_n (j := 0) F rfl rfl dX2_readPart_134 ?_
    refine r_iload_n (j := 2) F rfl rfl dX2_readPart_135 ?_
    refine r_iload_n (j := 1) F rfl rfl dX2_readPart_136 ?_
    replace h := bind_so h
    obtain ⟨_, g137, h⟩ := h
    replace h := bind_so h
    obtain ⟨q137, h137, h⟩ := h
    refine r_callV (as := [vI l2, vI l1]) (rv := none) (kc := 0) (nc := 0) (tX2_readJoint h137) clok_2 F (gK_so g137) tw_788 tw_790 tw_20 tw_791 tw_119 ⟨by decide, by decide, show (parseMethodDescriptor yX2_readJoint.desc).map (fun d => d.parameters.length) = some 2 by decide +kernel⟩ ⟨by decide, by decide⟩ (Nat.le_of_ble_eq_true rfl) dX2_readPart_137 ?_
    refine r_aload_n (j := 0) F rfl rfl dX2_readPart_140 ?_
    refine r_iload_n (j := 1) F rfl rfl dX2_readPart_141 ?_
    replace h := bind_so h
    obtain ⟨_, g142, h⟩ := h
    replace h := bind_so h
    obtain ⟨q142, h142, h⟩ := h
    refine r_callV (as := [vI l1]) (rv := none) (kc := 0) (nc := 0) (tX2_expectPart h142) clok_2 F (gK_so g142) tw_657 tw_659 tw_6 tw_660 tw_119 ⟨by decide, by decide, show (parseMethodDescriptor yX2_expectPart.desc).map (fun d => d.parameters.length) = some 1 by decide +kernel⟩ ⟨by decide, by decide⟩ (Nat.le_of_ble_eq_true rfl) dX2_readPart_142 ?_
    refine r_goto (tgt := 176) F (by decide) dX2_readPart_145 ?_
    obtain rfl := Option.some.inj h
    exact r_vret F dX2_readPart_176
  replace h := ite_n h hc6
  by_cases hc7 : l2 = 7
  · replace h := ite_p h hc7
    refine r_tIn (off := 77) (tgt := 134) F (by omega) (by omega) (by rw [hc7]; rfl) (by decide) dX2_readPart_57 ?_
    refine r_aload_n (j := 0) F rfl rfl dX2_readPart_134 ?_
    refine r_iload_n (j := 2) F rfl rfl dX2_readPart_135 ?_
    refine r_iload_n (j := 1) F rfl rfl dX2_readPart_136 ?_
    replace h := bind_so h
    obtain ⟨_, g137, h⟩ := h
    replace h := bind_so h
    obtain ⟨q137, h137, h⟩ := h
    refine r_callV (as := [vI l2, vI l1]) (rv := none) (kc := 0) (nc := 0) (tX2_readJoint h137) clok_2 F (gK_so g137) tw_788 tw_790 tw_20 tw_791 tw_119 ⟨by decide, by decide, show (parseMethodDescriptor yX2_readJoint.desc).map (fun d => d.parameters.length) = some 2 by decide +kernel⟩ ⟨by decide, by decide⟩ (Nat.le_of_ble_eq_true rfl) dX2_readPart_137 ?_
    refine r_aload_n (j := 0) F rfl rfl dX2_readPart_140 ?_
    refine r_iload_n (j := 1) F rfl rfl dX2_readPart_141 ?_
    replace h := bind_so h
    obtain ⟨_, g142, h⟩ := h
    replace h := bind_so h
    obtain ⟨q142, h142, h⟩ := h
    refine r_callV (as := [vI l1]) (rv := none) (kc := 0) (nc := 0) (tX2_expectPart h142) clok_2 F (gK_so g142) tw_657 tw_659 tw_6 tw_660 tw_119 ⟨by decide, by decide, show (parseMethodDescriptor yX2_expectPart.desc).map (fun d => d.parameters.length) = some 1 by decide +kernel⟩ ⟨by decide, by decide⟩ (Nat.le_of_ble_eq_true rfl) dX2_readPart_142 ?_
    refine r_goto (tgt := 176) F (by decide) dX2_readPart_145 ?_
    obtain rfl := Option.some.inj h
    exact r_vret F dX2_readPart_176
  replace h := ite_n h hc7
  by_cases hc8 : l2 = 8
  · replace h := ite_p h hc8
    refine r_tIn (off := 91) (tgt := 148) F (by omega) (by omega) (by rw [hc8]; rfl) (by decide) dX2_readPart_57 ?_
    refine r_aload_n (j := 0) F rfl rfl dX2_readPart_148 ?_
    refine r_iload_n (j := 1) F rfl rfl dX2_readPart_149 ?_
    replace h := bind_so h
    obtain ⟨_, g150, h⟩ := h
    replace h := bind_so h
    obtain ⟨q150, h150, h⟩ := h
    refine r_callV (as := [vI l1]) (rv := none) (kc := 0) (nc := 0) (tX2_readSame h150) clok_2 F (gK_so g150) tw_792 tw_794 tw_21 tw_795 tw_119 ⟨by decide, by decide, show (parseMethodDescriptor yX2_readSame.desc).map (fun d => d.parameters.length) = some 1 by decide +kernel⟩ ⟨by decide, by decide⟩ (Nat.le_of_ble_eq_true rfl) dX2_readPart_150 ?_
    refine r_goto (tgt := 176) F (by decide) dX2_readPart_153 ?_
    obtain rfl := Option.some.inj h
    exact r_vret F dX2_readPart_176
  replace h := ite_n h hc8
  by_cases hc9 : l2 = 9
  · replace h := ite_p h hc9
    refine r_tIn (off := 99) (tgt := 156) F (by omega) (by omega) (by rw [hc9]; rfl) (by decide) dX2_readPart_57 ?_
    refine r_aload_n (j := 0) F rfl rfl dX2_readPart_156 ?_
    refine r_iload_n (j := 1) F rfl rfl dX2_readPart_157 ?_
    replace h := bind_so h
    obtain ⟨_, g158, h⟩ := h
    replace h := bind_so h
    obtain ⟨q158, h158, h⟩ := h
    refine r_callV (as := [vI l1]) (rv := none) (kc := 0) (nc := 0) (tX2_readReach h158) clok_2 F (gK_so g158) tw_806 tw_808 tw_23 tw_809 tw_119 ⟨by decide, by decide, show (parseMethodDescriptor yX2_readReach.desc).map (fun d => d.parameters.length) = some 1 by decide +kernel⟩ ⟨by decide, by decide⟩ (Nat.le_of_ble_eq_true rfl) dX2_readPart_158 ?_
    refine r_goto (tgt := 176) F (by decide) dX2_readPart_161 ?_
    obtain rfl := Option.some.inj h
    exact r_vret F dX2_readPart_176
  replace h := ite_n h hc9
  by_cases hc10 : l2 = 10
  · replace h := ite_p h hc10
    refine r_tIn (off := 107) (tgt := 164) F (by omega) (by omega) (by rw [hc10]; rfl) (by decide) dX2_readPart_57 ?_
    refine r_aload_n (j := 0) F rfl rfl dX2_readPart_164 ?_
    replace h := bind_so h
    obtain ⟨_, g165, h⟩ := h
    replace h := bind_so h
    obtain ⟨q165, h165, h⟩ := h
    refine r_callV (as := []) (rv := none) (kc := 0) (nc := 0) (tX2_readTree h165) clok_2 F (gK_so g165) tw_822 tw_824 tw_26 tw_825 tw_119 ⟨by decide, by decide, show (parseMethodDescriptor yX2_readTree.desc).map (fun d => d.parameters.length) = some 0 by decide +kernel⟩ ⟨by decide, by decide⟩ (Nat.le_of_ble_eq_true rfl) dX2_readPart_165 ?_
    refine r_goto (tgt := 176) F (by decide) dX2_readPart_168 ?_
    obtain rfl := Option.some.inj h
    exact r_vret F dX2_readPart_176
  replace h := ite_n h hc10
  refine r_tOut (tgt := 171) F (by omega) (by decide) dX2_readPart_57 ?_
  refine r_aload_n (j := 0) F rfl rfl dX2_readPart_171 ?_
  refine r_iload_n (j := 1) F rfl rfl dX2_readPart_172 ?_
  replace h := bind_so h
  obtain ⟨_, g173, h⟩ := h
  replace h := bind_so h
  obtain ⟨q173, h173, h⟩ := h
  refine r_callV (as := [vI l1]) (rv := none) (kc := 0) (nc := 0) (tX2_readFact h173) clok_2 F (gK_so g173) tw_826 tw_828 tw_27 tw_829 tw_119 ⟨by decide, by decide, show (parseMethodDescriptor yX2_readFact.desc).map (fun d => d.parameters.length) = some 1 by decide +kernel⟩ ⟨by decide, by decide⟩ (Nat.le_of_ble_eq_true rfl) dX2_readPart_173 ?_
  obtain rfl := Option.some.inj h
  exact r_vret F dX2_readPart_176
theorem tX2_readPart {l0 : Int} {M : Mem} {q : Int × Mem} (h : mX2_readPart l0 M = some q) : Ct 9 0 0 yX2_readPart cX2_readPart 3 none [vR l0] M none q.2 := by
  unfold mX2_readPart at h
  refine Ct.of (by decide) (Nat.le_of_ble_eq_true rfl) ?_
  intro E p l e s m args below meth c F
  refine r_sub [0] (ls' := [(0, vR l0)]) rfl ?_
  refine r_aload_n (j := 0) F rfl rfl dX2_readPart_0 ?_
  refine r_dup1 F rfl dX2_readPart_1 ?_
  replace h := bind_so h
  obtain ⟨a2, h2, h⟩ := h
  refine r_getT (t := 0) rfl clok_2 F (by decide) h2 tw_454 dX2_readPart_2 ?_
  refine r_iconst F rfl dX2_readPart_5 ?_
  refine r_isub F dX2_readPart_6 ?_
  replace h := bind_so h
  obtain ⟨M7, h7, h⟩ := h
  refine r_put clok_2 F (by decide) rfl (by decide) (by decide) h7 tw_454 dX2_readPart_7 ?_
  refine r_aload_n (j := 0) F rfl rfl dX2_readPart_10 ?_
  replace h := bind_so h
  obtain ⟨a11, h11, h⟩ := h
  refine r_getT (t := 2) rfl clok_2 F (by decide) h11 tw_453 dX2_readPart_11 ?_
  refine r_aload_n (j := 0) F rfl rfl dX2_readPart_14 ?_
  replace h := bind_so h
  obtain ⟨a15, h15, h⟩ := h
  refine r_getT (t := 0) rfl clok_2 F (by decide) h15 tw_454 dX2_readPart_15 ?_
  replace h := bind_so h
  obtain ⟨a18, h18, h⟩ := h
  refine r_iald F h18 dX2_readPart_18 ?_
  refine r_istore_n (ls' := [(1, vI a18), (0, vR l0)]) F rfl (by decide) rfl dX2_readPart_19 ?_
  refine r_aload_n (j := 1) F rfl rfl dX2_readPart_20 ?_
  replace h := bind_so h
  obtain ⟨_, g21, h⟩ := h
  replace h := bind_so h
  obtain ⟨q21, h21, h⟩ := h
  refine r_callV (as := []) (rv := (some (vI q21.1))) (kc := 0) (nc := 0) (tX2_firstWord h21) clok_2 F (gK_so g21) tw_677 tw_679 tw_11 tw_680 tw_119 ⟨by decide, by decide, show (parseMethodDescriptor yX2_firstWord.desc).map (fun d => d.parameters.length) = some 0 by decide +kernel⟩ ⟨by decide, by decide⟩ (Nat.le_of_ble_eq_true rfl) dX2_readPart_21 ?_
  refine r_istore_n (ls' := [(2, vI q21.1), (1, vI a18), (0, vR l0)]) F rfl (by decide) rfl dX2_readPart_24 ?_
  refine r_iload_n (j := 0) F rfl rfl dX2_readPart_25 ?_
  refine r_iconst F rfl dX2_readPart_26 ?_
  refine r_icmp_ne (tgt := 35) F (by decide) dX2_readPart_27 (fun hc => ?_) (fun hc => ?_)
  · replace h := ite_n h hc
    refine r_aload_n (j := 2) F rfl rfl dX2_readPart_35 ?_
    replace h := bind_so h
    obtain ⟨a36, h36, h⟩ := h
    refine r_getT (t := 2) rfl clok_2 F (by decide) h36 tw_452 dX2_readPart_36 ?_
    replace h := bind_so h
    obtain ⟨a39, h39, h⟩ := h
    refine r_getT (t := 0) rfl clok_5 F (by decide) h39 tw_431 dX2_readPart_39 ?_
    refine r_bipush F rfl (by decide) dX2_readPart_42 ?_
    refine r_icmp_lt (tgt := 56) F (by decide) dX2_readPart_44 (fun hc => ?_) (fun hc => ?_)
    · replace h := ite_p h hc
      refine r_sub [2, 1, 0] (ls' := [(0, vR l0), (1, vI a18), (2, vI q21.1)]) rfl ?_
      exact tX2_readPart_56 F h
    · replace h := ite_n h hc
      refine r_aload_n (j := 2) F rfl rfl dX2_readPart_47 ?_
      refine r_iconst F rfl dX2_readPart_48 ?_
      refine r_aload_n (j := 2) F rfl rfl dX2_readPart_49 ?_
      replace h := bind_so h
      obtain ⟨a50, h50, h⟩ := h
      refine r_getT (t := 0) rfl clok_2 F (by decide) h50 tw_456 dX2_readPart_50 ?_
      replace h := bind_so h
      obtain ⟨_, g53, h⟩ := h
      replace h := bind_so h
      obtain ⟨q53, h53, h⟩ := h
      refine r_callV (as := [vI 4, vI a50]) (rv := none) (kc := 0) (nc := 0) (tX2_note h53) clok_2 F (gK_so g53) tw_753 tw_755 tw_15 tw_756 tw_119 ⟨by decide, by decide, show (parseMethodDescriptor yX2_note.desc).map (fun d => d.parameters.length) = some 2 by decide +kernel⟩ ⟨by decide, by decide⟩ (Nat.le_of_ble_eq_true rfl) dX2_readPart_53 ?_
      refine r_sub [2, 1, 0] (ls' := [(0, vR l0), (1, vI a18), (2, vI q21.1)]) rfl ?_
      exact tX2_readPart_56 F h
  · replace h := ite_p h hc
    refine r_aload_n (j := 2) F rfl rfl dX2_readPart_30 ?_
    replace h := bind_so h
    obtain ⟨_, g31, h⟩ := h
    replace h := bind_so h
    obtain ⟨q31, h31, h⟩ := h
    refine r_callV (as := []) (rv := none) (kc := 0) (nc := 0) (tX2_refuse h31) clok_2 F (gK_so g31) tw_749 tw_751 tw_14 tw_752 tw_119 ⟨by decide, by decide, show (parseMethodDescriptor yX2_refuse.desc).map (fun d => d.parameters.length) = some 0 by decide +kernel⟩ ⟨by decide, by decide⟩ (Nat.le_of_ble_eq_true rfl) dX2_readPart_31 ?_
    obtain rfl := Option.some.inj h
    exact r_vret F dX2_readPart_34
theorem tX5_partsInside {l0 : Int} {M : Mem} {q : Int × Mem} (h : mX5_partsInside l0 M = some q) : Ct 0 0 0 yX5_partsInside cX5_partsInside 1 (some FieldType.int) [vI l0] M (some (vI q.1)) q.2 := by
  unfold mX5_partsInside at h
  refine Ct.of (by decide) (Nat.le_of_ble_eq_true rfl) ?_
  intro E p l e s m args below meth c F
  refine r_sub [0] (ls' := [(0, vI l0)]) rfl ?_
  refine r_iload_n (j := 0) F rfl rfl dX5_partsInside_0 ?_
  by_cases hc0 : l0 = 0
  · replace h := ite_p h hc0
    refine r_tIn (off := 47) (tgt := 48) F (by omega) (by omega) (by rw [hc0]; rfl) (by decide) dX5_partsInside_1 ?_
    refine r_iconst F rfl dX5_partsInside_48 ?_
    obtain rfl := Option.some.inj h
    exact r_iret F dX5_partsInside_49
  replace h := ite_n h hc0
  by_cases hc1 : l0 = 1
  · replace h := ite_p h hc1
    refine r_tIn (off := 47) (tgt := 48) F (by omega) (by omega) (by rw [hc1]; rfl) (by decide) dX5_partsInside_1 ?_
    refine r_iconst F rfl dX5_partsInside_48 ?_
    obtain rfl := Option.some.inj h
    exact r_iret F dX5_partsInside_49
  replace h := ite_n h hc1
  by_cases hc2 : l0 = 2
  · replace h := ite_p h hc2
    refine r_tIn (off := 47) (tgt := 48) F (by omega) (by omega) (by rw [hc2]; rfl) (by decide) dX5_partsInside_1 ?_
    refine r_iconst F rfl dX5_partsInside_48 ?_
    obtain rfl := Option.some.inj h
    exact r_iret F dX5_partsInside_49
  replace h := ite_n h hc2
  by_cases hc3 : l0 = 3
  · replace h := ite_p h hc3
    refine r_tIn (off := 47) (tgt := 48) F (by omega) (by omega) (by rw [hc3]; rfl) (by decide) dX5_partsInside_1 ?_
    refine r_iconst F rfl dX5_partsInside_48 ?_
    obtain rfl := Option.some.inj h
    exact r_iret F dX5_partsInside_49
  replace h := ite_n h hc3
  by_cases hc4 : l0 = 4
  · replace h := ite_p h hc4
    refine r_tIn (off := 47) (tgt := 48) F (by omega) (by omega) (by rw [hc4]; rfl) (by decide) dX5_partsInside_1 ?_
    refine r_iconst F rfl dX5_partsInside_48 ?_
    obtain rfl := Option.some.inj h
    exact r_iret F dX5_partsInside_49
  replace h := ite_n h hc4
  by_cases hc5 : l0 = 5
  · replace h := ite_p h hc5
    refine r_tIn (off := 49) (tgt := 50) F (by omega) (by omega) (by rw [hc5]; rfl) (by decide) dX5_partsInside_1 ?_
    refine r_iconst F rfl dX5_partsInside_50 ?_
    obtain rfl := Option.some.inj h
    exact r_iret F dX5_partsInside_51
  replace h := ite_n h hc5
  by_cases hc6 : l0 = 6
  · replace h := ite_p h hc6
    refine r_tIn (off := 49) (tgt := 50) F (by omega) (by omega) (by rw [hc6]; rfl) (by decide) dX5_partsInside_1 ?_
    refine r_iconst F rfl dX5_partsInside_50 ?_
    obtain rfl := Option.some.inj h
    exact r_iret F dX5_partsInside_51
  replace h := ite_n h hc6
  by_cases hc7 : l0 = 7
  · replace h := ite_p h hc7
    refine r_tIn (off := 49) (tgt := 50) F (by omega) (by omega) (by rw [hc7]; rfl) (by decide) dX5_partsInside_1 ?_
    refine r_iconst F rfl dX5_partsInside_50 ?_
    obtain rfl := Option.some.inj h
    exact r_iret F dX5_partsInside_51
  replace h := ite_n h hc7
  refine r_tOut (tgt := 52) F (by omega) (by decide) dX5_partsInside_1 ?_
  refine r_iconst F rfl dX5_partsInside_52 ?_
  obtain rfl := Option.some.inj h
  exact r_iret F dX5_partsInside_53
theorem tX5_findBehind_53 {E : En} {p : Program} {l : Launch} {e : Env} {s : State} {m : MethodId} {args : Array Value} {below : List Frame} {meth : Method} {c : Code} {q : Int × Mem} {k8 : Int → Int → Mem → Option (Int × Mem)} {k26 : Int → Int → Int → Int → Mem → Option (Int × Mem)} (hk8 : ∀ {l0 l1 : Int} {M : Mem}, k8 l0 l1 M = some q → G E p l e (rmOf 1 0 0) s m args below meth c 4 (QZ E below args s (rmOf 1 0 0) none q.2) 0 0 M 8 [(0, vR l0), (1, vI l1)] []) (hk26 : ∀ {l0 l1 l2 l3 : Int} {M : Mem}, k26 l0 l1 l2 l3 M = some q → G E p l e (rmOf 1 0 0) s m args below meth c 4 (QZ E below args s (rmOf 1 0 0) none q.2) 0 0 M 26 [(0, vR l0), (1, vI l1), (2, vI l2), (3, vI l3)] []) {l0 l1 l3 s0 : Int} {M : Mem} (F : Fx E p s m args meth c cX5_findBehind 4 yX5_findBehind.cls none yX5_findBehind.name) (h : mX5_findBehind_53 k8 k26 l0 l1 l3 s0 M = some q) : G E p l e (rmOf 1 0 0) s m args below meth c 4 (QZ E below args s (rmOf 1 0 0) none q.2) 0 0 M 53 [(0, vR l0), (1, vI l1), (3, vI l3)] [vI s0] := by
  unfold mX5_findBehind_53 at h
  refine r_istore_n (ls' := [(2, vI s0), (0, vR l0), (1, vI l1), (3, vI l3)]) F rfl (by decide) rfl dX5_findBehind_53 ?_
  refine r_iinc (j := 3) (ls' := [(3, vI (wI (l3 + (-1)))), (2, vI s0), (0, vR l0), (1, vI l1)]) F rfl (by decide) rfl dX5_findBehind_54 ?_
  refine r_goto (tgt := 26) F (by decide) dX5_findBehind_57 ?_
  refine r_sub [2, 3, 1, 0] (ls' := [(0, vR l0), (1, vI l1), (2, vI s0), (3, vI (wI (l3 + (-1))))]) rfl ?_
  exact hk26 h
theorem tbX5_findBehind_26 {E : En} {p : Program} {l : Launch} {e : Env} {s : State} {m : MethodId} {args : Array Value} {below : List Frame} {meth : Method} {c : Code} {q : Int × Mem} {k8 : Int → Int → Mem → Option (Int × Mem)} (hk8 : ∀ {l0 l1 : Int} {M : Mem}, k8 l0 l1 M = some q → G E p l e (rmOf 1 0 0) s m args below meth c 4 (QZ E below args s (rmOf 1 0 0) none q.2) 0 0 M 8 [(0, vR l0), (1, vI l1)] []) {k26 : Int → Int → Int → Int → Mem → Option (Int × Mem)} (hk26 : ∀ {l0 l1 l2 l3 : Int} {M : Mem}, k26 l0 l1 l2 l3 M = some q → G E p l e (rmOf 1 0 0) s m args below meth c 4 (QZ E below args s (rmOf 1 0 0) none q.2) 0 0 M 26 [(0, vR l0), (1, vI l1), (2, vI l2), (3, vI l3)] []) {l0 l1 l2 l3 : Int} {M : Mem} (F : Fx E p s m args meth c cX5_findBehind 4 yX5_findBehind.cls none yX5_findBehind.name) (h : bX5_findBehind_26 k8 k26 l0 l1 l2 l3 M = some q) : G E p l e (rmOf 1 0 0) s m args below meth c 4 (QZ E below args s (rmOf 1 0 0) none q.2) 0 0 M 26 [(0, vR l0), (1, vI l1), (2, vI l2), (3, vI l3)] [] := by
  unfold bX5_findBehind_26 at h
  refine r_iload_n (j := 3) F rfl rfl dX5_findBehind_26 ?_
  refine r_if_le (tgt := 60) F (by decide) dX5_findBehind_27 (fun hc => ?_) (fun hc => ?_)
  · replace h := ite_p h hc
    refine r_aload_n (j := 0) F rfl rfl dX5_findBehind_60 ?_
    replace h := bind_so h
    obtain ⟨a61, h61, h⟩ := h
    refine r_getT (t := 2) rfl clok_5 F (by decide) h61 tw_428 dX5_findBehind_61 ?_
    refine r_iload_n (j := 1) F rfl rfl dX5_findBehind_64 ?_
    refine r_iload_n (j := 2) F rfl rfl dX5_findBehind_65 ?_
    replace h := bind_so h
    obtain ⟨M66, h66, h⟩ := h
    refine r_iast F h66 dX5_findBehind_66 ?_
    refine r_iinc (j := 1) (ls' := [(1, vI (wI (l1 + (-1)))), (0, vR l0), (2, vI l2), (3, vI l3)]) F rfl (by decide) rfl dX5_findBehind_67 ?_
    refine r_goto (tgt := 8) F (by decide) dX5_findBehind_70 ?_
    refine r_sub [1, 0] (ls' := [(0, vR l0), (1, vI (wI (l1 + (-1))))]) rfl ?_
    exact hk8 h
  · replace h := ite_n h hc
    refine r_iload_n (j := 2) F rfl rfl dX5_findBehind_30 ?_
    refine r_aload_n (j := 0) F rfl rfl dX5_findBehind_31 ?_
    replace h := bind_so h
    obtain ⟨a32, h32, h⟩ := h
    refine r_getT (t := 2) rfl clok_5 F (by decide) h32 tw_420 dX5_findBehind_32 ?_
    replace h := bind_so h
    obtain ⟨a35, h35, h⟩ := h
    refine r_alen (t := 10) (by decide) F h35 dX5_findBehind_35 ?_
    refine r_icmp_ge (tgt := 48) F (by decide) dX5_findBehind_36 (fun hc => ?_) (fun hc => ?_)
    · replace h := ite_p h hc
      refine r_aload_n (j := 0) F rfl rfl dX5_findBehind_48 ?_
      replace h := bind_so h
      obtain ⟨a49, h49, h⟩ := h
      refine r_getT (t := 2) rfl clok_5 F (by decide) h49 tw_420 dX5_findBehind_49 ?_
      replace h := bind_so h
      obtain ⟨a52, h52, h⟩ := h
      refine r_alen (t := 10) (by decide) F h52 dX5_findBehind_52 ?_
      refine r_sub [0, 1, 3] (ls' := [(0, vR l0), (1, vI l1), (3, vI l3)]) rfl ?_
      exact tX5_findBehind_53 (fun h => hk8 h) (fun h => hk26 h) F h
    · replace h := ite_n h hc
      refine r_aload_n (j := 0) F rfl rfl dX5_findBehind_39 ?_
      replace h := bind_so h
      obtain ⟨a40, h40, h⟩ := h
      refine r_getT (t := 2) rfl clok_5 F (by decide) h40 tw_428 dX5_findBehind_40 ?_
      refine r_iload_n (j := 2) F rfl rfl dX5_findBehind_43 ?_
      replace h := bind_so h
      obtain ⟨a44, h44, h⟩ := h
      refine r_iald F h44 dX5_findBehind_44 ?_
      refine r_goto (tgt := 53) F (by decide) dX5_findBehind_45 ?_
      refine r_sub [0, 1, 3] (ls' := [(0, vR l0), (1, vI l1), (3, vI l3)]) rfl ?_
      exact tX5_findBehind_53 (fun h => hk8 h) (fun h => hk26 h) F h
theorem tX5_findBehind_26 {E : En} {p : Program} {l : Launch} {e : Env} {s : State} {m : MethodId} {args : Array Value} {below : List Frame} {meth : Method} {c : Code} {q : Int × Mem} {k8 : Int → Int → Mem → Option (Int × Mem)} (hk8 : ∀ {l0 l1 : Int} {M : Mem}, k8 l0 l1 M = some q → G E p l e (rmOf 1 0 0) s m args below meth c 4 (QZ E below args s (rmOf 1 0 0) none q.2) 0 0 M 8 [(0, vR l0), (1, vI l1)] []) (F : Fx E p s m args meth c cX5_findBehind 4 yX5_findBehind.cls none yX5_findBehind.name) : ∀ {fu : Nat} {l0 l1 l2 l3 : Int} {M : Mem}, mX5_findBehind_26 k8 fu l0 l1 l2 l3 M = some q → G E p l e (rmOf 1 0 0) s m args below meth c 4 (QZ E below args s (rmOf 1 0 0) none q.2) 0 0 M 26 [(0, vR l0), (1, vI l1), (2, vI l2), (3, vI l3)] [] := by
  intro fu
  induction fu with
  | zero => intro l0 l1 l2 l3 M h; exact nomatch (show (none : Option (Int × Mem)) = some q from h)
  | succ fu ih => intro l0 l1 l2 l3 M h; exact tbX5_findBehind_26 (fun h => hk8 h) (fun h => ih h) F h
theorem tbX5_findBehind_8 {E : En} {p : Program} {l : Launch} {e : Env} {s : State} {m : MethodId} {args : Array Value} {below : List Frame} {meth : Method} {c : Code} {q : Int × Mem} {k8 : Int → Int → Mem → Option (Int × Mem)} (hk8 : ∀ {l0 l1 : Int} {M : Mem}, k8 l0 l1 M = some q → G E p l e (rmOf 1 0 0) s m args below meth c 4 (QZ E below args s (rmOf 1 0 0) none q.2) 0 0 M 8 [(0, vR l0), (1, vI l1)] []) {l0 l1 : Int} {M : Mem} (F : Fx E p s m args meth c cX5_findBehind 4 yX5_findBehind.cls none yX5_findBehind.name) (h : bX5_findBehind_8 k8 l0 l1 M = some q) : G E p l e (rmOf 1 0 0) s m args below meth c 4 (QZ E below args s (rmOf 1 0 0) none q.2) 0 0 M 8 [(0, vR l0), (1, vI l1)] [] := by
  unfold bX5_findBehind_8 at h
  refine r_iload_n (j := 1) F rfl rfl dX5_findBehind_8 ?_
  refine r_if_lt (tgt := 73) F (by decide) dX5_findBehind_9 (fun hc => ?_) (fun hc => ?_)
  · replace h := ite_p h hc
    obtain rfl := Option.some.inj h
    exact r_vret F dX5_findBehind_73
  · replace h := ite_n h hc
    refine r_iload_n (j := 1) F rfl rfl dX5_findBehind_12 ?_
    refine r_iconst F rfl dX5_findBehind_13 ?_
    refine r_iadd F dX5_findBehind_14 ?_
    refine r_istore_n (ls' := [(2, vI (wI (l1 + 1))), (0, vR l0), (1, vI l1)]) F rfl (by decide) rfl dX5_findBehind_15 ?_
    refine r_aload_n (j := 1) F rfl rfl dX5_findBehind_16 ?_
    replace h := bind_so h
    obtain ⟨a17, h17, h⟩ := h
    refine r_getT (t := 2) rfl clok_5 F (by decide) h17 tw_420 dX5_findBehind_17 ?_
    refine r_iload_n (j := 2) F rfl rfl dX5_findBehind_20 ?_
    replace h := bind_so h
    obtain ⟨a21, h21, h⟩ := h
    refine r_iald F h21 dX5_findBehind_21 ?_
    replace h := bind_so h
    obtain ⟨q22, h22, h⟩ := h
    refine r_callS (as := [vI a21]) (rv := (some (vI q22.1))) (kc := 0) (nc := 0) (tX5_partsInside h22) F tw_842 tw_843 tw_844 tw_120 ⟨by decide, by decide, show (parseMethodDescriptor yX5_partsInside.desc).map (fun d => d.parameters.length) = some 1 by decide +kernel⟩ ⟨by decide, by decide⟩ (Nat.le_of_ble_eq_true rfl) dX5_findBehind_22 ?_
    refine r_istore_n (ls' := [(3, vI q22.1), (2, vI (wI (l1 + 1))), (0, vR l0), (1, vI l1)]) F rfl (by decide) rfl dX5_findBehind_25 ?_
    refine r_sub [2, 3, 1, 0] (ls' := [(0, vR l0), (1, vI l1), (2, vI (wI (l1 + 1))), (3, vI q22.1)]) rfl ?_
    exact tX5_findBehind_26 (fun h => hk8 h) F h
theorem tX5_findBehind_8 {E : En} {p : Program} {l : Launch} {e : Env} {s : State} {m : MethodId} {args : Array Value} {below : List Frame} {meth : Method} {c : Code} {q : Int × Mem} (F : Fx E p s m args meth c cX5_findBehind 4 yX5_findBehind.cls none yX5_findBehind.name) : ∀ {fu : Nat} {l0 l1 : Int} {M : Mem}, mX5_findBehind_8 fu l0 l1 M = some q → G E p l e (rmOf 1 0 0) s m args below meth c 4 (QZ E below args s (rmOf 1 0 0) none q.2) 0 0 M 8 [(0, vR l0), (1, vI l1)] [] := by
  intro fu
  induction fu with
  | zero => intro l0 l1 M h; exact nomatch (show (none : Option (Int × Mem)) = some q from h)
  | succ fu ih => intro l0 l1 M h; exact tbX5_findBehind_8  (fun h => ih h) F h
theorem tX5_findBehind {l0 : Int} {M : Mem} {q : Int × Mem} (h : mX5_findBehind l0 M = some q) : Ct 1 0 0 yX5_findBehind cX5_findBehind 4 none [vR l0] M none q.2 := by
  unfold mX5_findBehind at h
  refine Ct.of (by decide) (Nat.le_of_ble_eq_true rfl) ?_
  intro E p l e s m args below meth c F
  refine r_sub [0] (ls' := [(0, vR l0)]) rfl ?_
  refine r_aload_n (j := 0) F rfl rfl dX5_findBehind_0 ?_
  replace h := bind_so h
  obtain ⟨a1, h1, h⟩ := h
  refine r_getT (t := 2) rfl clok_5 F (by decide) h1 tw_420 dX5_findBehind_1 ?_
  replace h := bind_so h
  obtain ⟨a4, h4, h⟩ := h
  refine r_alen (t := 10) (by decide) F h4 dX5_findBehind_4 ?_
  refine r_iconst F rfl dX5_findBehind_5 ?_
  refine r_isub F dX5_findBehind_6 ?_
  refine r_istore_n (ls' := [(1, vI (wI (a4 - 1))), (0, vR l0)]) F rfl (by decide) rfl dX5_findBehind_7 ?_
  refine r_sub [1, 0] (ls' := [(0, vR l0), (1, vI (wI (a4 - 1)))]) rfl ?_
  exact tX5_findBehind_8 F h
theorem tX5_finished_65 {E : En} {p : Program} {l : Launch} {e : Env} {s : State} {m : MethodId} {args : Array Value} {below : List Frame} {meth : Method} {c : Code} {q : Int × Mem} {l1 : Int} {M : Mem} (F : Fx E p s m args meth c cX5_finished 3 yX5_finished.cls (some (FieldType.object "VillageStories$Text")) yX5_finished.name) (h : mX5_finished_65 l1 M = some q) : G E p l e (rmOf 2 6 206) s m args below meth c 3 (QZ E below args s (rmOf 2 6 206) (some (vR q.1)) q.2) 0 0 M 65 [(1, vR l1)] [] := by
  unfold mX5_finished_65 at h
  refine r_aload_n (j := 0) F rfl rfl dX5_finished_65 ?_
  replace h := bind_so h
  obtain ⟨_, g66, h⟩ := h
  replace h := bind_so h
  obtain ⟨q66, h66, h⟩ := h
  refine r_callVK (as := []) (rv := none) (kc := 0) (nc := 0) (tX5_findBehind h66) clok_5 F (gK_so g66) tw_838 tw_840 tw_28 tw_841 tw_120 ⟨by decide, by decide, show (parseMethodDescriptor yX5_findBehind.desc).map (fun d => d.parameters.length) = some 0 by decide +kernel⟩ ⟨by decide, by decide⟩ (Nat.le_of_ble_eq_true rfl) dX5_finished_66 (by decide) ?_
  refine r_aload_n (j := 0) F rfl rfl dX5_finished_69 ?_
  obtain rfl := Option.some.inj h
  exact r_aret (Or.inl ⟨_, rfl⟩) F dX5_finished_70
theorem tbX5_finished_14 {E : En} {p : Program} {l : Launch} {e : Env} {s : State} {m : MethodId} {args : Array Value} {below : List Frame} {meth : Method} {c : Code} {q : Int × Mem} {k14 : Int → Int → Int → Mem → Option (Int × Mem)} (hk14 : ∀ {l0 l1 l2 : Int} {M : Mem}, k14 l0 l1 l2 M = some q → G E p l e (rmOf 2 6 206) s m args below meth c 3 (QZ E below args s (rmOf 2 6 206) (some (vR q.1)) q.2) 0 0 M 14 [(0, vR l0), (1, vR l1), (2, vI l2)] []) {l0 l1 l2 : Int} {M : Mem} (F : Fx E p s m args meth c cX5_finished 3 yX5_finished.cls (some (FieldType.object "VillageStories$Text")) yX5_finished.name) (h : bX5_finished_14 k14 l0 l1 l2 M = some q) : G E p l e (rmOf 2 6 206) s m args below meth c 3 (QZ E below args s (rmOf 2 6 206) (some (vR q.1)) q.2) 0 0 M 14 [(0, vR l0), (1, vR l1), (2, vI l2)] [] := by
  unfold bX5_finished_14 at h
  refine r_iload_n (j := 2) F rfl rfl dX5_finished_14 ?_
  refine r_aload_n (j := 0) F rfl rfl dX5_finished_15 ?_
  replace h := bind_so h
  obtain ⟨a16, h16, h⟩ := h
  refine r_getT (t := 0) rfl clok_5 F (by decide) h16 tw_430 dX5_finished_16 ?_
  refine r_icmp_ge (tgt := 65) F (by decide) dX5_finished_19 (fun hc => ?_) (fun hc => ?_)
  · replace h := ite_p h hc
    refine r_sub [1] (ls' := [(1, vR l1)]) rfl ?_
    refine r_wide (k' := 0) (n' := 0) (by decide) (by decide) ?_
    exact tX5_finished_65 F h
  · replace h := ite_n h hc
    refine r_iload_n (j := 2) F rfl rfl dX5_finished_22 ?_
    refine r_aload_n (j := 0) F rfl rfl dX5_finished_23 ?_
    replace h := bind_so h
    obtain ⟨a24, h24, h⟩ := h
    refine r_getT (t := 2) rfl clok_5 F (by decide) h24 tw_420 dX5_finished_24 ?_
    replace h := bind_so h
    obtain ⟨a27, h27, h⟩ := h
    refine r_alen (t := 10) (by decide) F h27 dX5_finished_27 ?_
    refine r_icmp_ge (tgt := 65) F (by decide) dX5_finished_28 (fun hc => ?_) (fun hc => ?_)
    · replace h := ite_p h hc
      refine r_sub [1] (ls' := [(1, vR l1)]) rfl ?_
      refine r_wide (k' := 0) (n' := 0) (by decide) (by decide) ?_
      exact tX5_finished_65 F h
    · replace h := ite_n h hc
      refine r_aload_n (j := 1) F rfl rfl dX5_finished_31 ?_
      refine r_aload_n (j := 0) F rfl rfl dX5_finished_32 ?_
      replace h := bind_so h
      obtain ⟨a33, h33, h⟩ := h
      refine r_getT (t := 2) rfl clok_5 F (by decide) h33 tw_420 dX5_finished_33 ?_
      refine r_iload_n (j := 2) F rfl rfl dX5_finished_36 ?_
      replace h := bind_so h
      obtain ⟨a37, h37, h⟩ := h
      refine r_iald F h37 dX5_finished_37 ?_
      refine r_aload_n (j := 0) F rfl rfl dX5_finished_38 ?_
      replace h := bind_so h
      obtain ⟨a39, h39, h⟩ := h
      refine r_getT (t := 2) rfl clok_5 F (by decide) h39 tw_422 dX5_finished_39 ?_
      refine r_iload_n (j := 2) F rfl rfl dX5_finished_42 ?_
      replace h := bind_so h
      obtain ⟨a43, h43, h⟩ := h
      refine r_iald F h43 dX5_finished_43 ?_
      refine r_aload_n (j := 0) F rfl rfl dX5_finished_44 ?_
      replace h := bind_so h
      obtain ⟨a45, h45, h⟩ := h
      refine r_getT (t := 2) rfl clok_5 F (by decide) h45 tw_424 dX5_finished_45 ?_
      refine r_iload_n (j := 2) F rfl rfl dX5_finished_48 ?_
      replace h := bind_so h
      obtain ⟨a49, h49, h⟩ := h
      refine r_iald F h49 dX5_finished_49 ?_
      refine r_aload_n (j := 0) F rfl rfl dX5_finished_50 ?_
      replace h := bind_so h
      obtain ⟨a51, h51, h⟩ := h
      refine r_getT (t := 2) rfl clok_5 F (by decide) h51 tw_426 dX5_finished_51 ?_
      refine r_iload_n (j := 2) F rfl rfl dX5_finished_54 ?_
      replace h := bind_so h
      obtain ⟨a55, h55, h⟩ := h
      refine r_iald F h55 dX5_finished_55 ?_
      replace h := bind_so h
      obtain ⟨_, g56, h⟩ := h
      replace h := bind_so h
      obtain ⟨q56, h56, h⟩ := h
      refine r_callVK (as := [vI a37, vI a43, vI a49, vI a55]) (rv := none) (kc := 0) (nc := 0) (tX5_write h56) clok_5 F (gK_so g56) tw_837 tw_781 tw_782 tw_783 tw_120 ⟨by decide, by decide, show (parseMethodDescriptor yX5_write.desc).map (fun d => d.parameters.length) = some 4 by decide +kernel⟩ ⟨by decide, by decide⟩ (Nat.le_of_ble_eq_true rfl) dX5_finished_56 (by decide) ?_
      refine r_iinc (j := 2) (ls' := [(2, vI (wI (l2 + 1))), (0, vR l0), (1, vR l1)]) F rfl (by decide) rfl dX5_finished_59 ?_
      refine r_goto (tgt := 14) F (by decide) dX5_finished_62 ?_
      refine r_sub [1, 2, 0] (ls' := [(0, vR l0), (1, vR l1), (2, vI (wI (l2 + 1)))]) rfl ?_
      refine r_wide (k' := 0) (n' := 0) (by decide) (by decide) ?_
      exact hk14 h
theorem tX5_finished_14 {E : En} {p : Program} {l : Launch} {e : Env} {s : State} {m : MethodId} {args : Array Value} {below : List Frame} {meth : Method} {c : Code} {q : Int × Mem} (F : Fx E p s m args meth c cX5_finished 3 yX5_finished.cls (some (FieldType.object "VillageStories$Text")) yX5_finished.name) : ∀ {fu : Nat} {l0 l1 l2 : Int} {M : Mem}, mX5_finished_14 fu l0 l1 l2 M = some q → G E p l e (rmOf 2 6 206) s m args below meth c 3 (QZ E below args s (rmOf 2 6 206) (some (vR q.1)) q.2) 0 0 M 14 [(0, vR l0), (1, vR l1), (2, vI l2)] [] := by
  intro fu
  induction fu with
  | zero => intro l0 l1 l2 M h; exact nomatch (show (none : Option (Int × Mem)) = some q from h)
  | succ fu ih => intro l0 l1 l2 M h; exact tbX5_finished_14  (fun h => ih h) F h
theorem tX5_finished {l0 : Int} {M : Mem} {q : Int × Mem} (h : mX5_finished l0 M = some q) : Ct 2 6 206 yX5_finished cX5_finished 3 (some (FieldType.object "VillageStories$Text")) [vR l0] M (some (vR q.1)) q.2 := by
  unfold mX5_finished at h
  refine Ct.of (by decide) (Nat.le_of_ble_eq_true rfl) ?_
  intro E p l e s m args below meth c F
  refine r_sub [0] (ls' := [(0, vR l0)]) rfl ?_
  replace h := bind_so h
  obtain ⟨q0, h0, h⟩ := h
  refine r_newO clok_5 (by decide +kernel) F h0 tw_835 tw_412 tw_120 dX5_finished_0 (by decide) ?_
  refine r_dup1 F rfl dX5_finished_3 ?_
  refine r_aload_n (j := 0) F rfl rfl dX5_finished_4 ?_
  replace h := bind_so h
  obtain ⟨a5, h5, h⟩ := h
  refine r_getT (t := 0) rfl clok_5 F (by decide) h5 tw_430 dX5_finished_5 ?_
  replace h := bind_so h
  obtain ⟨_, g8, h⟩ := h
  replace h := bind_so h
  obtain ⟨q8, h8, h⟩ := h
  refine r_callIK (as := [vI a5]) (rv := none) (kc := 5) (nc := 200) (tX5_init h8) rfl (gK_so g8) (by decide) F tw_836 tw_414 rfl tw_415 tw_120 ⟨by decide, by decide, show (parseMethodDescriptor yX5_init.desc).map (fun d => d.parameters.length) = some 1 by decide +kernel⟩ ⟨by decide, by decide⟩ (Nat.le_of_ble_eq_true rfl) dX5_finished_8 (by decide) ?_
  refine r_astore_n (ls' := [(1, vR q0.1), (0, vR l0)]) F rfl (by decide) rfl dX5_finished_11 ?_
  refine r_iconst F rfl dX5_finished_12 ?_
  refine r_istore_n (ls' := [(2, vI 0), (1, vR q0.1), (0, vR l0)]) F rfl (by decide) rfl dX5_finished_13 ?_
  refine r_sub [2, 1, 0] (ls' := [(0, vR l0), (1, vR q0.1), (2, vI 0)]) rfl ?_
  refine r_wide (k' := 0) (n' := 0) (by decide) (by decide) ?_
  exact tX5_finished_14 F h
theorem tX2_read_121 {E : En} {p : Program} {l : Launch} {e : Env} {s : State} {m : MethodId} {args : Array Value} {below : List Frame} {meth : Method} {c : Code} {q : Int × Mem} {l0 : Int} {M : Mem} (F : Fx E p s m args meth c cX2_read 3 yX2_read.cls (some (FieldType.object "VillageStories$Text")) yX2_read.name) (h : mX2_read_121 l0 M = some q) : G E p l e (rmOf 10 6 206) s m args below meth c 3 (QZ E below args s (rmOf 10 6 206) (some (vR q.1)) q.2) 6 206 M 121 [(0, vR l0)] [] := by
  unfold mX2_read_121 at h
  refine r_aload_n (j := 0) F rfl rfl dX2_read_121 ?_
  replace h := bind_so h
  obtain ⟨a122, h122, h⟩ := h
  refine r_getT (t := 2) rfl clok_2 F (by decide) h122 tw_447 dX2_read_122 ?_
  replace h := bind_so h
  obtain ⟨a125, h125, h⟩ := h
  refine r_getT (t := 0) rfl clok_6 F (by decide) h125 tw_223 dX2_read_125 ?_
  refine r_if_ne (tgt := 141) F (by decide) dX2_read_128 (fun hc => ?_) (fun hc => ?_)
  · replace h := ite_n h hc
    refine r_null F dX2_read_141 ?_
    obtain rfl := Option.some.inj h
    exact r_aret (Or.inl ⟨_, rfl⟩) F dX2_read_142
  · replace h := ite_p h hc
    refine r_aload_n (j := 0) F rfl rfl dX2_read_131 ?_
    replace h := bind_so h
    obtain ⟨a132, h132, h⟩ := h
    refine r_getT (t := 2) rfl clok_2 F (by decide) h132 tw_452 dX2_read_132 ?_
    replace h := bind_so h
    obtain ⟨_, g135, h⟩ := h
    replace h := bind_so h
    obtain ⟨q135, h135, h⟩ := h
    refine r_callVK (as := []) (rv := (some (vR q135.1))) (kc := 6) (nc := 206) (tX5_finished h135) clok_5 F (gK_so g135) tw_831 tw_832 tw_833 tw_834 tw_120 ⟨by decide, by decide, show (parseMethodDescriptor yX5_finished.desc).map (fun d => d.parameters.length) = some 0 by decide +kernel⟩ ⟨by decide, by decide⟩ (Nat.le_of_ble_eq_true rfl) dX2_read_135 (by decide) ?_
    refine r_goto (tgt := 142) F (by decide) dX2_read_138 ?_
    obtain rfl := Option.some.inj h
    exact r_aret (Or.inl ⟨_, rfl⟩) F dX2_read_142
theorem tX2_read_110 {E : En} {p : Program} {l : Launch} {e : Env} {s : State} {m : MethodId} {args : Array Value} {below : List Frame} {meth : Method} {c : Code} {q : Int × Mem} {l0 : Int} {M : Mem} (F : Fx E p s m args meth c cX2_read 3 yX2_read.cls (some (FieldType.object "VillageStories$Text")) yX2_read.name) (h : mX2_read_110 l0 M = some q) : G E p l e (rmOf 10 6 206) s m args below meth c 3 (QZ E below args s (rmOf 10 6 206) (some (vR q.1)) q.2) 6 206 M 110 [(0, vR l0)] [] := by
  unfold mX2_read_110 at h
  refine r_aload_n (j := 0) F rfl rfl dX2_read_110 ?_
  replace h := bind_so h
  obtain ⟨a111, h111, h⟩ := h
  refine r_getT (t := 0) rfl clok_2 F (by decide) h111 tw_455 dX2_read_111 ?_
  refine r_if_eq (tgt := 121) F (by decide) dX2_read_114 (fun hc => ?_) (fun hc => ?_)
  · replace h := ite_p h hc
    refine r_sub [0] (ls' := [(0, vR l0)]) rfl ?_
    refine r_wide (k' := 6) (n' := 206) (by decide) (by decide) ?_
    exact tX2_read_121 F h
  · replace h := ite_n h hc
    refine r_aload_n (j := 0) F rfl rfl dX2_read_117 ?_
    replace h := bind_so h
    obtain ⟨_, g118, h⟩ := h
    replace h := bind_so h
    obtain ⟨q118, h118, h⟩ := h
    refine r_callVK (as := []) (rv := none) (kc := 0) (nc := 0) (tX2_refuse h118) clok_2 F (gK_so g118) tw_749 tw_751 tw_14 tw_752 tw_119 ⟨by decide, by decide, show (parseMethodDescriptor yX2_refuse.desc).map (fun d => d.parameters.length) = some 0 by decide +kernel⟩ ⟨by decide, by decide⟩ (Nat.le_of_ble_eq_true rfl) dX2_read_118 (by decide) ?_
    refine r_sub [0] (ls' := [(0, vR l0)]) rfl ?_
    refine r_wide (k' := 6) (n' := 206) (by decide) (by decide) ?_
    exact tX2_read_121 F h
theorem tbX2_read_79 {E : En} {p : Program} {l : Launch} {e : Env} {s : State} {m : MethodId} {args : Array Value} {below : List Frame} {meth : Method} {c : Code} {q : Int × Mem} {k79 : Int → Int → Mem → Option (Int × Mem)} (hk79 : ∀ {l0 l2 : Int} {M : Mem}, k79 l0 l2 M = some q → G E p l e (rmOf 10 6 206) s m args below meth c 3 (QZ E below args s (rmOf 10 6 206) (some (vR q.1)) q.2) 6 206 M 79 [(0, vR l0), (2, vI l2)] []) {l0 l2 : Int} {M : Mem} (F : Fx E p s m args meth c cX2_read 3 yX2_read.cls (some (FieldType.object "VillageStories$Text")) yX2_read.name) (h : bX2_read_79 k79 l0 l2 M = some q) : G E p l e (rmOf 10 6 206) s m args below meth c 3 (QZ E below args s (rmOf 10 6 206) (some (vR q.1)) q.2) 6 206 M 79 [(0, vR l0), (2, vI l2)] [] := by
  unfold bX2_read_79 at h
  refine r_iload_n (j := 1) F rfl rfl dX2_read_79 ?_
  refine r_sipush F rfl (by decide) dX2_read_80 ?_
  refine r_icmp_gt (tgt := 110) F (by decide) dX2_read_83 (fun hc => ?_) (fun hc => ?_)
  · replace h := ite_p h hc
    refine r_sub [0] (ls' := [(0, vR l0)]) rfl ?_
    refine r_wide (k' := 6) (n' := 206) (by decide) (by decide) ?_
    exact tX2_read_110 F h
  · replace h := ite_n h hc
    refine r_aload_n (j := 0) F rfl rfl dX2_read_86 ?_
    replace h := bind_so h
    obtain ⟨a87, h87, h⟩ := h
    refine r_getT (t := 0) rfl clok_2 F (by decide) h87 tw_454 dX2_read_87 ?_
    refine r_if_le (tgt := 110) F (by decide) dX2_read_90 (fun hc => ?_) (fun hc => ?_)
    · replace h := ite_p h hc
      refine r_sub [0] (ls' := [(0, vR l0)]) rfl ?_
      refine r_wide (k' := 6) (n' := 206) (by decide) (by decide) ?_
      exact tX2_read_110 F h
    · replace h := ite_n h hc
      refine r_aload_n (j := 0) F rfl rfl dX2_read_93 ?_
      replace h := bind_so h
      obtain ⟨a94, h94, h⟩ := h
      refine r_getT (t := 0) rfl clok_2 F (by decide) h94 tw_451 dX2_read_94 ?_
      refine r_if_ne (tgt := 110) F (by decide) dX2_read_97 (fun hc => ?_) (fun hc => ?_)
      · replace h := ite_n h hc
        refine r_sub [0] (ls' := [(0, vR l0)]) rfl ?_
        refine r_wide (k' := 6) (n' := 206) (by decide) (by decide) ?_
        exact tX2_read_110 F h
      · replace h := ite_p h hc
        refine r_aload_n (j := 0) F rfl rfl dX2_read_100 ?_
        replace h := bind_so h
        obtain ⟨_, g101, h⟩ := h
        replace h := bind_so h
        obtain ⟨q101, h101, h⟩ := h
        refine r_callVK (as := []) (rv := none) (kc := 0) (nc := 0) (tX2_readPart h101) clok_2 F (gK_so g101) tw_673 tw_675 tw_10 tw_676 tw_119 ⟨by decide, by decide, show (parseMethodDescriptor yX2_readPart.desc).map (fun d => d.parameters.length) = some 0 by decide +kernel⟩ ⟨by decide, by decide⟩ (Nat.le_of_ble_eq_true rfl) dX2_read_101 (by decide) ?_
        refine r_iinc (j := 1) (ls' := [(2, vI (wI (l2 + 1))), (0, vR l0)]) F rfl (by decide) rfl dX2_read_104 ?_
        refine r_goto (tgt := 79) F (by decide) dX2_read_107 ?_
        refine r_sub [1, 0] (ls' := [(0, vR l0), (2, vI (wI (l2 + 1)))]) rfl ?_
        refine r_wide (k' := 6) (n' := 206) (by decide) (by decide) ?_
        exact hk79 h
theorem tX2_read_79 {E : En} {p : Program} {l : Launch} {e : Env} {s : State} {m : MethodId} {args : Array Value} {below : List Frame} {meth : Method} {c : Code} {q : Int × Mem} (F : Fx E p s m args meth c cX2_read 3 yX2_read.cls (some (FieldType.object "VillageStories$Text")) yX2_read.name) : ∀ {fu : Nat} {l0 l2 : Int} {M : Mem}, mX2_read_79 fu l0 l2 M = some q → G E p l e (rmOf 10 6 206) s m args below meth c 3 (QZ E below args s (rmOf 10 6 206) (some (vR q.1)) q.2) 6 206 M 79 [(0, vR l0), (2, vI l2)] [] := by
  intro fu
  induction fu with
  | zero => intro l0 l2 M h; exact nomatch (show (none : Option (Int × Mem)) = some q from h)
  | succ fu ih => intro l0 l2 M h; exact tbX2_read_79  (fun h => ih h) F h
theorem tX2_read {l0 l1 : Int} {M : Mem} {q : Int × Mem} (h : mX2_read l0 l1 M = some q) : Ct 10 6 206 yX2_read cX2_read 3 (some (FieldType.object "VillageStories$Text")) [vR l0, vR l1] M (some (vR q.1)) q.2 := by
  unfold mX2_read at h
  refine Ct.of (by decide) (Nat.le_of_ble_eq_true rfl) ?_
  intro E p l e s m args below meth c F
  refine r_sub [0, 1] (ls' := [(0, vR l0), (1, vR l1)]) rfl ?_
  refine r_aload_n (j := 0) F rfl rfl dX2_read_0 ?_
  refine r_aload_n (j := 1) F rfl rfl dX2_read_1 ?_
  replace h := bind_so h
  obtain ⟨M2, h2, h⟩ := h
  refine r_put clok_2 F (by decide) rfl (by decide) (by decide) h2 tw_447 dX2_read_2 ?_
  refine r_aload_n (j := 0) F rfl rfl dX2_read_5 ?_
  refine r_aload_n (j := 0) F rfl rfl dX2_read_6 ?_
  replace h := bind_so h
  obtain ⟨a7, h7, h⟩ := h
  refine r_getT (t := 2) rfl clok_2 F (by decide) h7 tw_447 dX2_read_7 ?_
  replace h := bind_so h
  obtain ⟨a10, h10, h⟩ := h
  refine r_getT (t := 2) rfl clok_6 F (by decide) h10 tw_218 dX2_read_10 ?_
  replace h := bind_so h
  obtain ⟨M13, h13, h⟩ := h
  refine r_put clok_2 F (by decide) rfl (by decide) (by decide) h13 tw_448 dX2_read_13 ?_
  refine r_aload_n (j := 0) F rfl rfl dX2_read_16 ?_
  refine r_aload_n (j := 0) F rfl rfl dX2_read_17 ?_
  replace h := bind_so h
  obtain ⟨a18, h18, h⟩ := h
  refine r_getT (t := 2) rfl clok_2 F (by decide) h18 tw_447 dX2_read_18 ?_
  replace h := bind_so h
  obtain ⟨a21, h21, h⟩ := h
  refine r_getT (t := 0) rfl clok_6 F (by decide) h21 tw_220 dX2_read_21 ?_
  replace h := bind_so h
  obtain ⟨M24, h24, h⟩ := h
  refine r_put clok_2 F (by decide) rfl (by decide) (by decide) h24 tw_449 dX2_read_24 ?_
  refine r_aload_n (j := 0) F rfl rfl dX2_read_27 ?_
  refine r_aload_n (j := 0) F rfl rfl dX2_read_28 ?_
  replace h := bind_so h
  obtain ⟨a29, h29, h⟩ := h
  refine r_getT (t := 2) rfl clok_2 F (by decide) h29 tw_447 dX2_read_29 ?_
  replace h := bind_so h
  obtain ⟨a32, h32, h⟩ := h
  refine r_getT (t := 2) rfl clok_6 F (by decide) h32 tw_208 dX2_read_32 ?_
  replace h := bind_so h
  obtain ⟨M35, h35, h⟩ := h
  refine r_put clok_2 F (by decide) rfl (by decide) (by decide) h35 tw_450 dX2_read_35 ?_
  refine r_aload_n (j := 0) F rfl rfl dX2_read_38 ?_
  replace h := bind_so h
  obtain ⟨a39, h39, h⟩ := h
  refine r_getT (t := 2) rfl clok_2 F (by decide) h39 tw_447 dX2_read_39 ?_
  replace h := bind_so h
  obtain ⟨_, g42, h⟩ := h
  replace h := bind_so h
  obtain ⟨q42, h42, h⟩ := h
  refine r_callVK (as := []) (rv := none) (kc := 0) (nc := 0) (tX6_clearTape h42) clok_6 F (gK_so g42) tw_656 tw_649 tw_650 tw_651 tw_114 ⟨by decide, by decide, show (parseMethodDescriptor yX6_clearTape.desc).map (fun d => d.parameters.length) = some 0 by decide +kernel⟩ ⟨by decide, by decide⟩ (Nat.le_of_ble_eq_true rfl) dX2_read_42 (by decide) ?_
  refine r_aload_n (j := 0) F rfl rfl dX2_read_45 ?_
  refine r_iconst F rfl dX2_read_46 ?_
  replace h := bind_so h
  obtain ⟨M47, h47, h⟩ := h
  refine r_putZ clok_2 F (by decide) rfl rfl h47 tw_451 dX2_read_47 ?_
  refine r_aload_n (j := 0) F rfl rfl dX2_read_50 ?_
  replace h := bind_so h
  obtain ⟨a51, h51, h⟩ := h
  refine r_getT (t := 2) rfl clok_2 F (by decide) h51 tw_452 dX2_read_51 ?_
  refine r_iconst F rfl dX2_read_54 ?_
  replace h := bind_so h
  obtain ⟨M55, h55, h⟩ := h
  refine r_put clok_5 F (by decide) rfl (by decide) (by decide) h55 tw_431 dX2_read_55 ?_
  refine r_aload_n (j := 0) F rfl rfl dX2_read_58 ?_
  refine r_iconst F rfl dX2_read_59 ?_
  replace h := bind_so h
  obtain ⟨M60, h60, h⟩ := h
  refine r_put clok_2 F (by decide) rfl (by decide) (by decide) h60 tw_457 dX2_read_60 ?_
  refine r_aload_n (j := 0) F rfl rfl dX2_read_63 ?_
  refine r_iconst F rfl dX2_read_64 ?_
  replace h := bind_so h
  obtain ⟨M65, h65, h⟩ := h
  refine r_put clok_2 F (by decide) rfl (by decide) (by decide) h65 tw_454 dX2_read_65 ?_
  refine r_aload_n (j := 0) F rfl rfl dX2_read_68 ?_
  refine r_iconst F rfl dX2_read_69 ?_
  replace h := bind_so h
  obtain ⟨_, g70, h⟩ := h
  replace h := bind_so h
  obtain ⟨q70, h70, h⟩ := h
  refine r_callVK (as := [vI 0]) (rv := none) (kc := 0) (nc := 0) (tX2_expectPart h70) clok_2 F (gK_so g70) tw_657 tw_659 tw_6 tw_660 tw_119 ⟨by decide, by decide, show (parseMethodDescriptor yX2_expectPart.desc).map (fun d => d.parameters.length) = some 1 by decide +kernel⟩ ⟨by decide, by decide⟩ (Nat.le_of_ble_eq_true rfl) dX2_read_70 (by decide) ?_
  refine r_aload_n (j := 0) F rfl rfl dX2_read_73 ?_
  replace h := bind_so h
  obtain ⟨_, g74, h⟩ := h
  replace h := bind_so h
  obtain ⟨q74, h74, h⟩ := h
  refine r_callVK (as := []) (rv := none) (kc := 0) (nc := 0) (tX2_advance h74) clok_2 F (gK_so g74) tw_661 tw_663 tw_7 tw_664 tw_119 ⟨by decide, by decide, show (parseMethodDescriptor yX2_advance.desc).map (fun d => d.parameters.length) = some 0 by decide +kernel⟩ ⟨by decide, by decide⟩ (Nat.le_of_ble_eq_true rfl) dX2_read_74 (by decide) ?_
  refine r_iconst F rfl dX2_read_77 ?_
  refine r_istore_n (ls' := [(2, vI 0), (0, vR l0), (1, vR l1)]) F rfl (by decide) rfl dX2_read_78 ?_
  refine r_sub [1, 0] (ls' := [(0, vR l0), (2, vI 0)]) rfl ?_
  refine r_wide (k' := 6) (n' := 206) (by decide) (by decide) ?_
  exact tX2_read_79 F h
theorem tX3_init {l0 : Int} {M : Mem} {q : Int × Mem} (h : mX3_init l0 M = some q) : Ct 1 6 23 yX3_init cX3_init 1 none [vR l0] M none q.2 := by
  unfold mX3_init at h
  refine Ct.of (by decide) (Nat.le_of_ble_eq_true rfl) ?_
  intro E p l e s m args below meth c F
  refine r_sub [0] (ls' := [(0, vR l0)]) rfl ?_
  refine r_aload_n (j := 0) F rfl rfl dX3_init_0 ?_
  replace h := bind_so h
  obtain ⟨_, h1, h⟩ := h
  refine r_objK (gK_so h1) (by decide) F tw_155 tw_136 tw_137 ⟨by decide, by decide⟩ (Nat.le_of_ble_eq_true rfl) dX3_init_1 ?_
  refine r_aload_n (j := 0) F rfl rfl dX3_init_4 ?_
  refine r_iconst F rfl dX3_init_5 ?_
  replace h := bind_so h
  obtain ⟨q6, h6, h⟩ := h
  refine r_newaK10 (B := 3) (by decide) F h6 tw_203 dX3_init_6 (by decide) ?_
  refine r_dup1 F rfl dX3_init_8 ?_
  refine r_iconst F rfl dX3_init_9 ?_
  refine r_iconst F rfl dX3_init_10 ?_
  replace h := bind_so h
  obtain ⟨M11, h11, h⟩ := h
  refine r_iast F h11 dX3_init_11 ?_
  refine r_dup1 F rfl dX3_init_12 ?_
  refine r_iconst F rfl dX3_init_13 ?_
  refine r_iconst F rfl dX3_init_14 ?_
  replace h := bind_so h
  obtain ⟨M15, h15, h⟩ := h
  refine r_iast F h15 dX3_init_15 ?_
  refine r_dup1 F rfl dX3_init_16 ?_
  refine r_iconst F rfl dX3_init_17 ?_
  refine r_iconst F rfl dX3_init_18 ?_
  replace h := bind_so h
  obtain ⟨M19, h19, h⟩ := h
  refine r_iast F h19 dX3_init_19 ?_
  replace h := bind_so h
  obtain ⟨M20, h20, h⟩ := h
  refine r_putF clok_3 F (by decide) rfl rfl rfl (by decide) (by decide) h20 tw_156 dX3_init_20 ?_
  refine r_aload_n (j := 0) F rfl rfl dX3_init_23 ?_
  refine r_iconst F rfl dX3_init_24 ?_
  replace h := bind_so h
  obtain ⟨q25, h25, h⟩ := h
  refine r_newaK10 (B := 4) (by decide) F h25 tw_203 dX3_init_25 (by decide) ?_
  replace h := bind_so h
  obtain ⟨M27, h27, h⟩ := h
  refine r_putF clok_3 F (by decide) rfl rfl rfl (by decide) (by decide) h27 tw_161 dX3_init_27 ?_
  refine r_aload_n (j := 0) F rfl rfl dX3_init_30 ?_
  refine r_iconst F rfl dX3_init_31 ?_
  replace h := bind_so h
  obtain ⟨q32, h32, h⟩ := h
  refine r_newaK10 (B := 4) (by decide) F h32 tw_203 dX3_init_32 (by decide) ?_
  replace h := bind_so h
  obtain ⟨M34, h34, h⟩ := h
  refine r_putF clok_3 F (by decide) rfl rfl rfl (by decide) (by decide) h34 tw_164 dX3_init_34 ?_
  refine r_aload_n (j := 0) F rfl rfl dX3_init_37 ?_
  refine r_iconst F rfl dX3_init_38 ?_
  replace h := bind_so h
  obtain ⟨q39, h39, h⟩ := h
  refine r_newaK10 (B := 4) (by decide) F h39 tw_203 dX3_init_39 (by decide) ?_
  replace h := bind_so h
  obtain ⟨M41, h41, h⟩ := h
  refine r_putF clok_3 F (by decide) rfl rfl rfl (by decide) (by decide) h41 tw_167 dX3_init_41 ?_
  refine r_aload_n (j := 0) F rfl rfl dX3_init_44 ?_
  refine r_iconst F rfl dX3_init_45 ?_
  replace h := bind_so h
  obtain ⟨q46, h46, h⟩ := h
  refine r_newaK10 (B := 4) (by decide) F h46 tw_203 dX3_init_46 (by decide) ?_
  replace h := bind_so h
  obtain ⟨M48, h48, h⟩ := h
  refine r_putF clok_3 F (by decide) rfl rfl rfl (by decide) (by decide) h48 tw_170 dX3_init_48 ?_
  refine r_aload_n (j := 0) F rfl rfl dX3_init_51 ?_
  refine r_iconst F rfl dX3_init_52 ?_
  replace h := bind_so h
  obtain ⟨q53, h53, h⟩ := h
  refine r_newaK10 (B := 4) (by decide) F h53 tw_203 dX3_init_53 (by decide) ?_
  replace h := bind_so h
  obtain ⟨M55, h55, h⟩ := h
  refine r_putF clok_3 F (by decide) rfl rfl rfl (by decide) (by decide) h55 tw_173 dX3_init_55 ?_
  refine r_aload_n (j := 0) F rfl rfl dX3_init_58 ?_
  refine r_iconst F rfl dX3_init_59 ?_
  replace h := bind_so h
  obtain ⟨M60, h60, h⟩ := h
  refine r_put clok_3 F (by decide) rfl (by decide) (by decide) h60 tw_177 dX3_init_60 ?_
  refine r_aload_n (j := 0) F rfl rfl dX3_init_63 ?_
  refine r_iconst F rfl dX3_init_64 ?_
  replace h := bind_so h
  obtain ⟨M65, h65, h⟩ := h
  refine r_put clok_3 F (by decide) rfl (by decide) (by decide) h65 tw_181 dX3_init_65 ?_
  obtain rfl := Option.some.inj h
  exact r_vret F dX3_init_68
theorem tX3_isKind {l0 : Int} {M : Mem} {q : Int × Mem} (h : mX3_isKind l0 M = some q) : Ct 0 0 0 yX3_isKind cX3_isKind 1 (some FieldType.boolean) [vI l0] M (some (vI q.1)) q.2 := by
  unfold mX3_isKind at h
  refine Ct.of (by decide) (Nat.le_of_ble_eq_true rfl) ?_
  intro E p l e s m args below meth c F
  refine r_sub [0] (ls' := [(0, vI l0)]) rfl ?_
  refine r_iload_n (j := 0) F rfl rfl dX3_isKind_0 ?_
  refine r_if_lt (tgt := 13) F (by decide) dX3_isKind_1 (fun hc => ?_) (fun hc => ?_)
  · replace h := ite_p h hc
    refine r_iconst F rfl dX3_isKind_13 ?_
    obtain rfl := Option.some.inj h
    exact r_zret (Or.inl rfl) F dX3_isKind_14
  · replace h := ite_n h hc
    refine r_iload_n (j := 0) F rfl rfl dX3_isKind_4 ?_
    refine r_iconst F rfl dX3_isKind_5 ?_
    refine r_icmp_ge (tgt := 13) F (by decide) dX3_isKind_6 (fun hc => ?_) (fun hc => ?_)
    · replace h := ite_p h hc
      refine r_iconst F rfl dX3_isKind_13 ?_
      obtain rfl := Option.some.inj h
      exact r_zret (Or.inl rfl) F dX3_isKind_14
    · replace h := ite_n h hc
      refine r_iconst F rfl dX3_isKind_9 ?_
      refine r_goto (tgt := 14) F (by decide) dX3_isKind_10 ?_
      obtain rfl := Option.some.inj h
      exact r_zret (Or.inr rfl) F dX3_isKind_14
theorem tX3_layOut_69 {E : En} {p : Program} {l : Launch} {e : Env} {s : State} {m : MethodId} {args : Array Value} {below : List Frame} {meth : Method} {c : Code} {q : Int × Mem} {k7 : Int → Int → Mem → Option (Int × Mem)} (hk7 : ∀ {l0 l1 : Int} {M : Mem}, k7 l0 l1 M = some q → G E p l e (rmOf 0 0 0) s m args below meth c 3 (QZ E below args s (rmOf 0 0 0) none q.2) 0 0 M 7 [(0, vR l0), (1, vI l1)] []) {l0 l1 s0 s1 s2 : Int} {M : Mem} (F : Fx E p s m args meth c cX3_layOut 3 yX3_layOut.cls none yX3_layOut.name) (h : mX3_layOut_69 k7 l0 l1 s0 s1 s2 M = some q) : G E p l e (rmOf 0 0 0) s m args below meth c 3 (QZ E below args s (rmOf 0 0 0) none q.2) 0 0 M 69 [(0, vR l0), (1, vI l1)] [vI s2, vI s1, vR s0] := by
  unfold mX3_layOut_69 at h
  replace h := bind_so h
  obtain ⟨M69, h69, h⟩ := h
  refine r_iast F h69 dX3_layOut_69 ?_
  refine r_aload_n (j := 0) F rfl rfl dX3_layOut_70 ?_
  refine r_dup1 F rfl dX3_layOut_71 ?_
  replace h := bind_so h
  obtain ⟨a72, h72, h⟩ := h
  refine r_getT (t := 0) rfl clok_3 F (by decide) h72 tw_181 dX3_layOut_72 ?_
  refine r_aload_n (j := 0) F rfl rfl dX3_layOut_75 ?_
  replace h := bind_so h
  obtain ⟨a76, h76, h⟩ := h
  refine r_getT (t := 2) rfl clok_3 F (by decide) h76 tw_170 dX3_layOut_76 ?_
  refine r_iload_n (j := 1) F rfl rfl dX3_layOut_79 ?_
  replace h := bind_so h
  obtain ⟨a80, h80, h⟩ := h
  refine r_iald F h80 dX3_layOut_80 ?_
  refine r_aload_n (j := 0) F rfl rfl dX3_layOut_81 ?_
  replace h := bind_so h
  obtain ⟨a82, h82, h⟩ := h
  refine r_getT (t := 2) rfl clok_3 F (by decide) h82 tw_173 dX3_layOut_82 ?_
  refine r_iload_n (j := 1) F rfl rfl dX3_layOut_85 ?_
  replace h := bind_so h
  obtain ⟨a86, h86, h⟩ := h
  refine r_iald F h86 dX3_layOut_86 ?_
  refine r_imul F dX3_layOut_87 ?_
  refine r_iadd F dX3_layOut_88 ?_
  replace h := bind_so h
  obtain ⟨M89, h89, h⟩ := h
  refine r_put clok_3 F (by decide) rfl (by decide) (by decide) h89 tw_181 dX3_layOut_89 ?_
  refine r_iinc (j := 1) (ls' := [(1, vI (wI (l1 + 1))), (0, vR l0)]) F rfl (by decide) rfl dX3_layOut_92 ?_
  refine r_goto (tgt := 7) F (by decide) dX3_layOut_95 ?_
  refine r_sub [1, 0] (ls' := [(0, vR l0), (1, vI (wI (l1 + 1)))]) rfl ?_
  exact hk7 h
theorem tbX3_layOut_7 {E : En} {p : Program} {l : Launch} {e : Env} {s : State} {m : MethodId} {args : Array Value} {below : List Frame} {meth : Method} {c : Code} {q : Int × Mem} {k7 : Int → Int → Mem → Option (Int × Mem)} (hk7 : ∀ {l0 l1 : Int} {M : Mem}, k7 l0 l1 M = some q → G E p l e (rmOf 0 0 0) s m args below meth c 3 (QZ E below args s (rmOf 0 0 0) none q.2) 0 0 M 7 [(0, vR l0), (1, vI l1)] []) {l0 l1 : Int} {M : Mem} (F : Fx E p s m args meth c cX3_layOut 3 yX3_layOut.cls none yX3_layOut.name) (h : bX3_layOut_7 k7 l0 l1 M = some q) : G E p l e (rmOf 0 0 0) s m args below meth c 3 (QZ E below args s (rmOf 0 0 0) none q.2) 0 0 M 7 [(0, vR l0), (1, vI l1)] [] := by
  unfold bX3_layOut_7 at h
  refine r_iload_n (j := 1) F rfl rfl dX3_layOut_7 ?_
  refine r_aload_n (j := 0) F rfl rfl dX3_layOut_8 ?_
  replace h := bind_so h
  obtain ⟨a9, h9, h⟩ := h
  refine r_getT (t := 0) rfl clok_3 F (by decide) h9 tw_177 dX3_layOut_9 ?_
  refine r_icmp_ge (tgt := 98) F (by decide) dX3_layOut_12 (fun hc => ?_) (fun hc => ?_)
  · replace h := ite_p h hc
    obtain rfl := Option.some.inj h
    exact r_vret F dX3_layOut_98
  · replace h := ite_n h hc
    refine r_aload_n (j := 0) F rfl rfl dX3_layOut_15 ?_
    replace h := bind_so h
    obtain ⟨a16, h16, h⟩ := h
    refine r_getT (t := 2) rfl clok_3 F (by decide) h16 tw_164 dX3_layOut_16 ?_
    refine r_iload_n (j := 1) F rfl rfl dX3_layOut_19 ?_
    replace h := bind_so h
    obtain ⟨a20, h20, h⟩ := h
    refine r_iald F h20 dX3_layOut_20 ?_
    refine r_istore_n (ls' := [(2, vI a20), (0, vR l0), (1, vI l1)]) F rfl (by decide) rfl dX3_layOut_21 ?_
    refine r_aload_n (j := 1) F rfl rfl dX3_layOut_22 ?_
    replace h := bind_so h
    obtain ⟨a23, h23, h⟩ := h
    refine r_getT (t := 2) rfl clok_3 F (by decide) h23 tw_167 dX3_layOut_23 ?_
    refine r_iload_n (j := 2) F rfl rfl dX3_layOut_26 ?_
    refine r_aload_n (j := 1) F rfl rfl dX3_layOut_27 ?_
    replace h := bind_so h
    obtain ⟨a28, h28, h⟩ := h
    refine r_getT (t := 0) rfl clok_3 F (by decide) h28 tw_181 dX3_layOut_28 ?_
    replace h := bind_so h
    obtain ⟨M31, h31, h⟩ := h
    refine r_iast F h31 dX3_layOut_31 ?_
    refine r_aload_n (j := 1) F rfl rfl dX3_layOut_32 ?_
    replace h := bind_so h
    obtain ⟨a33, h33, h⟩ := h
    refine r_getT (t := 2) rfl clok_3 F (by decide) h33 tw_170 dX3_layOut_33 ?_
    refine r_iload_n (j := 2) F rfl rfl dX3_layOut_36 ?_
    refine r_aload_n (j := 1) F rfl rfl dX3_layOut_37 ?_
    replace h := bind_so h
    obtain ⟨a38, h38, h⟩ := h
    refine r_getT (t := 2) rfl clok_3 F (by decide) h38 tw_156 dX3_layOut_38 ?_
    refine r_aload_n (j := 1) F rfl rfl dX3_layOut_41 ?_
    replace h := bind_so h
    obtain ⟨a42, h42, h⟩ := h
    refine r_getT (t := 2) rfl clok_3 F (by decide) h42 tw_161 dX3_layOut_42 ?_
    refine r_iload_n (j := 2) F rfl rfl dX3_layOut_45 ?_
    replace h := bind_so h
    obtain ⟨a46, h46, h⟩ := h
    refine r_iald F h46 dX3_layOut_46 ?_
    replace h := bind_so h
    obtain ⟨a47, h47, h⟩ := h
    refine r_iald F h47 dX3_layOut_47 ?_
    replace h := bind_so h
    obtain ⟨M48, h48, h⟩ := h
    refine r_iast F h48 dX3_layOut_48 ?_
    refine r_aload_n (j := 1) F rfl rfl dX3_layOut_49 ?_
    replace h := bind_so h
    obtain ⟨a50, h50, h⟩ := h
    refine r_getT (t := 2) rfl clok_3 F (by decide) h50 tw_173 dX3_layOut_50 ?_
    refine r_iload_n (j := 2) F rfl rfl dX3_layOut_53 ?_
    refine r_iload_n (j := 0) F rfl rfl dX3_layOut_54 ?_
    refine r_iconst F rfl dX3_layOut_55 ?_
    refine r_icmp_ne (tgt := 63) F (by decide) dX3_layOut_56 (fun hc => ?_) (fun hc => ?_)
    · replace h := ite_n h hc
      refine r_aload_n (j := 1) F rfl rfl dX3_layOut_63 ?_
      replace h := bind_so h
      obtain ⟨a64, h64, h⟩ := h
      refine r_getT (t := 2) rfl clok_3 F (by decide) h64 tw_156 dX3_layOut_64 ?_
      refine r_iload_n (j := 0) F rfl rfl dX3_layOut_67 ?_
      replace h := bind_so h
      obtain ⟨a68, h68, h⟩ := h
      refine r_iald F h68 dX3_layOut_68 ?_
      refine r_sub [1, 2] (ls' := [(0, vR l0), (1, vI l1)]) rfl ?_
      exact tX3_layOut_69 (fun h => hk7 h) F h
    · replace h := ite_p h hc
      refine r_iconst F rfl dX3_layOut_59 ?_
      refine r_goto (tgt := 69) F (by decide) dX3_layOut_60 ?_
      refine r_sub [1, 2] (ls' := [(0, vR l0), (1, vI l1)]) rfl ?_
      exact tX3_layOut_69 (fun h => hk7 h) F h
theorem tX3_layOut_7 {E : En} {p : Program} {l : Launch} {e : Env} {s : State} {m : MethodId} {args : Array Value} {below : List Frame} {meth : Method} {c : Code} {q : Int × Mem} (F : Fx E p s m args meth c cX3_layOut 3 yX3_layOut.cls none yX3_layOut.name) : ∀ {fu : Nat} {l0 l1 : Int} {M : Mem}, mX3_layOut_7 fu l0 l1 M = some q → G E p l e (rmOf 0 0 0) s m args below meth c 3 (QZ E below args s (rmOf 0 0 0) none q.2) 0 0 M 7 [(0, vR l0), (1, vI l1)] [] := by
  intro fu
  induction fu with
  | zero => intro l0 l1 M h; exact nomatch (show (none : Option (Int × Mem)) = some q from h)
  | succ fu ih => intro l0 l1 M h; exact tbX3_layOut_7  (fun h => ih h) F h
theorem tX3_layOut {l0 : Int} {M : Mem} {q : Int × Mem} (h : mX3_layOut l0 M = some q) : Ct 0 0 0 yX3_layOut cX3_layOut 3 none [vR l0] M none q.2 := by
  unfold mX3_layOut at h
  refine Ct.of (by decide) (Nat.le_of_ble_eq_true rfl) ?_
  intro E p l e s m args below meth c F
  refine r_sub [0] (ls' := [(0, vR l0)]) rfl ?_
  refine r_aload_n (j := 0) F rfl rfl dX3_layOut_0 ?_
  refine r_iconst F rfl dX3_layOut_1 ?_
  replace h := bind_so h
  obtain ⟨M2, h2, h⟩ := h
  refine r_put clok_3 F (by decide) rfl (by decide) (by decide) h2 tw_181 dX3_layOut_2 ?_
  refine r_iconst F rfl dX3_layOut_5 ?_
  refine r_istore_n (ls' := [(1, vI 0), (0, vR l0)]) F rfl (by decide) rfl dX3_layOut_6 ?_
  refine r_sub [1, 0] (ls' := [(0, vR l0), (1, vI 0)]) rfl ?_
  exact tX3_layOut_7 F h
theorem tX3_copy {l0 l1 : Int} {M : Mem} {q : Int × Mem} (h : mX3_copy l0 l1 M = some q) : Ct 1 0 0 yX3_copy cX3_copy 2 none [vR l0, vR l1] M none q.2 := by
  unfold mX3_copy at h
  refine Ct.of (by decide) (Nat.le_of_ble_eq_true rfl) ?_
  intro E p l e s m args below meth c F
  refine r_sub [0, 1] (ls' := [(0, vR l0), (1, vR l1)]) rfl ?_
  refine r_aload_n (j := 1) F rfl rfl dX3_copy_0 ?_
  replace h := bind_so h
  obtain ⟨a1, h1, h⟩ := h
  refine r_getT (t := 2) rfl clok_3 F (by decide) h1 tw_156 dX3_copy_1 ?_
  refine r_iconst F rfl dX3_copy_4 ?_
  refine r_aload_n (j := 0) F rfl rfl dX3_copy_5 ?_
  replace h := bind_so h
  obtain ⟨a6, h6, h⟩ := h
  refine r_getT (t := 2) rfl clok_3 F (by decide) h6 tw_156 dX3_copy_6 ?_
  refine r_iconst F rfl dX3_copy_9 ?_
  refine r_iconst F rfl dX3_copy_10 ?_
  replace h := bind_so h
  obtain ⟨M11, h11, h⟩ := h
  refine r_copyi F h11 tw_1120 tw_931 tw_930 tw_128 ⟨by decide, by decide⟩ (Nat.le_of_ble_eq_true rfl) dX3_copy_11 ?_
  refine r_aload_n (j := 1) F rfl rfl dX3_copy_14 ?_
  replace h := bind_so h
  obtain ⟨a15, h15, h⟩ := h
  refine r_getT (t := 2) rfl clok_3 F (by decide) h15 tw_161 dX3_copy_15 ?_
  refine r_iconst F rfl dX3_copy_18 ?_
  refine r_aload_n (j := 0) F rfl rfl dX3_copy_19 ?_
  replace h := bind_so h
  obtain ⟨a20, h20, h⟩ := h
  refine r_getT (t := 2) rfl clok_3 F (by decide) h20 tw_161 dX3_copy_20 ?_
  refine r_iconst F rfl dX3_copy_23 ?_
  refine r_iconst F rfl dX3_copy_24 ?_
  replace h := bind_so h
  obtain ⟨M25, h25, h⟩ := h
  refine r_copyi F h25 tw_1120 tw_931 tw_930 tw_128 ⟨by decide, by decide⟩ (Nat.le_of_ble_eq_true rfl) dX3_copy_25 ?_
  refine r_aload_n (j := 1) F rfl rfl dX3_copy_28 ?_
  replace h := bind_so h
  obtain ⟨a29, h29, h⟩ := h
  refine r_getT (t := 2) rfl clok_3 F (by decide) h29 tw_164 dX3_copy_29 ?_
  refine r_iconst F rfl dX3_copy_32 ?_
  refine r_aload_n (j := 0) F rfl rfl dX3_copy_33 ?_
  replace h := bind_so h
  obtain ⟨a34, h34, h⟩ := h
  refine r_getT (t := 2) rfl clok_3 F (by decide) h34 tw_164 dX3_copy_34 ?_
  refine r_iconst F rfl dX3_copy_37 ?_
  refine r_iconst F rfl dX3_copy_38 ?_
  replace h := bind_so h
  obtain ⟨M39, h39, h⟩ := h
  refine r_copyi F h39 tw_1120 tw_931 tw_930 tw_128 ⟨by decide, by decide⟩ (Nat.le_of_ble_eq_true rfl) dX3_copy_39 ?_
  refine r_aload_n (j := 0) F rfl rfl dX3_copy_42 ?_
  refine r_aload_n (j := 1) F rfl rfl dX3_copy_43 ?_
  replace h := bind_so h
  obtain ⟨a44, h44, h⟩ := h
  refine r_getT (t := 0) rfl clok_3 F (by decide) h44 tw_177 dX3_copy_44 ?_
  replace h := bind_so h
  obtain ⟨M47, h47, h⟩ := h
  refine r_put clok_3 F (by decide) rfl (by decide) (by decide) h47 tw_177 dX3_copy_47 ?_
  refine r_aload_n (j := 0) F rfl rfl dX3_copy_50 ?_
  replace h := bind_so h
  obtain ⟨_, g51, h⟩ := h
  replace h := bind_so h
  obtain ⟨q51, h51, h⟩ := h
  refine r_callV (as := []) (rv := none) (kc := 0) (nc := 0) (tX3_layOut h51) clok_3 F (gK_so g51) tw_514 tw_516 tw_0 tw_517 tw_115 ⟨by decide, by decide, show (parseMethodDescriptor yX3_layOut.desc).map (fun d => d.parameters.length) = some 0 by decide +kernel⟩ ⟨by decide, by decide⟩ (Nat.le_of_ble_eq_true rfl) dX3_copy_51 ?_
  obtain rfl := Option.some.inj h
  exact r_vret F dX3_copy_54
theorem tX3_resize {l0 l1 l2 : Int} {M : Mem} {q : Int × Mem} (h : mX3_resize l0 l1 l2 M = some q) : Ct 1 0 0 yX3_resize cX3_resize 3 (some FieldType.boolean) [vR l0, vI l1, vI l2] M (some (vI q.1)) q.2 := by
  unfold mX3_resize at h
  refine Ct.of (by decide) (Nat.le_of_ble_eq_true rfl) ?_
  intro E p l e s m args below meth c F
  refine r_sub [0, 1, 2] (ls' := [(0, vR l0), (1, vI l1), (2, vI l2)]) rfl ?_
  refine r_iload_n (j := 1) F rfl rfl dX3_resize_0 ?_
  replace h := bind_so h
  obtain ⟨q1, h1, h⟩ := h
  refine r_callS (as := [vI l1]) (rv := (some (vI q1.1))) (kc := 0) (nc := 0) (tX3_isKind h1) F tw_511 tw_512 tw_513 tw_115 ⟨by decide, by decide, show (parseMethodDescriptor yX3_isKind.desc).map (fun d => d.parameters.length) = some 1 by decide +kernel⟩ ⟨by decide, by decide⟩ (Nat.le_of_ble_eq_true rfl) dX3_resize_1 ?_
  refine r_if_eq (tgt := 27) F (by decide) dX3_resize_4 (fun hc => ?_) (fun hc => ?_)
  · replace h := ite_p h hc
    refine r_iconst F rfl dX3_resize_27 ?_
    obtain rfl := Option.some.inj h
    exact r_zret (Or.inl rfl) F dX3_resize_28
  · replace h := ite_n h hc
    refine r_iload_n (j := 2) F rfl rfl dX3_resize_7 ?_
    refine r_iconst F rfl dX3_resize_8 ?_
    refine r_icmp_lt (tgt := 27) F (by decide) dX3_resize_9 (fun hc => ?_) (fun hc => ?_)
    · replace h := ite_p h hc
      refine r_iconst F rfl dX3_resize_27 ?_
      obtain rfl := Option.some.inj h
      exact r_zret (Or.inl rfl) F dX3_resize_28
    · replace h := ite_n h hc
      refine r_iload_n (j := 2) F rfl rfl dX3_resize_12 ?_
      refine r_iconst F rfl dX3_resize_13 ?_
      refine r_icmp_gt (tgt := 27) F (by decide) dX3_resize_14 (fun hc => ?_) (fun hc => ?_)
      · replace h := ite_p h hc
        refine r_iconst F rfl dX3_resize_27 ?_
        obtain rfl := Option.some.inj h
        exact r_zret (Or.inl rfl) F dX3_resize_28
      · replace h := ite_n h hc
        refine r_aload_n (j := 0) F rfl rfl dX3_resize_17 ?_
        replace h := bind_so h
        obtain ⟨a18, h18, h⟩ := h
        refine r_getT (t := 2) rfl clok_3 F (by decide) h18 tw_156 dX3_resize_18 ?_
        refine r_iload_n (j := 1) F rfl rfl dX3_resize_21 ?_
        replace h := bind_so h
        obtain ⟨a22, h22, h⟩ := h
        refine r_iald F h22 dX3_resize_22 ?_
        refine r_iload_n (j := 2) F rfl rfl dX3_resize_23 ?_
        refine r_icmp_ne (tgt := 29) F (by decide) dX3_resize_24 (fun hc => ?_) (fun hc => ?_)
        · replace h := ite_n h hc
          refine r_aload_n (j := 0) F rfl rfl dX3_resize_29 ?_
          replace h := bind_so h
          obtain ⟨a30, h30, h⟩ := h
          refine r_getT (t := 2) rfl clok_3 F (by decide) h30 tw_156 dX3_resize_30 ?_
          refine r_iload_n (j := 1) F rfl rfl dX3_resize_33 ?_
          refine r_iload_n (j := 2) F rfl rfl dX3_resize_34 ?_
          replace h := bind_so h
          obtain ⟨M35, h35, h⟩ := h
          refine r_iast F h35 dX3_resize_35 ?_
          refine r_aload_n (j := 0) F rfl rfl dX3_resize_36 ?_
          replace h := bind_so h
          obtain ⟨_, g37, h⟩ := h
          replace h := bind_so h
          obtain ⟨q37, h37, h⟩ := h
          refine r_callV (as := []) (rv := none) (kc := 0) (nc := 0) (tX3_layOut h37) clok_3 F (gK_so g37) tw_514 tw_516 tw_0 tw_517 tw_115 ⟨by decide, by decide, show (parseMethodDescriptor yX3_layOut.desc).map (fun d => d.parameters.length) = some 0 by decide +kernel⟩ ⟨by decide, by decide⟩ (Nat.le_of_ble_eq_true rfl) dX3_resize_37 ?_
          refine r_iconst F rfl dX3_resize_40 ?_
          obtain rfl := Option.some.inj h
          exact r_zret (Or.inr rfl) F dX3_resize_41
        · replace h := ite_p h hc
          refine r_iconst F rfl dX3_resize_27 ?_
          obtain rfl := Option.some.inj h
          exact r_zret (Or.inl rfl) F dX3_resize_28
theorem tX3_addRelation_29 {E : En} {p : Program} {l : Launch} {e : Env} {s : State} {m : MethodId} {args : Array Value} {below : List Frame} {meth : Method} {c : Code} {q : Int × Mem} {l0 l1 l2 : Int} {M : Mem} (F : Fx E p s m args meth c cX3_addRelation 3 yX3_addRelation.cls (some FieldType.int) yX3_addRelation.name) (h : mX3_addRelation_29 l0 l1 l2 M = some q) : G E p l e (rmOf 1 0 0) s m args below meth c 3 (QZ E below args s (rmOf 1 0 0) (some (vI q.1)) q.2) 0 0 M 29 [(0, vR l0), (1, vI l1), (2, vI l2)] [] := by
  unfold mX3_addRelation_29 at h
  refine r_aload_n (j := 0) F rfl rfl dX3_addRelation_29 ?_
  replace h := bind_so h
  obtain ⟨a30, h30, h⟩ := h
  refine r_getT (t := 2) rfl clok_3 F (by decide) h30 tw_161 dX3_addRelation_30 ?_
  refine r_aload_n (j := 0) F rfl rfl dX3_addRelation_33 ?_
  replace h := bind_so h
  obtain ⟨a34, h34, h⟩ := h
  refine r_getT (t := 0) rfl clok_3 F (by decide) h34 tw_177 dX3_addRelation_34 ?_
  refine r_iload_n (j := 1) F rfl rfl dX3_addRelation_37 ?_
  replace h := bind_so h
  obtain ⟨M38, h38, h⟩ := h
  refine r_iast F h38 dX3_addRelation_38 ?_
  refine r_aload_n (j := 0) F rfl rfl dX3_addRelation_39 ?_
  replace h := bind_so h
  obtain ⟨a40, h40, h⟩ := h
  refine r_getT (t := 2) rfl clok_3 F (by decide) h40 tw_164 dX3_addRelation_40 ?_
  refine r_aload_n (j := 0) F rfl rfl dX3_addRelation_43 ?_
  replace h := bind_so h
  obtain ⟨a44, h44, h⟩ := h
  refine r_getT (t := 0) rfl clok_3 F (by decide) h44 tw_177 dX3_addRelation_44 ?_
  refine r_iload_n (j := 2) F rfl rfl dX3_addRelation_47 ?_
  replace h := bind_so h
  obtain ⟨M48, h48, h⟩ := h
  refine r_iast F h48 dX3_addRelation_48 ?_
  refine r_aload_n (j := 0) F rfl rfl dX3_addRelation_49 ?_
  refine r_dup1 F rfl dX3_addRelation_50 ?_
  replace h := bind_so h
  obtain ⟨a51, h51, h⟩ := h
  refine r_getT (t := 0) rfl clok_3 F (by decide) h51 tw_177 dX3_addRelation_51 ?_
  refine r_iconst F rfl dX3_addRelation_54 ?_
  refine r_iadd F dX3_addRelation_55 ?_
  replace h := bind_so h
  obtain ⟨M56, h56, h⟩ := h
  refine r_put clok_3 F (by decide) rfl (by decide) (by decide) h56 tw_177 dX3_addRelation_56 ?_
  refine r_aload_n (j := 0) F rfl rfl dX3_addRelation_59 ?_
  replace h := bind_so h
  obtain ⟨_, g60, h⟩ := h
  replace h := bind_so h
  obtain ⟨q60, h60, h⟩ := h
  refine r_callV (as := []) (rv := none) (kc := 0) (nc := 0) (tX3_layOut h60) clok_3 F (gK_so g60) tw_514 tw_516 tw_0 tw_517 tw_115 ⟨by decide, by decide, show (parseMethodDescriptor yX3_layOut.desc).map (fun d => d.parameters.length) = some 0 by decide +kernel⟩ ⟨by decide, by decide⟩ (Nat.le_of_ble_eq_true rfl) dX3_addRelation_60 ?_
  refine r_aload_n (j := 0) F rfl rfl dX3_addRelation_63 ?_
  replace h := bind_so h
  obtain ⟨a64, h64, h⟩ := h
  refine r_getT (t := 0) rfl clok_3 F (by decide) h64 tw_177 dX3_addRelation_64 ?_
  refine r_iconst F rfl dX3_addRelation_67 ?_
  refine r_isub F dX3_addRelation_68 ?_
  obtain rfl := Option.some.inj h
  exact r_iret F dX3_addRelation_69
theorem tX3_addRelation {l0 l1 l2 : Int} {M : Mem} {q : Int × Mem} (h : mX3_addRelation l0 l1 l2 M = some q) : Ct 1 0 0 yX3_addRelation cX3_addRelation 3 (some FieldType.int) [vR l0, vI l1, vI l2] M (some (vI q.1)) q.2 := by
  unfold mX3_addRelation at h
  refine Ct.of (by decide) (Nat.le_of_ble_eq_true rfl) ?_
  intro E p l e s m args below meth c F
  refine r_sub [0, 1, 2] (ls' := [(0, vR l0), (1, vI l1), (2, vI l2)]) rfl ?_
  refine r_aload_n (j := 0) F rfl rfl dX3_addRelation_0 ?_
  replace h := bind_so h
  obtain ⟨a1, h1, h⟩ := h
  refine r_getT (t := 0) rfl clok_3 F (by decide) h1 tw_177 dX3_addRelation_1 ?_
  refine r_iconst F rfl dX3_addRelation_4 ?_
  refine r_icmp_ge (tgt := 27) F (by decide) dX3_addRelation_5 (fun hc => ?_) (fun hc => ?_)
  · replace h := ite_p h hc
    refine r_iconst F rfl dX3_addRelation_27 ?_
    obtain rfl := Option.some.inj h
    exact r_iret F dX3_addRelation_28
  · replace h := ite_n h hc
    refine r_iload_n (j := 1) F rfl rfl dX3_addRelation_8 ?_
    replace h := bind_so h
    obtain ⟨q9, h9, h⟩ := h
    refine r_callS (as := [vI l1]) (rv := (some (vI q9.1))) (kc := 0) (nc := 0) (tX3_isKind h9) F tw_511 tw_512 tw_513 tw_115 ⟨by decide, by decide, show (parseMethodDescriptor yX3_isKind.desc).map (fun d => d.parameters.length) = some 1 by decide +kernel⟩ ⟨by decide, by decide⟩ (Nat.le_of_ble_eq_true rfl) dX3_addRelation_9 ?_
    refine r_if_eq (tgt := 27) F (by decide) dX3_addRelation_12 (fun hc => ?_) (fun hc => ?_)
    · replace h := ite_p h hc
      refine r_iconst F rfl dX3_addRelation_27 ?_
      obtain rfl := Option.some.inj h
      exact r_iret F dX3_addRelation_28
    · replace h := ite_n h hc
      refine r_iload_n (j := 2) F rfl rfl dX3_addRelation_15 ?_
      refine r_iconst F rfl dX3_addRelation_16 ?_
      refine r_icmp_eq (tgt := 29) F (by decide) dX3_addRelation_17 (fun hc => ?_) (fun hc => ?_)
      · replace h := ite_p h hc
        refine r_sub [0, 1, 2] (ls' := [(0, vR l0), (1, vI l1), (2, vI l2)]) rfl ?_
        exact tX3_addRelation_29 F h
      · replace h := ite_n h hc
        refine r_iload_n (j := 2) F rfl rfl dX3_addRelation_20 ?_
        replace h := bind_so h
        obtain ⟨q21, h21, h⟩ := h
        refine r_callS (as := [vI l2]) (rv := (some (vI q21.1))) (kc := 0) (nc := 0) (tX3_isKind h21) F tw_511 tw_512 tw_513 tw_115 ⟨by decide, by decide, show (parseMethodDescriptor yX3_isKind.desc).map (fun d => d.parameters.length) = some 1 by decide +kernel⟩ ⟨by decide, by decide⟩ (Nat.le_of_ble_eq_true rfl) dX3_addRelation_21 ?_
        refine r_if_ne (tgt := 29) F (by decide) dX3_addRelation_24 (fun hc => ?_) (fun hc => ?_)
        · replace h := ite_n h hc
          refine r_sub [0, 1, 2] (ls' := [(0, vR l0), (1, vI l1), (2, vI l2)]) rfl ?_
          exact tX3_addRelation_29 F h
        · replace h := ite_p h hc
          refine r_iconst F rfl dX3_addRelation_27 ?_
          obtain rfl := Option.some.inj h
          exact r_iret F dX3_addRelation_28
theorem tX3_relationAt_24 {E : En} {p : Program} {l : Launch} {e : Env} {s : State} {m : MethodId} {args : Array Value} {below : List Frame} {meth : Method} {c : Code} {q : Int × Mem} {k4 : Int → Int → Int → Int → Mem → Option (Int × Mem)} (hk4 : ∀ {l0 l1 l2 l3 : Int} {M : Mem}, k4 l0 l1 l2 l3 M = some q → G E p l e (rmOf 0 0 0) s m args below meth c 4 (QZ E below args s (rmOf 0 0 0) (some (vI q.1)) q.2) 0 0 M 4 [(0, vR l0), (1, vI l1), (2, vI l2), (3, vI l3)] []) {l0 l1 l2 l3 : Int} {M : Mem} (F : Fx E p s m args meth c cX3_relationAt 4 yX3_relationAt.cls (some FieldType.int) yX3_relationAt.name) (h : mX3_relationAt_24 k4 l0 l1 l2 l3 M = some q) : G E p l e (rmOf 0 0 0) s m args below meth c 4 (QZ E below args s (rmOf 0 0 0) (some (vI q.1)) q.2) 0 0 M 24 [(0, vR l0), (1, vI l1), (2, vI l2), (3, vI l3)] [] := by
  unfold mX3_relationAt_24 at h
  refine r_iinc (j := 3) (ls' := [(3, vI (wI (l3 + 1))), (0, vR l0), (1, vI l1), (2, vI l2)]) F rfl (by decide) rfl dX3_relationAt_24 ?_
  refine r_goto (tgt := 4) F (by decide) dX3_relationAt_27 ?_
  refine r_sub [1, 2, 3, 0] (ls' := [(0, vR l0), (1, vI l1), (2, vI l2), (3, vI (wI (l3 + 1)))]) rfl ?_
  exact hk4 h
theorem tbX3_relationAt_4 {E : En} {p : Program} {l : Launch} {e : Env} {s : State} {m : MethodId} {args : Array Value} {below : List Frame} {meth : Method} {c : Code} {q : Int × Mem} {k4 : Int → Int → Int → Int → Mem → Option (Int × Mem)} (hk4 : ∀ {l0 l1 l2 l3 : Int} {M : Mem}, k4 l0 l1 l2 l3 M = some q → G E p l e (rmOf 0 0 0) s m args below meth c 4 (QZ E below args s (rmOf 0 0 0) (some (vI q.1)) q.2) 0 0 M 4 [(0, vR l0), (1, vI l1), (2, vI l2), (3, vI l3)] []) {l0 l1 l2 l3 : Int} {M : Mem} (F : Fx E p s m args meth c cX3_relationAt 4 yX3_relationAt.cls (some FieldType.int) yX3_relationAt.name) (h : bX3_relationAt_4 k4 l0 l1 l2 l3 M = some q) : G E p l e (rmOf 0 0 0) s m args below meth c 4 (QZ E below args s (rmOf 0 0 0) (some (vI q.1)) q.2) 0 0 M 4 [(0, vR l0), (1, vI l1), (2, vI l2), (3, vI l3)] [] := by
  unfold bX3_relationAt_4 at h
  refine r_iload_n (j := 3) F rfl rfl dX3_relationAt_4 ?_
  refine r_aload_n (j := 0) F rfl rfl dX3_relationAt_5 ?_
  replace h := bind_so h
  obtain ⟨a6, h6, h⟩ := h
  refine r_getT (t := 0) rfl clok_3 F (by decide) h6 tw_177 dX3_relationAt_6 ?_
  refine r_icmp_ge (tgt := 30) F (by decide) dX3_relationAt_9 (fun hc => ?_) (fun hc => ?_)
  · replace h := ite_p h hc
    refine r_iload_n (j := 2) F rfl rfl dX3_relationAt_30 ?_
    obtain rfl := Option.some.inj h
    exact r_iret F dX3_relationAt_31
  · replace h := ite_n h hc
    refine r_aload_n (j := 0) F rfl rfl dX3_relationAt_12 ?_
    replace h := bind_so h
    obtain ⟨a13, h13, h⟩ := h
    refine r_getT (t := 2) rfl clok_3 F (by decide) h13 tw_167 dX3_relationAt_13 ?_
    refine r_iload_n (j := 3) F rfl rfl dX3_relationAt_16 ?_
    replace h := bind_so h
    obtain ⟨a17, h17, h⟩ := h
    refine r_iald F h17 dX3_relationAt_17 ?_
    refine r_iload_n (j := 1) F rfl rfl dX3_relationAt_18 ?_
    refine r_icmp_gt (tgt := 24) F (by decide) dX3_relationAt_19 (fun hc => ?_) (fun hc => ?_)
    · replace h := ite_p h hc
      refine r_sub [0, 1, 2, 3] (ls' := [(0, vR l0), (1, vI l1), (2, vI l2), (3, vI l3)]) rfl ?_
      exact tX3_relationAt_24 (fun h => hk4 h) F h
    · replace h := ite_n h hc
      refine r_iload_n (j := 3) F rfl rfl dX3_relationAt_22 ?_
      refine r_istore_n (ls' := [(2, vI l3), (0, vR l0), (1, vI l1), (3, vI l3)]) F rfl (by decide) rfl dX3_relationAt_23 ?_
      refine r_sub [1, 2, 0, 3] (ls' := [(0, vR l0), (1, vI l1), (2, vI l3), (3, vI l3)]) rfl ?_
      exact tX3_relationAt_24 (fun h => hk4 h) F h
theorem tX3_relationAt_4 {E : En} {p : Program} {l : Launch} {e : Env} {s : State} {m : MethodId} {args : Array Value} {below : List Frame} {meth : Method} {c : Code} {q : Int × Mem} (F : Fx E p s m args meth c cX3_relationAt 4 yX3_relationAt.cls (some FieldType.int) yX3_relationAt.name) : ∀ {fu : Nat} {l0 l1 l2 l3 : Int} {M : Mem}, mX3_relationAt_4 fu l0 l1 l2 l3 M = some q → G E p l e (rmOf 0 0 0) s m args below meth c 4 (QZ E below args s (rmOf 0 0 0) (some (vI q.1)) q.2) 0 0 M 4 [(0, vR l0), (1, vI l1), (2, vI l2), (3, vI l3)] [] := by
  intro fu
  induction fu with
  | zero => intro l0 l1 l2 l3 M h; exact nomatch (show (none : Option (Int × Mem)) = some q from h)
  | succ fu ih => intro l0 l1 l2 l3 M h; exact tbX3_relationAt_4  (fun h => ih h) F h
theorem tX3_relationAt {l0 l1 : Int} {M : Mem} {q : Int × Mem} (h : mX3_relationAt l0 l1 M = some q) : Ct 0 0 0 yX3_relationAt cX3_relationAt 4 (some FieldType.int) [vR l0, vI l1] M (some (vI q.1)) q.2 := by
  unfold mX3_relationAt at h
  refine Ct.of (by decide) (Nat.le_of_ble_eq_true rfl) ?_
  intro E p l e s m args below meth c F
  refine r_sub [0, 1] (ls' := [(0, vR l0), (1, vI l1)]) rfl ?_
  refine r_iconst F rfl dX3_relationAt_0 ?_
  refine r_istore_n (ls' := [(2, vI (-1)), (0, vR l0), (1, vI l1)]) F rfl (by decide) rfl dX3_relationAt_1 ?_
  refine r_iconst F rfl dX3_relationAt_2 ?_
  refine r_istore_n (ls' := [(3, vI 0), (2, vI (-1)), (0, vR l0), (1, vI l1)]) F rfl (by decide) rfl dX3_relationAt_3 ?_
  refine r_sub [2, 3, 1, 0] (ls' := [(0, vR l0), (1, vI l1), (2, vI (-1)), (3, vI 0)]) rfl ?_
  exact tX3_relationAt_4 F h
theorem tbX3_firstAt_12 {E : En} {p : Program} {l : Launch} {e : Env} {s : State} {m : MethodId} {args : Array Value} {below : List Frame} {meth : Method} {c : Code} {q : Int × Mem} {k12 : Int → Int → Int → Int → Mem → Option (Int × Mem)} (hk12 : ∀ {l0 l1 l2 l3 : Int} {M : Mem}, k12 l0 l1 l2 l3 M = some q → G E p l e (rmOf 1 0 0) s m args below meth c 4 (QZ E below args s (rmOf 1 0 0) (some (vI q.1)) q.2) 0 0 M 12 [(0, vR l0), (1, vI l1), (2, vI l2), (3, vI l3)] []) {l0 l1 l2 l3 : Int} {M : Mem} (F : Fx E p s m args meth c cX3_firstAt 4 yX3_firstAt.cls (some FieldType.int) yX3_firstAt.name) (h : bX3_firstAt_12 k12 l0 l1 l2 l3 M = some q) : G E p l e (rmOf 1 0 0) s m args below meth c 4 (QZ E below args s (rmOf 1 0 0) (some (vI q.1)) q.2) 0 0 M 12 [(0, vR l0), (1, vI l1), (2, vI l2), (3, vI l3)] [] := by
  unfold bX3_firstAt_12 at h
  refine r_iload_n (j := 3) F rfl rfl dX3_firstAt_12 ?_
  refine r_aload_n (j := 0) F rfl rfl dX3_firstAt_13 ?_
  replace h := bind_so h
  obtain ⟨a14, h14, h⟩ := h
  refine r_getT (t := 2) rfl clok_3 F (by decide) h14 tw_170 dX3_firstAt_14 ?_
  refine r_iload_n (j := 1) F rfl rfl dX3_firstAt_17 ?_
  replace h := bind_so h
  obtain ⟨a18, h18, h⟩ := h
  refine r_iald F h18 dX3_firstAt_18 ?_
  refine r_icmp_ge (tgt := 51) F (by decide) dX3_firstAt_19 (fun hc => ?_) (fun hc => ?_)
  · replace h := ite_p h hc
    refine r_iconst F rfl dX3_firstAt_51 ?_
    obtain rfl := Option.some.inj h
    exact r_iret F dX3_firstAt_52
  · replace h := ite_n h hc
    refine r_iload_n (j := 2) F rfl rfl dX3_firstAt_22 ?_
    refine r_aload_n (j := 0) F rfl rfl dX3_firstAt_23 ?_
    replace h := bind_so h
    obtain ⟨a24, h24, h⟩ := h
    refine r_getT (t := 2) rfl clok_3 F (by decide) h24 tw_167 dX3_firstAt_24 ?_
    refine r_iload_n (j := 1) F rfl rfl dX3_firstAt_27 ?_
    replace h := bind_so h
    obtain ⟨a28, h28, h⟩ := h
    refine r_iald F h28 dX3_firstAt_28 ?_
    refine r_iload_n (j := 3) F rfl rfl dX3_firstAt_29 ?_
    refine r_iconst F rfl dX3_firstAt_30 ?_
    refine r_iadd F dX3_firstAt_31 ?_
    refine r_aload_n (j := 0) F rfl rfl dX3_firstAt_32 ?_
    replace h := bind_so h
    obtain ⟨a33, h33, h⟩ := h
    refine r_getT (t := 2) rfl clok_3 F (by decide) h33 tw_173 dX3_firstAt_33 ?_
    refine r_iload_n (j := 1) F rfl rfl dX3_firstAt_36 ?_
    replace h := bind_so h
    obtain ⟨a37, h37, h⟩ := h
    refine r_iald F h37 dX3_firstAt_37 ?_
    refine r_imul F dX3_firstAt_38 ?_
    refine r_iadd F dX3_firstAt_39 ?_
    refine r_icmp_ge (tgt := 45) F (by decide) dX3_firstAt_40 (fun hc => ?_) (fun hc => ?_)
    · replace h := ite_p h hc
      refine r_iinc (j := 3) (ls' := [(3, vI (wI (l3 + 1))), (0, vR l0), (1, vI l1), (2, vI l2)]) F rfl (by decide) rfl dX3_firstAt_45 ?_
      refine r_goto (tgt := 12) F (by decide) dX3_firstAt_48 ?_
      refine r_sub [1, 2, 3, 0] (ls' := [(0, vR l0), (1, vI l1), (2, vI l2), (3, vI (wI (l3 + 1)))]) rfl ?_
      exact hk12 h
    · replace h := ite_n h hc
      refine r_iload_n (j := 3) F rfl rfl dX3_firstAt_43 ?_
      obtain rfl := Option.some.inj h
      exact r_iret F dX3_firstAt_44
theorem tX3_firstAt_12 {E : En} {p : Program} {l : Launch} {e : Env} {s : State} {m : MethodId} {args : Array Value} {below : List Frame} {meth : Method} {c : Code} {q : Int × Mem} (F : Fx E p s m args meth c cX3_firstAt 4 yX3_firstAt.cls (some FieldType.int) yX3_firstAt.name) : ∀ {fu : Nat} {l0 l1 l2 l3 : Int} {M : Mem}, mX3_firstAt_12 fu l0 l1 l2 l3 M = some q → G E p l e (rmOf 1 0 0) s m args below meth c 4 (QZ E below args s (rmOf 1 0 0) (some (vI q.1)) q.2) 0 0 M 12 [(0, vR l0), (1, vI l1), (2, vI l2), (3, vI l3)] [] := by
  intro fu
  induction fu with
  | zero => intro l0 l1 l2 l3 M h; exact nomatch (show (none : Option (Int × Mem)) = some q from h)
  | succ fu ih => intro l0 l1 l2 l3 M h; exact tbX3_firstAt_12  (fun h => ih h) F h
theorem tX3_firstAt {l0 l1 l2 : Int} {M : Mem} {q : Int × Mem} (h : mX3_firstAt l0 l1 l2 M = some q) : Ct 1 0 0 yX3_firstAt cX3_firstAt 4 (some FieldType.int) [vR l0, vI l1, vI l2] M (some (vI q.1)) q.2 := by
  unfold mX3_firstAt at h
  refine Ct.of (by decide) (Nat.le_of_ble_eq_true rfl) ?_
  intro E p l e s m args below meth c F
  refine r_sub [0, 1, 2] (ls' := [(0, vR l0), (1, vI l1), (2, vI l2)]) rfl ?_
  refine r_aload_n (j := 0) F rfl rfl dX3_firstAt_0 ?_
  refine r_iload_n (j := 1) F rfl rfl dX3_firstAt_1 ?_
  replace h := bind_so h
  obtain ⟨_, g2, h⟩ := h
  replace h := bind_so h
  obtain ⟨q2, h2, h⟩ := h
  refine r_callV (as := [vI l1]) (rv := (some (vI q2.1))) (kc := 0) (nc := 0) (tX3_hasRelation h2) clok_3 F (gK_so g2) tw_1219 tw_576 tw_577 tw_578 tw_115 ⟨by decide, by decide, show (parseMethodDescriptor yX3_hasRelation.desc).map (fun d => d.parameters.length) = some 1 by decide +kernel⟩ ⟨by decide, by decide⟩ (Nat.le_of_ble_eq_true rfl) dX3_firstAt_2 ?_
  refine r_if_ne (tgt := 10) F (by decide) dX3_firstAt_5 (fun hc => ?_) (fun hc => ?_)
  · replace h := ite_n h hc
    refine r_iconst F rfl dX3_firstAt_10 ?_
    refine r_istore_n (ls' := [(3, vI 0), (0, vR l0), (1, vI l1), (2, vI l2)]) F rfl (by decide) rfl dX3_firstAt_11 ?_
    refine r_sub [1, 2, 3, 0] (ls' := [(0, vR l0), (1, vI l1), (2, vI l2), (3, vI 0)]) rfl ?_
    exact tX3_firstAt_12 F h
  · replace h := ite_p h hc
    refine r_iconst F rfl dX3_firstAt_8 ?_
    obtain rfl := Option.some.inj h
    exact r_iret F dX3_firstAt_9
theorem tX3_secondAt {l0 l1 l2 : Int} {M : Mem} {q : Int × Mem} (h : mX3_secondAt l0 l1 l2 M = some q) : Ct 2 0 0 yX3_secondAt cX3_secondAt 3 (some FieldType.int) [vR l0, vI l1, vI l2] M (some (vI q.1)) q.2 := by
  unfold mX3_secondAt at h
  refine Ct.of (by decide) (Nat.le_of_ble_eq_true rfl) ?_
  intro E p l e s m args below meth c F
  refine r_sub [0, 1, 2] (ls' := [(0, vR l0), (1, vI l1), (2, vI l2)]) rfl ?_
  refine r_aload_n (j := 0) F rfl rfl dX3_secondAt_0 ?_
  refine r_iload_n (j := 1) F rfl rfl dX3_secondAt_1 ?_
  replace h := bind_so h
  obtain ⟨_, g2, h⟩ := h
  replace h := bind_so h
  obtain ⟨q2, h2, h⟩ := h
  refine r_callV (as := [vI l1]) (rv := (some (vI q2.1))) (kc := 0) (nc := 0) (tX3_isOfTwo h2) clok_3 F (gK_so g2) tw_1224 tw_572 tw_573 tw_574 tw_115 ⟨by decide, by decide, show (parseMethodDescriptor yX3_isOfTwo.desc).map (fun d => d.parameters.length) = some 1 by decide +kernel⟩ ⟨by decide, by decide⟩ (Nat.le_of_ble_eq_true rfl) dX3_secondAt_2 ?_
  refine r_if_ne (tgt := 10) F (by decide) dX3_secondAt_5 (fun hc => ?_) (fun hc => ?_)
  · replace h := ite_n h hc
    refine r_iload_n (j := 2) F rfl rfl dX3_secondAt_10 ?_
    refine r_aload_n (j := 0) F rfl rfl dX3_secondAt_11 ?_
    replace h := bind_so h
    obtain ⟨a12, h12, h⟩ := h
    refine r_getT (t := 2) rfl clok_3 F (by decide) h12 tw_167 dX3_secondAt_12 ?_
    refine r_iload_n (j := 1) F rfl rfl dX3_secondAt_15 ?_
    replace h := bind_so h
    obtain ⟨a16, h16, h⟩ := h
    refine r_iald F h16 dX3_secondAt_16 ?_
    refine r_isub F dX3_secondAt_17 ?_
    refine r_aload_n (j := 0) F rfl rfl dX3_secondAt_18 ?_
    refine r_iload_n (j := 1) F rfl rfl dX3_secondAt_19 ?_
    refine r_iload_n (j := 2) F rfl rfl dX3_secondAt_20 ?_
    replace h := bind_so h
    obtain ⟨_, g21, h⟩ := h
    replace h := bind_so h
    obtain ⟨q21, h21, h⟩ := h
    refine r_callV (as := [vI l1, vI l2]) (rv := (some (vI q21.1))) (kc := 0) (nc := 0) (tX3_firstAt h21) clok_3 F (gK_so g21) tw_1225 tw_1216 tw_1217 tw_1218 tw_115 ⟨by decide, by decide, show (parseMethodDescriptor yX3_firstAt.desc).map (fun d => d.parameters.length) = some 2 by decide +kernel⟩ ⟨by decide, by decide⟩ (Nat.le_of_ble_eq_true rfl) dX3_secondAt_21 ?_
    refine r_aload_n (j := 0) F rfl rfl dX3_secondAt_24 ?_
    replace h := bind_so h
    obtain ⟨a25, h25, h⟩ := h
    refine r_getT (t := 2) rfl clok_3 F (by decide) h25 tw_173 dX3_secondAt_25 ?_
    refine r_iload_n (j := 1) F rfl rfl dX3_secondAt_28 ?_
    replace h := bind_so h
    obtain ⟨a29, h29, h⟩ := h
    refine r_iald F h29 dX3_secondAt_29 ?_
    refine r_imul F dX3_secondAt_30 ?_
    refine r_isub F dX3_secondAt_31 ?_
    obtain rfl := Option.some.inj h
    exact r_iret F dX3_secondAt_32
  · replace h := ite_p h hc
    refine r_iconst F rfl dX3_secondAt_8 ?_
    obtain rfl := Option.some.inj h
    exact r_iret F dX3_secondAt_9
theorem tX6_init {l0 : Int} {M : Mem} {q : Int × Mem} (h : mX6_init l0 M = some q) : Ct 2 16 583 yX6_init cX6_init 1 none [vR l0] M none q.2 := by
  unfold mX6_init at h
  refine Ct.of (by decide) (Nat.le_of_ble_eq_true rfl) ?_
  intro E p l e s m args below meth c F
  refine r_sub [0] (ls' := [(0, vR l0)]) rfl ?_
  refine r_aload_n (j := 0) F rfl rfl dX6_init_0 ?_
  replace h := bind_so h
  obtain ⟨_, h1, h⟩ := h
  refine r_objK (gK_so h1) (by decide) F tw_149 tw_136 tw_137 ⟨by decide, by decide⟩ (Nat.le_of_ble_eq_true rfl) dX6_init_1 ?_
  refine r_aload_n (j := 0) F rfl rfl dX6_init_4 ?_
  replace h := bind_so h
  obtain ⟨q5, h5, h⟩ := h
  refine r_newO clok_3 (by decide +kernel) F h5 tw_150 tw_151 tw_115 dX6_init_5 (by decide) ?_
  refine r_dup1 F rfl dX6_init_8 ?_
  replace h := bind_so h
  obtain ⟨_, g9, h⟩ := h
  replace h := bind_so h
  obtain ⟨q9, h9, h⟩ := h
  refine r_callINK (as := []) (rv := none) (kc := 6) (nc := 23) (tX3_init h9) rfl (gK_so g9) (by decide) F (by decide +kernel) tw_153 rfl tw_154 tw_115 ⟨by decide, by decide, show (parseMethodDescriptor yX3_init.desc).map (fun d => d.parameters.length) = some 0 by decide +kernel⟩ ⟨by decide, by decide⟩ (Nat.le_of_ble_eq_true rfl) dX6_init_9 (by decide) ?_
  replace h := bind_so h
  obtain ⟨M12, h12, h⟩ := h
  refine r_putF clok_6 F (by decide) rfl rfl rfl (by decide) (by decide) h12 tw_206 dX6_init_12 ?_
  refine r_aload_n (j := 0) F rfl rfl dX6_init_15 ?_
  refine r_lconst F dX6_init_16 ?_
  refine r_eq (y := 0) rfl ?_
  replace h := bind_so h
  obtain ⟨M17, h17, h⟩ := h
  refine r_put clok_6 F (by decide) rfl (by decide) (by decide) h17 tw_210 dX6_init_17 ?_
  refine r_aload_n (j := 0) F rfl rfl dX6_init_20 ?_
  refine r_iconst F rfl dX6_init_21 ?_
  replace h := bind_so h
  obtain ⟨q22, h22, h⟩ := h
  refine r_newaK13 (B := 4) (by decide) F h22 tw_286 dX6_init_22 (by decide) ?_
  replace h := bind_so h
  obtain ⟨M24, h24, h⟩ := h
  refine r_putF clok_6 F (by decide) rfl rfl rfl (by decide) (by decide) h24 tw_213 dX6_init_24 ?_
  refine r_aload_n (j := 0) F rfl rfl dX6_init_27 ?_
  refine r_iconst F rfl dX6_init_28 ?_
  replace h := bind_so h
  obtain ⟨q29, h29, h⟩ := h
  refine r_newaK11 (B := 4) (by decide) F h29 tw_287 dX6_init_29 (by decide) ?_
  replace h := bind_so h
  obtain ⟨M31, h31, h⟩ := h
  refine r_putF clok_6 F (by decide) rfl rfl rfl (by decide) (by decide) h31 tw_215 dX6_init_31 ?_
  refine r_aload_n (j := 0) F rfl rfl dX6_init_34 ?_
  refine r_sipush F rfl (by decide) dX6_init_35 ?_
  replace h := bind_so h
  obtain ⟨q38, h38, h⟩ := h
  refine r_newaK10 (B := 400) (by decide) F h38 tw_203 dX6_init_38 (by decide) ?_
  replace h := bind_so h
  obtain ⟨M40, h40, h⟩ := h
  refine r_putF clok_6 F (by decide) rfl rfl rfl (by decide) (by decide) h40 tw_217 dX6_init_40 ?_
  refine r_aload_n (j := 0) F rfl rfl dX6_init_43 ?_
  refine r_iconst F rfl dX6_init_44 ?_
  replace h := bind_so h
  obtain ⟨M45, h45, h⟩ := h
  refine r_put clok_6 F (by decide) rfl (by decide) (by decide) h45 tw_219 dX6_init_45 ?_
  refine r_aload_n (j := 0) F rfl rfl dX6_init_48 ?_
  refine r_iconst F rfl dX6_init_49 ?_
  replace h := bind_so h
  obtain ⟨M50, h50, h⟩ := h
  refine r_put clok_6 F (by decide) rfl (by decide) (by decide) h50 tw_222 dX6_init_50 ?_
  refine r_aload_n (j := 0) F rfl rfl dX6_init_53 ?_
  refine r_iconst F rfl dX6_init_54 ?_
  replace h := bind_so h
  obtain ⟨M55, h55, h⟩ := h
  refine r_put clok_6 F (by decide) rfl (by decide) (by decide) h55 tw_225 dX6_init_55 ?_
  refine r_aload_n (j := 0) F rfl rfl dX6_init_58 ?_
  refine r_bipush F rfl (by decide) dX6_init_59 ?_
  replace h := bind_so h
  obtain ⟨q61, h61, h⟩ := h
  refine r_newqK14 (B := 8) (by decide) F h61 tw_204 dX6_init_61 (by decide) ?_
  replace h := bind_so h
  obtain ⟨M64, h64, h⟩ := h
  refine r_putF clok_6 F (by decide) rfl rfl rfl (by decide) (by decide) h64 tw_228 dX6_init_64 ?_
  refine r_aload_n (j := 0) F rfl rfl dX6_init_67 ?_
  refine r_bipush F rfl (by decide) dX6_init_68 ?_
  replace h := bind_so h
  obtain ⟨q70, h70, h⟩ := h
  refine r_newaK10 (B := 8) (by decide) F h70 tw_203 dX6_init_70 (by decide) ?_
  replace h := bind_so h
  obtain ⟨M72, h72, h⟩ := h
  refine r_putF clok_6 F (by decide) rfl rfl rfl (by decide) (by decide) h72 tw_230 dX6_init_72 ?_
  refine r_aload_n (j := 0) F rfl rfl dX6_init_75 ?_
  refine r_bipush F rfl (by decide) dX6_init_76 ?_
  replace h := bind_so h
  obtain ⟨q78, h78, h⟩ := h
  refine r_newaK10 (B := 8) (by decide) F h78 tw_203 dX6_init_78 (by decide) ?_
  replace h := bind_so h
  obtain ⟨M80, h80, h⟩ := h
  refine r_putF clok_6 F (by decide) rfl rfl rfl (by decide) (by decide) h80 tw_231 dX6_init_80 ?_
  refine r_aload_n (j := 0) F rfl rfl dX6_init_83 ?_
  refine r_iconst F rfl dX6_init_84 ?_
  replace h := bind_so h
  obtain ⟨M85, h85, h⟩ := h
  refine r_put clok_6 F (by decide) rfl (by decide) (by decide) h85 tw_233 dX6_init_85 ?_
  refine r_aload_n (j := 0) F rfl rfl dX6_init_88 ?_
  refine r_null F dX6_init_89 ?_
  replace h := bind_so h
  obtain ⟨M90, h90, h⟩ := h
  refine r_put clok_6 F (by decide) rfl (by decide) (by decide) h90 tw_235 dX6_init_90 ?_
  refine r_aload_n (j := 0) F rfl rfl dX6_init_93 ?_
  refine r_iconst F rfl dX6_init_94 ?_
  replace h := bind_so h
  obtain ⟨M95, h95, h⟩ := h
  refine r_put clok_6 F (by decide) rfl (by decide) (by decide) h95 tw_238 dX6_init_95 ?_
  refine r_aload_n (j := 0) F rfl rfl dX6_init_98 ?_
  refine r_iconst F rfl dX6_init_99 ?_
  replace h := bind_so h
  obtain ⟨M100, h100, h⟩ := h
  refine r_put clok_6 F (by decide) rfl (by decide) (by decide) h100 tw_240 dX6_init_100 ?_
  refine r_aload_n (j := 0) F rfl rfl dX6_init_103 ?_
  refine r_bipush F rfl (by decide) dX6_init_104 ?_
  replace h := bind_so h
  obtain ⟨q106, h106, h⟩ := h
  refine r_newaK10 (B := 40) (by decide) F h106 tw_203 dX6_init_106 (by decide) ?_
  replace h := bind_so h
  obtain ⟨M108, h108, h⟩ := h
  refine r_putF clok_6 F (by decide) rfl rfl rfl (by decide) (by decide) h108 tw_242 dX6_init_108 ?_
  refine r_aload_n (j := 0) F rfl rfl dX6_init_111 ?_
  refine r_bipush F rfl (by decide) dX6_init_112 ?_
  replace h := bind_so h
  obtain ⟨q114, h114, h⟩ := h
  refine r_newaK11 (B := 40) (by decide) F h114 tw_287 dX6_init_114 (by decide) ?_
  replace h := bind_so h
  obtain ⟨M116, h116, h⟩ := h
  refine r_putF clok_6 F (by decide) rfl rfl rfl (by decide) (by decide) h116 tw_243 dX6_init_116 ?_
  refine r_aload_n (j := 0) F rfl rfl dX6_init_119 ?_
  refine r_bipush F rfl (by decide) dX6_init_120 ?_
  replace h := bind_so h
  obtain ⟨q122, h122, h⟩ := h
  refine r_newaK10 (B := 40) (by decide) F h122 tw_203 dX6_init_122 (by decide) ?_
  replace h := bind_so h
  obtain ⟨M124, h124, h⟩ := h
  refine r_putF clok_6 F (by decide) rfl rfl rfl (by decide) (by decide) h124 tw_244 dX6_init_124 ?_
  refine r_aload_n (j := 0) F rfl rfl dX6_init_127 ?_
  refine r_iconst F rfl dX6_init_128 ?_
  replace h := bind_so h
  obtain ⟨M129, h129, h⟩ := h
  refine r_put clok_6 F (by decide) rfl (by decide) (by decide) h129 tw_245 dX6_init_129 ?_
  obtain rfl := Option.some.inj h
  exact r_vret F dX6_init_132
theorem tX4_init {l0 : Int} {M : Mem} {q : Int × Mem} (h : mX4_init l0 M = some q) : Ct 3 62 4280 yX4_init cX4_init 2 none [vR l0] M none q.2 := by
  unfold mX4_init at h
  refine Ct.of (by decide) (Nat.le_of_ble_eq_true rfl) ?_
  intro E p l e s m args below meth c F
  refine r_sub [0] (ls' := [(0, vR l0)]) rfl ?_
  refine r_aload_n (j := 0) F rfl rfl dX4_init_0 ?_
  replace h := bind_so h
  obtain ⟨_, h1, h⟩ := h
  refine r_objK (gK_so h1) (by decide) F tw_143 tw_136 tw_137 ⟨by decide, by decide⟩ (Nat.le_of_ble_eq_true rfl) dX4_init_1 ?_
  refine r_aload_n (j := 0) F rfl rfl dX4_init_4 ?_
  replace h := bind_so h
  obtain ⟨q5, h5, h⟩ := h
  refine r_newO clok_6 (by decide +kernel) F h5 tw_144 tw_145 tw_114 dX4_init_5 (by decide) ?_
  refine r_dup1 F rfl dX4_init_8 ?_
  replace h := bind_so h
  obtain ⟨_, g9, h⟩ := h
  replace h := bind_so h
  obtain ⟨q9, h9, h⟩ := h
  refine r_callINK (as := []) (rv := none) (kc := 16) (nc := 583) (tX6_init h9) rfl (gK_so g9) (by decide) F (by decide +kernel) tw_147 rfl tw_148 tw_114 ⟨by decide, by decide, show (parseMethodDescriptor yX6_init.desc).map (fun d => d.parameters.length) = some 0 by decide +kernel⟩ ⟨by decide, by decide⟩ (Nat.le_of_ble_eq_true rfl) dX4_init_9 (by decide) ?_
  replace h := bind_so h
  obtain ⟨M12, h12, h⟩ := h
  refine r_putF clok_4 F (by decide) rfl rfl rfl (by decide) (by decide) h12 tw_366 dX4_init_12 ?_
  refine r_aload_n (j := 0) F rfl rfl dX4_init_15 ?_
  replace h := bind_so h
  obtain ⟨q16, h16, h⟩ := h
  refine r_newO clok_0 (by decide +kernel) F h16 tw_288 tw_289 tw_116 dX4_init_16 (by decide) ?_
  refine r_dup1 F rfl dX4_init_19 ?_
  replace h := bind_so h
  obtain ⟨_, g20, h⟩ := h
  replace h := bind_so h
  obtain ⟨q20, h20, h⟩ := h
  refine r_callINK (as := []) (rv := none) (kc := 3) (nc := 76) (tX0_init h20) rfl (gK_so g20) (by decide) F (by decide +kernel) tw_291 rfl tw_292 tw_116 ⟨by decide, by decide, show (parseMethodDescriptor yX0_init.desc).map (fun d => d.parameters.length) = some 0 by decide +kernel⟩ ⟨by decide, by decide⟩ (Nat.le_of_ble_eq_true rfl) dX4_init_20 (by decide) ?_
  replace h := bind_so h
  obtain ⟨M23, h23, h⟩ := h
  refine r_putF clok_4 F (by decide) rfl rfl rfl (by decide) (by decide) h23 tw_368 dX4_init_23 ?_
  refine r_aload_n (j := 0) F rfl rfl dX4_init_26 ?_
  replace h := bind_so h
  obtain ⟨q27, h27, h⟩ := h
  refine r_newO clok_1 (by decide +kernel) F h27 tw_313 tw_314 tw_117 dX4_init_27 (by decide) ?_
  refine r_dup1 F rfl dX4_init_30 ?_
  replace h := bind_so h
  obtain ⟨_, g31, h⟩ := h
  replace h := bind_so h
  obtain ⟨q31, h31, h⟩ := h
  refine r_callINK (as := []) (rv := none) (kc := 6) (nc := 2729) (tX1_init h31) rfl (gK_so g31) (by decide) F (by decide +kernel) tw_316 rfl tw_317 tw_117 ⟨by decide, by decide, show (parseMethodDescriptor yX1_init.desc).map (fun d => d.parameters.length) = some 0 by decide +kernel⟩ ⟨by decide, by decide⟩ (Nat.le_of_ble_eq_true rfl) dX4_init_31 (by decide) ?_
  replace h := bind_so h
  obtain ⟨M34, h34, h⟩ := h
  refine r_putF clok_4 F (by decide) rfl rfl rfl (by decide) (by decide) h34 tw_370 dX4_init_34 ?_
  refine r_aload_n (j := 0) F rfl rfl dX4_init_37 ?_
  refine r_bipush F rfl (by decide) dX4_init_38 ?_
  replace h := bind_so h
  obtain ⟨q40, h40, h⟩ := h
  refine r_newqK16 (B := 9) (by decide) F h40 tw_361 dX4_init_40 (by decide) ?_
  replace h := bind_so h
  obtain ⟨M43, h43, h⟩ := h
  refine r_putF clok_4 F (by decide) rfl rfl rfl (by decide) (by decide) h43 tw_371 dX4_init_43 ?_
  refine r_aload_n (j := 0) F rfl rfl dX4_init_46 ?_
  refine r_iconst F rfl dX4_init_47 ?_
  replace h := bind_so h
  obtain ⟨M48, h48, h⟩ := h
  refine r_put clok_4 F (by decide) rfl (by decide) (by decide) h48 tw_372 dX4_init_48 ?_
  refine r_aload_n (j := 0) F rfl rfl dX4_init_51 ?_
  replace h := bind_so h
  obtain ⟨q52, h52, h⟩ := h
  refine r_newO clok_7 (by decide +kernel) F h52 tw_361 tw_320 tw_118 dX4_init_52 (by decide) ?_
  refine r_dup1 F rfl dX4_init_55 ?_
  replace h := bind_so h
  obtain ⟨_, g56, h⟩ := h
  replace h := bind_so h
  obtain ⟨q56, h56, h⟩ := h
  refine r_callINK (as := []) (rv := none) (kc := 1) (nc := 64) (tX7_init h56) rfl (gK_so g56) (by decide) F (by decide +kernel) tw_322 rfl tw_323 tw_118 ⟨by decide, by decide, show (parseMethodDescriptor yX7_init.desc).map (fun d => d.parameters.length) = some 0 by decide +kernel⟩ ⟨by decide, by decide⟩ (Nat.le_of_ble_eq_true rfl) dX4_init_56 (by decide) ?_
  replace h := bind_so h
  obtain ⟨M59, h59, h⟩ := h
  refine r_putF clok_4 F (by decide) rfl rfl rfl (by decide) (by decide) h59 tw_373 dX4_init_59 ?_
  refine r_aload_n (j := 0) F rfl rfl dX4_init_62 ?_
  replace h := bind_so h
  obtain ⟨q63, h63, h⟩ := h
  refine r_newO clok_7 (by decide +kernel) F h63 tw_361 tw_320 tw_118 dX4_init_63 (by decide) ?_
  refine r_dup1 F rfl dX4_init_66 ?_
  replace h := bind_so h
  obtain ⟨_, g67, h⟩ := h
  replace h := bind_so h
  obtain ⟨q67, h67, h⟩ := h
  refine r_callINK (as := []) (rv := none) (kc := 1) (nc := 64) (tX7_init h67) rfl (gK_so g67) (by decide) F (by decide +kernel) tw_322 rfl tw_323 tw_118 ⟨by decide, by decide, show (parseMethodDescriptor yX7_init.desc).map (fun d => d.parameters.length) = some 0 by decide +kernel⟩ ⟨by decide, by decide⟩ (Nat.le_of_ble_eq_true rfl) dX4_init_67 (by decide) ?_
  replace h := bind_so h
  obtain ⟨M70, h70, h⟩ := h
  refine r_putF clok_4 F (by decide) rfl rfl rfl (by decide) (by decide) h70 tw_374 dX4_init_70 ?_
  refine r_aload_n (j := 0) F rfl rfl dX4_init_73 ?_
  replace h := bind_so h
  obtain ⟨q74, h74, h⟩ := h
  refine r_newO clok_7 (by decide +kernel) F h74 tw_361 tw_320 tw_118 dX4_init_74 (by decide) ?_
  refine r_dup1 F rfl dX4_init_77 ?_
  replace h := bind_so h
  obtain ⟨_, g78, h⟩ := h
  replace h := bind_so h
  obtain ⟨q78, h78, h⟩ := h
  refine r_callINK (as := []) (rv := none) (kc := 1) (nc := 64) (tX7_init h78) rfl (gK_so g78) (by decide) F (by decide +kernel) tw_322 rfl tw_323 tw_118 ⟨by decide, by decide, show (parseMethodDescriptor yX7_init.desc).map (fun d => d.parameters.length) = some 0 by decide +kernel⟩ ⟨by decide, by decide⟩ (Nat.le_of_ble_eq_true rfl) dX4_init_78 (by decide) ?_
  replace h := bind_so h
  obtain ⟨M81, h81, h⟩ := h
  refine r_putF clok_4 F (by decide) rfl rfl rfl (by decide) (by decide) h81 tw_375 dX4_init_81 ?_
  refine r_aload_n (j := 0) F rfl rfl dX4_init_84 ?_
  replace h := bind_so h
  obtain ⟨q85, h85, h⟩ := h
  refine r_newO clok_3 (by decide +kernel) F h85 tw_364 tw_151 tw_115 dX4_init_85 (by decide) ?_
  refine r_dup1 F rfl dX4_init_88 ?_
  replace h := bind_so h
  obtain ⟨_, g89, h⟩ := h
  replace h := bind_so h
  obtain ⟨q89, h89, h⟩ := h
  refine r_callINK (as := []) (rv := none) (kc := 6) (nc := 23) (tX3_init h89) rfl (gK_so g89) (by decide) F (by decide +kernel) tw_153 rfl tw_154 tw_115 ⟨by decide, by decide, show (parseMethodDescriptor yX3_init.desc).map (fun d => d.parameters.length) = some 0 by decide +kernel⟩ ⟨by decide, by decide⟩ (Nat.le_of_ble_eq_true rfl) dX4_init_89 (by decide) ?_
  replace h := bind_so h
  obtain ⟨M92, h92, h⟩ := h
  refine r_putF clok_4 F (by decide) rfl rfl rfl (by decide) (by decide) h92 tw_376 dX4_init_92 ?_
  refine r_aload_n (j := 0) F rfl rfl dX4_init_95 ?_
  refine r_iconst F rfl dX4_init_96 ?_
  replace h := bind_so h
  obtain ⟨q97, h97, h⟩ := h
  refine r_newaK10 (B := 3) (by decide) F h97 tw_203 dX4_init_97 (by decide) ?_
  replace h := bind_so h
  obtain ⟨M99, h99, h⟩ := h
  refine r_putF clok_4 F (by decide) rfl rfl rfl (by decide) (by decide) h99 tw_377 dX4_init_99 ?_
  refine r_aload_n (j := 0) F rfl rfl dX4_init_102 ?_
  refine r_iconst F rfl dX4_init_103 ?_
  replace h := bind_so h
  obtain ⟨M104, h104, h⟩ := h
  refine r_put clok_4 F (by decide) rfl (by decide) (by decide) h104 tw_378 dX4_init_104 ?_
  refine r_aload_n (j := 0) F rfl rfl dX4_init_107 ?_
  refine r_bipush F rfl (by decide) dX4_init_108 ?_
  replace h := bind_so h
  obtain ⟨q110, h110, h⟩ := h
  refine r_newaK10 (B := 12) (by decide) F h110 tw_203 dX4_init_110 (by decide) ?_
  replace h := bind_so h
  obtain ⟨M112, h112, h⟩ := h
  refine r_putF clok_4 F (by decide) rfl rfl rfl (by decide) (by decide) h112 tw_379 dX4_init_112 ?_
  refine r_iconst F rfl dX4_init_115 ?_
  refine r_istore_n (ls' := [(1, vI 0), (0, vR l0)]) F rfl (by decide) rfl dX4_init_116 ?_
  refine r_iload_n (j := 0) F rfl rfl dX4_init_117 ?_
  refine r_bipush F rfl (by decide) dX4_init_118 ?_
  refine r_icmp_gt (tgt := 142) F (by decide) dX4_init_120 (fun hc => absurd hc (by decide)) (fun _ => ?_)
  refine r_aload_n (j := 1) F rfl rfl dX4_init_123 ?_
  replace h := bind_so h
  obtain ⟨a124, h124, h⟩ := h
  refine r_getT (t := 2) rfl clok_4 F (by decide) h124 tw_371 dX4_init_124 ?_
  refine r_iload_n (j := 0) F rfl rfl dX4_init_127 ?_
  replace h := bind_so h
  obtain ⟨q128, h128, h⟩ := h
  refine r_newO clok_7 (by decide +kernel) F h128 tw_361 tw_320 tw_118 dX4_init_128 (by decide) ?_
  refine r_dup1 F rfl dX4_init_131 ?_
  replace h := bind_so h
  obtain ⟨_, g132, h⟩ := h
  replace h := bind_so h
  obtain ⟨q132, h132, h⟩ := h
  refine r_callINK (as := []) (rv := none) (kc := 1) (nc := 64) (tX7_init h132) rfl (gK_so g132) (by decide) F (by decide +kernel) tw_322 rfl tw_323 tw_118 ⟨by decide, by decide, show (parseMethodDescriptor yX7_init.desc).map (fun d => d.parameters.length) = some 0 by decide +kernel⟩ ⟨by decide, by decide⟩ (Nat.le_of_ble_eq_true rfl) dX4_init_132 (by decide) ?_
  replace h := bind_so h
  obtain ⟨M135, h135, h⟩ := h
  refine r_aast16 F h135 dX4_init_135 ?_
  refine r_iinc (j := 0) (ls' := [(1, vI 1), (0, vR l0)]) F rfl (by decide) rfl dX4_init_136 ?_
  refine r_goto (tgt := 117) F (by decide) dX4_init_139 ?_
  refine r_iload_n (j := 0) F rfl rfl dX4_init_117 ?_
  refine r_bipush F rfl (by decide) dX4_init_118 ?_
  refine r_icmp_gt (tgt := 142) F (by decide) dX4_init_120 (fun hc => absurd hc (by decide)) (fun _ => ?_)
  refine r_aload_n (j := 1) F rfl rfl dX4_init_123 ?_
  replace h := bind_so h
  obtain ⟨a124, h124, h⟩ := h
  refine r_getT (t := 2) rfl clok_4 F (by decide) h124 tw_371 dX4_init_124 ?_
  refine r_iload_n (j := 0) F rfl rfl dX4_init_127 ?_
  replace h := bind_so h
  obtain ⟨q128, h128, h⟩ := h
  refine r_newO clok_7 (by decide +kernel) F h128 tw_361 tw_320 tw_118 dX4_init_128 (by decide) ?_
  refine r_dup1 F rfl dX4_init_131 ?_
  replace h := bind_so h
  obtain ⟨_, g132, h⟩ := h
  replace h := bind_so h
  obtain ⟨q132, h132, h⟩ := h
  refine r_callINK (as := []) (rv := none) (kc := 1) (nc := 64) (tX7_init h132) rfl (gK_so g132) (by decide) F (by decide +kernel) tw_322 rfl tw_323 tw_118 ⟨by decide, by decide, show (parseMethodDescriptor yX7_init.desc).map (fun d => d.parameters.length) = some 0 by decide +kernel⟩ ⟨by decide, by decide⟩ (Nat.le_of_ble_eq_true rfl) dX4_init_132 (by decide) ?_
  replace h := bind_so h
  obtain ⟨M135, h135, h⟩ := h
  refine r_aast16 F h135 dX4_init_135 ?_
  refine r_iinc (j := 0) (ls' := [(1, vI 2), (0, vR l0)]) F rfl (by decide) rfl dX4_init_136 ?_
  refine r_goto (tgt := 117) F (by decide) dX4_init_139 ?_
  refine r_iload_n (j := 0) F rfl rfl dX4_init_117 ?_
  refine r_bipush F rfl (by decide) dX4_init_118 ?_
  refine r_icmp_gt (tgt := 142) F (by decide) dX4_init_120 (fun hc => absurd hc (by decide)) (fun _ => ?_)
  refine r_aload_n (j := 1) F rfl rfl dX4_init_123 ?_
  replace h := bind_so h
  obtain ⟨a124, h124, h⟩ := h
  refine r_getT (t := 2) rfl clok_4 F (by decide) h124 tw_371 dX4_init_124 ?_
  refine r_iload_n (j := 0) F rfl rfl dX4_init_127 ?_
  replace h := bind_so h
  obtain ⟨q128, h128, h⟩ := h
  refine r_newO clok_7 (by decide +kernel) F h128 tw_361 tw_320 tw_118 dX4_init_128 (by decide) ?_
  refine r_dup1 F rfl dX4_init_131 ?_
  replace h := bind_so h
  obtain ⟨_, g132, h⟩ := h
  replace h := bind_so h
  obtain ⟨q132, h132, h⟩ := h
  refine r_callINK (as := []) (rv := none) (kc := 1) (nc := 64) (tX7_init h132) rfl (gK_so g132) (by decide) F (by decide +kernel) tw_322 rfl tw_323 tw_118 ⟨by decide, by decide, show (parseMethodDescriptor yX7_init.desc).map (fun d => d.parameters.length) = some 0 by decide +kernel⟩ ⟨by decide, by decide⟩ (Nat.le_of_ble_eq_true rfl) dX4_init_132 (by decide) ?_
  replace h := bind_so h
  obtain ⟨M135, h135, h⟩ := h
  refine r_aast16 F h135 dX4_init_135 ?_
  refine r_iinc (j := 0) (ls' := [(1, vI 3), (0, vR l0)]) F rfl (by decide) rfl dX4_init_136 ?_
  refine r_goto (tgt := 117) F (by decide) dX4_init_139 ?_
  refine r_iload_n (j := 0) F rfl rfl dX4_init_117 ?_
  refine r_bipush F rfl (by decide) dX4_init_118 ?_
  refine r_icmp_gt (tgt := 142) F (by decide) dX4_init_120 (fun hc => absurd hc (by decide)) (fun _ => ?_)
  refine r_aload_n (j := 1) F rfl rfl dX4_init_123 ?_
  replace h := bind_so h
  obtain ⟨a124, h124, h⟩ := h
  refine r_getT (t := 2) rfl clok_4 F (by decide) h124 tw_371 dX4_init_124 ?_
  refine r_iload_n (j := 0) F rfl rfl dX4_init_127 ?_
  replace h := bind_so h
  obtain ⟨q128, h128, h⟩ := h
  refine r_newO clok_7 (by decide +kernel) F h128 tw_361 tw_320 tw_118 dX4_init_128 (by decide) ?_
  refine r_dup1 F rfl dX4_init_131 ?_
  replace h := bind_so h
  obtain ⟨_, g132, h⟩ := h
  replace h := bind_so h
  obtain ⟨q132, h132, h⟩ := h
  refine r_callINK (as := []) (rv := none) (kc := 1) (nc := 64) (tX7_init h132) rfl (gK_so g132) (by decide) F (by decide +kernel) tw_322 rfl tw_323 tw_118 ⟨by decide, by decide, show (parseMethodDescriptor yX7_init.desc).map (fun d => d.parameters.length) = some 0 by decide +kernel⟩ ⟨by decide, by decide⟩ (Nat.le_of_ble_eq_true rfl) dX4_init_132 (by decide) ?_
  replace h := bind_so h
  obtain ⟨M135, h135, h⟩ := h
  refine r_aast16 F h135 dX4_init_135 ?_
  refine r_iinc (j := 0) (ls' := [(1, vI 4), (0, vR l0)]) F rfl (by decide) rfl dX4_init_136 ?_
  refine r_goto (tgt := 117) F (by decide) dX4_init_139 ?_
  refine r_iload_n (j := 0) F rfl rfl dX4_init_117 ?_
  refine r_bipush F rfl (by decide) dX4_init_118 ?_
  refine r_icmp_gt (tgt := 142) F (by decide) dX4_init_120 (fun hc => absurd hc (by decide)) (fun _ => ?_)
  refine r_aload_n (j := 1) F rfl rfl dX4_init_123 ?_
  replace h := bind_so h
  obtain ⟨a124, h124, h⟩ := h
  refine r_getT (t := 2) rfl clok_4 F (by decide) h124 tw_371 dX4_init_124 ?_
  refine r_iload_n (j := 0) F rfl rfl dX4_init_127 ?_
  replace h := bind_so h
  obtain ⟨q128, h128, h⟩ := h
  refine r_newO clok_7 (by decide +kernel) F h128 tw_361 tw_320 tw_118 dX4_init_128 (by decide) ?_
  refine r_dup1 F rfl dX4_init_131 ?_
  replace h := bind_so h
  obtain ⟨_, g132, h⟩ := h
  replace h := bind_so h
  obtain ⟨q132, h132, h⟩ := h
  refine r_callINK (as := []) (rv := none) (kc := 1) (nc := 64) (tX7_init h132) rfl (gK_so g132) (by decide) F (by decide +kernel) tw_322 rfl tw_323 tw_118 ⟨by decide, by decide, show (parseMethodDescriptor yX7_init.desc).map (fun d => d.parameters.length) = some 0 by decide +kernel⟩ ⟨by decide, by decide⟩ (Nat.le_of_ble_eq_true rfl) dX4_init_132 (by decide) ?_
  replace h := bind_so h
  obtain ⟨M135, h135, h⟩ := h
  refine r_aast16 F h135 dX4_init_135 ?_
  refine r_iinc (j := 0) (ls' := [(1, vI 5), (0, vR l0)]) F rfl (by decide) rfl dX4_init_136 ?_
  refine r_goto (tgt := 117) F (by decide) dX4_init_139 ?_
  refine r_iload_n (j := 0) F rfl rfl dX4_init_117 ?_
  refine r_bipush F rfl (by decide) dX4_init_118 ?_
  refine r_icmp_gt (tgt := 142) F (by decide) dX4_init_120 (fun hc => absurd hc (by decide)) (fun _ => ?_)
  refine r_aload_n (j := 1) F rfl rfl dX4_init_123 ?_
  replace h := bind_so h
  obtain ⟨a124, h124, h⟩ := h
  refine r_getT (t := 2) rfl clok_4 F (by decide) h124 tw_371 dX4_init_124 ?_
  refine r_iload_n (j := 0) F rfl rfl dX4_init_127 ?_
  replace h := bind_so h
  obtain ⟨q128, h128, h⟩ := h
  refine r_newO clok_7 (by decide +kernel) F h128 tw_361 tw_320 tw_118 dX4_init_128 (by decide) ?_
  refine r_dup1 F rfl dX4_init_131 ?_
  replace h := bind_so h
  obtain ⟨_, g132, h⟩ := h
  replace h := bind_so h
  obtain ⟨q132, h132, h⟩ := h
  refine r_callINK (as := []) (rv := none) (kc := 1) (nc := 64) (tX7_init h132) rfl (gK_so g132) (by decide) F (by decide +kernel) tw_322 rfl tw_323 tw_118 ⟨by decide, by decide, show (parseMethodDescriptor yX7_init.desc).map (fun d => d.parameters.length) = some 0 by decide +kernel⟩ ⟨by decide, by decide⟩ (Nat.le_of_ble_eq_true rfl) dX4_init_132 (by decide) ?_
  replace h := bind_so h
  obtain ⟨M135, h135, h⟩ := h
  refine r_aast16 F h135 dX4_init_135 ?_
  refine r_iinc (j := 0) (ls' := [(1, vI 6), (0, vR l0)]) F rfl (by decide) rfl dX4_init_136 ?_
  refine r_goto (tgt := 117) F (by decide) dX4_init_139 ?_
  refine r_iload_n (j := 0) F rfl rfl dX4_init_117 ?_
  refine r_bipush F rfl (by decide) dX4_init_118 ?_
  refine r_icmp_gt (tgt := 142) F (by decide) dX4_init_120 (fun hc => absurd hc (by decide)) (fun _ => ?_)
  refine r_aload_n (j := 1) F rfl rfl dX4_init_123 ?_
  replace h := bind_so h
  obtain ⟨a124, h124, h⟩ := h
  refine r_getT (t := 2) rfl clok_4 F (by decide) h124 tw_371 dX4_init_124 ?_
  refine r_iload_n (j := 0) F rfl rfl dX4_init_127 ?_
  replace h := bind_so h
  obtain ⟨q128, h128, h⟩ := h
  refine r_newO clok_7 (by decide +kernel) F h128 tw_361 tw_320 tw_118 dX4_init_128 (by decide) ?_
  refine r_dup1 F rfl dX4_init_131 ?_
  replace h := bind_so h
  obtain ⟨_, g132, h⟩ := h
  replace h := bind_so h
  obtain ⟨q132, h132, h⟩ := h
  refine r_callINK (as := []) (rv := none) (kc := 1) (nc := 64) (tX7_init h132) rfl (gK_so g132) (by decide) F (by decide +kernel) tw_322 rfl tw_323 tw_118 ⟨by decide, by decide, show (parseMethodDescriptor yX7_init.desc).map (fun d => d.parameters.length) = some 0 by decide +kernel⟩ ⟨by decide, by decide⟩ (Nat.le_of_ble_eq_true rfl) dX4_init_132 (by decide) ?_
  replace h := bind_so h
  obtain ⟨M135, h135, h⟩ := h
  refine r_aast16 F h135 dX4_init_135 ?_
  refine r_iinc (j := 0) (ls' := [(1, vI 7), (0, vR l0)]) F rfl (by decide) rfl dX4_init_136 ?_
  refine r_goto (tgt := 117) F (by decide) dX4_init_139 ?_
  refine r_iload_n (j := 0) F rfl rfl dX4_init_117 ?_
  refine r_bipush F rfl (by decide) dX4_init_118 ?_
  refine r_icmp_gt (tgt := 142) F (by decide) dX4_init_120 (fun hc => absurd hc (by decide)) (fun _ => ?_)
  refine r_aload_n (j := 1) F rfl rfl dX4_init_123 ?_
  replace h := bind_so h
  obtain ⟨a124, h124, h⟩ := h
  refine r_getT (t := 2) rfl clok_4 F (by decide) h124 tw_371 dX4_init_124 ?_
  refine r_iload_n (j := 0) F rfl rfl dX4_init_127 ?_
  replace h := bind_so h
  obtain ⟨q128, h128, h⟩ := h
  refine r_newO clok_7 (by decide +kernel) F h128 tw_361 tw_320 tw_118 dX4_init_128 (by decide) ?_
  refine r_dup1 F rfl dX4_init_131 ?_
  replace h := bind_so h
  obtain ⟨_, g132, h⟩ := h
  replace h := bind_so h
  obtain ⟨q132, h132, h⟩ := h
  refine r_callINK (as := []) (rv := none) (kc := 1) (nc := 64) (tX7_init h132) rfl (gK_so g132) (by decide) F (by decide +kernel) tw_322 rfl tw_323 tw_118 ⟨by decide, by decide, show (parseMethodDescriptor yX7_init.desc).map (fun d => d.parameters.length) = some 0 by decide +kernel⟩ ⟨by decide, by decide⟩ (Nat.le_of_ble_eq_true rfl) dX4_init_132 (by decide) ?_
  replace h := bind_so h
  obtain ⟨M135, h135, h⟩ := h
  refine r_aast16 F h135 dX4_init_135 ?_
  refine r_iinc (j := 0) (ls' := [(1, vI 8), (0, vR l0)]) F rfl (by decide) rfl dX4_init_136 ?_
  refine r_goto (tgt := 117) F (by decide) dX4_init_139 ?_
  refine r_iload_n (j := 0) F rfl rfl dX4_init_117 ?_
  refine r_bipush F rfl (by decide) dX4_init_118 ?_
  refine r_icmp_gt (tgt := 142) F (by decide) dX4_init_120 (fun hc => absurd hc (by decide)) (fun _ => ?_)
  refine r_aload_n (j := 1) F rfl rfl dX4_init_123 ?_
  replace h := bind_so h
  obtain ⟨a124, h124, h⟩ := h
  refine r_getT (t := 2) rfl clok_4 F (by decide) h124 tw_371 dX4_init_124 ?_
  refine r_iload_n (j := 0) F rfl rfl dX4_init_127 ?_
  replace h := bind_so h
  obtain ⟨q128, h128, h⟩ := h
  refine r_newO clok_7 (by decide +kernel) F h128 tw_361 tw_320 tw_118 dX4_init_128 (by decide) ?_
  refine r_dup1 F rfl dX4_init_131 ?_
  replace h := bind_so h
  obtain ⟨_, g132, h⟩ := h
  replace h := bind_so h
  obtain ⟨q132, h132, h⟩ := h
  refine r_callINK (as := []) (rv := none) (kc := 1) (nc := 64) (tX7_init h132) rfl (gK_so g132) (by decide) F (by decide +kernel) tw_322 rfl tw_323 tw_118 ⟨by decide, by decide, show (parseMethodDescriptor yX7_init.desc).map (fun d => d.parameters.length) = some 0 by decide +kernel⟩ ⟨by decide, by decide⟩ (Nat.le_of_ble_eq_true rfl) dX4_init_132 (by decide) ?_
  replace h := bind_so h
  obtain ⟨M135, h135, h⟩ := h
  refine r_aast16 F h135 dX4_init_135 ?_
  refine r_iinc (j := 0) (ls' := [(1, vI 9), (0, vR l0)]) F rfl (by decide) rfl dX4_init_136 ?_
  refine r_goto (tgt := 117) F (by decide) dX4_init_139 ?_
  refine r_iload_n (j := 0) F rfl rfl dX4_init_117 ?_
  refine r_bipush F rfl (by decide) dX4_init_118 ?_
  refine r_icmp_gt (tgt := 142) F (by decide) dX4_init_120 (fun _ => ?_) (fun hc => absurd (by decide) hc)
  obtain rfl := Option.some.inj h
  exact r_vret F dX4_init_142
