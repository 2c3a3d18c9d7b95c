theorem tX5_leadingAlls_30 {E : En} {p : Program} {l : Launch} {e : Env} {s : State} {m : MethodId} {args : Array Value} {below : List Frame} {meth : Method} {c : Code} {q : Int × Mem} {l1 : Int} {M : Mem} (F : Fx E p s m args meth c cX5_leadingAlls 2 yX5_leadingAlls.cls (some FieldType.int) yX5_leadingAlls.name) (h : mX5_leadingAlls_30 l1 M = some q) : G E p l e (rmOf 0 0 0) s m args below meth c 2 (QZ E below args s (rmOf 0 0 0) (some (vI q.1)) q.2) 0 0 M 30 [(1, vI l1)] [] := by
  unfold mX5_leadingAlls_30 at h
  refine r_iload_n (j := 0) F rfl rfl dX5_leadingAlls_30 ?_
  obtain rfl := Option.some.inj h
  exact r_iret F dX5_leadingAlls_31
theorem tbX5_leadingAlls_2 {E : En} {p : Program} {l : Launch} {e : Env} {s : State} {m : MethodId} {args : Array Value} {below : List Frame} {meth : Method} {c : Code} {q : Int × Mem} {k2 : Int → Int → Mem → Option (Int × Mem)} (hk2 : ∀ {l0 l1 : Int} {M : Mem}, k2 l0 l1 M = some q → G E p l e (rmOf 0 0 0) s m args below meth c 2 (QZ E below args s (rmOf 0 0 0) (some (vI q.1)) q.2) 0 0 M 2 [(0, vR l0), (1, vI l1)] []) {l0 l1 : Int} {M : Mem} (F : Fx E p s m args meth c cX5_leadingAlls 2 yX5_leadingAlls.cls (some FieldType.int) yX5_leadingAlls.name) (h : bX5_leadingAlls_2 k2 l0 l1 M = some q) : G E p l e (rmOf 0 0 0) s m args below meth c 2 (QZ E below args s (rmOf 0 0 0) (some (vI q.1)) q.2) 0 0 M 2 [(0, vR l0), (1, vI l1)] [] := by
  unfold bX5_leadingAlls_2 at h
  refine r_iload_n (j := 1) F rfl rfl dX5_leadingAlls_2 ?_
  refine r_aload_n (j := 0) F rfl rfl dX5_leadingAlls_3 ?_
  replace h := bind_so h
  obtain ⟨a4, h4, h⟩ := h
  refine r_getT (t := 0) rfl clok_5 F (by decide) h4 tw_430 dX5_leadingAlls_4 ?_
  refine r_icmp_ge (tgt := 30) F (by decide) dX5_leadingAlls_7 (fun hc => ?_) (fun hc => ?_)
  · replace h := ite_p h hc
    refine r_sub [1] (ls' := [(1, vI l1)]) rfl ?_
    exact tX5_leadingAlls_30 F h
  · replace h := ite_n h hc
    refine r_iload_n (j := 1) F rfl rfl dX5_leadingAlls_10 ?_
    refine r_iconst F rfl dX5_leadingAlls_11 ?_
    refine r_icmp_ge (tgt := 30) F (by decide) dX5_leadingAlls_12 (fun hc => ?_) (fun hc => ?_)
    · replace h := ite_p h hc
      refine r_sub [1] (ls' := [(1, vI l1)]) rfl ?_
      exact tX5_leadingAlls_30 F h
    · replace h := ite_n h hc
      refine r_aload_n (j := 0) F rfl rfl dX5_leadingAlls_15 ?_
      replace h := bind_so h
      obtain ⟨a16, h16, h⟩ := h
      refine r_getT (t := 2) rfl clok_5 F (by decide) h16 tw_420 dX5_leadingAlls_16 ?_
      refine r_iload_n (j := 1) F rfl rfl dX5_leadingAlls_19 ?_
      replace h := bind_so h
      obtain ⟨a20, h20, h⟩ := h
      refine r_iald F h20 dX5_leadingAlls_20 ?_
      refine r_if_ne (tgt := 30) F (by decide) dX5_leadingAlls_21 (fun hc => ?_) (fun hc => ?_)
      · replace h := ite_n h hc
        refine r_sub [1] (ls' := [(1, vI l1)]) rfl ?_
        exact tX5_leadingAlls_30 F h
      · replace h := ite_p h hc
        refine r_iinc (j := 1) (ls' := [(1, vI (wI (l1 + 1))), (0, vR l0)]) F rfl (by decide) rfl dX5_leadingAlls_24 ?_
        refine r_goto (tgt := 2) F (by decide) dX5_leadingAlls_27 ?_
        refine r_sub [1, 0] (ls' := [(0, vR l0), (1, vI (wI (l1 + 1)))]) rfl ?_
        exact hk2 h
theorem tX5_leadingAlls_2 {E : En} {p : Program} {l : Launch} {e : Env} {s : State} {m : MethodId} {args : Array Value} {below : List Frame} {meth : Method} {c : Code} {q : Int × Mem} (F : Fx E p s m args meth c cX5_leadingAlls 2 yX5_leadingAlls.cls (some FieldType.int) yX5_leadingAlls.name) : ∀ {fu : Nat} {l0 l1 : Int} {M : Mem}, mX5_leadingAlls_2 fu l0 l1 M = some q → G E p l e (rmOf 0 0 0) s m args below meth c 2 (QZ E below args s (rmOf 0 0 0) (some (vI q.1)) q.2) 0 0 M 2 [(0, vR l0), (1, vI l1)] [] := by
  intro fu
  induction fu with
  | zero => intro l0 l1 M h; exact nomatch (show (none : Option (Int × Mem)) = some q from h)
  | succ fu ih => intro l0 l1 M h; exact tbX5_leadingAlls_2  (fun h => ih h) F h
theorem tX5_leadingAlls {l0 : Int} {M : Mem} {q : Int × Mem} (h : mX5_leadingAlls l0 M = some q) : Ct 0 0 0 yX5_leadingAlls cX5_leadingAlls 2 (some FieldType.int) [vR l0] M (some (vI q.1)) q.2 := by
  unfold mX5_leadingAlls at h
  refine Ct.of (by decide) (Nat.le_of_ble_eq_true rfl) ?_
  intro E p l e s m args below meth c F
  refine r_sub [0] (ls' := [(0, vR l0)]) rfl ?_
  refine r_iconst F rfl dX5_leadingAlls_0 ?_
  refine r_istore_n (ls' := [(1, vI 0), (0, vR l0)]) F rfl (by decide) rfl dX5_leadingAlls_1 ?_
  refine r_sub [1, 0] (ls' := [(0, vR l0), (1, vI 0)]) rfl ?_
  exact tX5_leadingAlls_2 F h
theorem tbX0_chooseNext_4 {E : En} {p : Program} {l : Launch} {e : Env} {s : State} {m : MethodId} {args : Array Value} {below : List Frame} {meth : Method} {c : Code} {q : Int × Mem} {k4 : Int → Int → Mem → Option (Int × Mem)} (hk4 : ∀ {l0 l2 : Int} {M : Mem}, k4 l0 l2 M = some q → G E p l e (rmOf 1 0 0) s m args below meth c 3 (QZ E below args s (rmOf 1 0 0) none q.2) 0 0 M 4 [(0, vR l0), (2, vI l2)] []) {l0 l2 : Int} {M : Mem} (F : Fx E p s m args meth c cX0_chooseNext 3 yX0_chooseNext.cls none yX0_chooseNext.name) (h : bX0_chooseNext_4 k4 l0 l2 M = some q) : G E p l e (rmOf 1 0 0) s m args below meth c 3 (QZ E below args s (rmOf 1 0 0) none q.2) 0 0 M 4 [(0, vR l0), (2, vI l2)] [] := by
  unfold bX0_chooseNext_4 at h
  refine r_iload_n (j := 1) F rfl rfl dX0_chooseNext_4 ?_
  refine r_if_lt (tgt := 46) F (by decide) dX0_chooseNext_5 (fun hc => ?_) (fun hc => ?_)
  · replace h := ite_p h hc
    obtain rfl := Option.some.inj h
    exact r_vret F dX0_chooseNext_46
  · replace h := ite_n h hc
    refine r_aload_n (j := 0) F rfl rfl dX0_chooseNext_8 ?_
    replace h := bind_so h
    obtain ⟨a9, h9, h⟩ := h
    refine r_getT (t := 2) rfl clok_0 F (by decide) h9 tw_297 dX0_chooseNext_9 ?_
    refine r_iload_n (j := 1) F rfl rfl dX0_chooseNext_12 ?_
    refine r_dup2 F rfl rfl dX0_chooseNext_13 ?_
    replace h := bind_so h
    obtain ⟨a14, h14, h⟩ := h
    refine r_iald F h14 dX0_chooseNext_14 ?_
    refine r_iconst F rfl dX0_chooseNext_15 ?_
    refine r_iadd F dX0_chooseNext_16 ?_
    replace h := bind_so h
    obtain ⟨M17, h17, h⟩ := h
    refine r_iast F h17 dX0_chooseNext_17 ?_
    refine r_aload_n (j := 0) F rfl rfl dX0_chooseNext_18 ?_
    replace h := bind_so h
    obtain ⟨a19, h19, h⟩ := h
    refine r_getT (t := 2) rfl clok_0 F (by decide) h19 tw_297 dX0_chooseNext_19 ?_
    refine r_iload_n (j := 1) F rfl rfl dX0_chooseNext_22 ?_
    replace h := bind_so h
    obtain ⟨a23, h23, h⟩ := h
    refine r_iald F h23 dX0_chooseNext_23 ?_
    refine r_aload_n (j := 0) F rfl rfl dX0_chooseNext_24 ?_
    refine r_iload_n (j := 1) F rfl rfl dX0_chooseNext_25 ?_
    replace h := bind_so h
    obtain ⟨_, g26, h⟩ := h
    replace h := bind_so h
    obtain ⟨q26, h26, h⟩ := h
    refine r_callV (as := [vI l2]) (rv := (some (vI q26.1))) (kc := 0) (nc := 0) (tX0_sizeAt h26) clok_0 F (gK_so g26) tw_905 tw_907 tw_32 tw_908 tw_116 ⟨by decide, by decide, show (parseMethodDescriptor yX0_sizeAt.desc).map (fun d => d.parameters.length) = some 1 by decide +kernel⟩ ⟨by decide, by decide⟩ (Nat.le_of_ble_eq_true rfl) dX0_chooseNext_26 ?_
    refine r_icmp_ge (tgt := 33) F (by decide) dX0_chooseNext_29 (fun hc => ?_) (fun hc => ?_)
    · replace h := ite_p h hc
      refine r_aload_n (j := 0) F rfl rfl dX0_chooseNext_33 ?_
      replace h := bind_so h
      obtain ⟨a34, h34, h⟩ := h
      refine r_getT (t := 2) rfl clok_0 F (by decide) h34 tw_297 dX0_chooseNext_34 ?_
      refine r_iload_n (j := 1) F rfl rfl dX0_chooseNext_37 ?_
      refine r_iconst F rfl dX0_chooseNext_38 ?_
      replace h := bind_so h
      obtain ⟨M39, h39, h⟩ := h
      refine r_iast F h39 dX0_chooseNext_39 ?_
      refine r_iinc (j := 1) (ls' := [(2, vI (wI (l2 + (-1)))), (0, vR l0)]) F rfl (by decide) rfl dX0_chooseNext_40 ?_
      refine r_goto (tgt := 4) F (by decide) dX0_chooseNext_43 ?_
      refine r_sub [1, 0] (ls' := [(0, vR l0), (2, vI (wI (l2 + (-1))))]) rfl ?_
      exact hk4 h
    · replace h := ite_n h hc
      obtain rfl := Option.some.inj h
      exact r_vret F dX0_chooseNext_32
theorem tX0_chooseNext_4 {E : En} {p : Program} {l : Launch} {e : Env} {s : State} {m : MethodId} {args : Array Value} {below : List Frame} {meth : Method} {c : Code} {q : Int × Mem} (F : Fx E p s m args meth c cX0_chooseNext 3 yX0_chooseNext.cls none yX0_chooseNext.name) : ∀ {fu : Nat} {l0 l2 : Int} {M : Mem}, mX0_chooseNext_4 fu l0 l2 M = some q → G E p l e (rmOf 1 0 0) s m args below meth c 3 (QZ E below args s (rmOf 1 0 0) none q.2) 0 0 M 4 [(0, vR l0), (2, vI l2)] [] := by
  intro fu
  induction fu with
  | zero => intro l0 l2 M h; exact nomatch (show (none : Option (Int × Mem)) = some q from h)
  | succ fu ih => intro l0 l2 M h; exact tbX0_chooseNext_4  (fun h => ih h) F h
theorem tX0_chooseNext {l0 l1 : Int} {M : Mem} {q : Int × Mem} (h : mX0_chooseNext l0 l1 M = some q) : Ct 1 0 0 yX0_chooseNext cX0_chooseNext 3 none [vR l0, vI l1] M none q.2 := by
  unfold mX0_chooseNext at h
  refine Ct.of (by decide) (Nat.le_of_ble_eq_true rfl) ?_
  intro E p l e s m args below meth c F
  refine r_sub [0, 1] (ls' := [(0, vR l0), (1, vI l1)]) rfl ?_
  refine r_iload_n (j := 1) F rfl rfl dX0_chooseNext_0 ?_
  refine r_iconst F rfl dX0_chooseNext_1 ?_
  refine r_isub F dX0_chooseNext_2 ?_
  refine r_istore_n (ls' := [(2, vI (wI (l1 - 1))), (0, vR l0), (1, vI l1)]) F rfl (by decide) rfl dX0_chooseNext_3 ?_
  refine r_sub [1, 0] (ls' := [(0, vR l0), (2, vI (wI (l1 - 1)))]) rfl ?_
  exact tX0_chooseNext_4 F h
theorem tbX0_breakNumber_71 {E : En} {p : Program} {l : Launch} {e : Env} {s : State} {m : MethodId} {args : Array Value} {below : List Frame} {meth : Method} {c : Code} {q : Int × Mem} {k71 : Int → Int → Int → Int → Int → Mem → Option (Int × Mem)} (hk71 : ∀ {l0 l5 l6 l7 l8 : Int} {M : Mem}, k71 l0 l5 l6 l7 l8 M = some q → G E p l e (rmOf 99 0 0) s m args below meth c 9 (QZ E below args s (rmOf 99 0 0) (some (vI q.1)) q.2) 0 0 M 71 [(0, vR l0), (5, vI l5), (6, vI l6), (7, vI l7), (8, vI l8)] []) {l0 l5 l6 l7 l8 : Int} {M : Mem} (F : Fx E p s m args meth c cX0_breakNumber 9 yX0_breakNumber.cls (some FieldType.int) yX0_breakNumber.name) (h : bX0_breakNumber_71 k71 l0 l5 l6 l7 l8 M = some q) : G E p l e (rmOf 99 0 0) s m args below meth c 9 (QZ E below args s (rmOf 99 0 0) (some (vI q.1)) q.2) 0 0 M 71 [(0, vR l0), (5, vI l5), (6, vI l6), (7, vI l7), (8, vI l8)] [] := by
  unfold bX0_breakNumber_71 at h
  refine r_iload (j := 4) F rfl dX0_breakNumber_71 ?_
  refine r_iload (j := 3) F rfl dX0_breakNumber_73 ?_
  refine r_icmp_ge (tgt := 111) F (by decide) dX0_breakNumber_75 (fun hc => ?_) (fun hc => ?_)
  · replace h := ite_p h hc
    refine r_iconst F rfl dX0_breakNumber_111 ?_
    obtain rfl := Option.some.inj h
    exact r_iret F dX0_breakNumber_112
  · replace h := ite_n h hc
    refine r_aload_n (j := 0) F rfl rfl dX0_breakNumber_78 ?_
    refine r_iload (j := 2) F rfl dX0_breakNumber_79 ?_
    refine r_iload (j := 2) F rfl dX0_breakNumber_81 ?_
    replace h := bind_so h
    obtain ⟨_, g83, h⟩ := h
    replace h := bind_so h
    obtain ⟨q83, h83, h⟩ := h
    refine r_callV (as := [vI l6, vI l6]) (rv := (some (vL q83.1))) (kc := 0) (nc := 0) (tgX0_judged 45 h83) clok_0 F (gK_so g83) tw_897 tw_899 tw_30 tw_900 tw_116 ⟨by decide, by decide, show (parseMethodDescriptor yX0_judged.desc).map (fun d => d.parameters.length) = some 2 by decide +kernel⟩ ⟨by decide, by decide⟩ (Nat.le_of_ble_eq_true rfl) dX0_breakNumber_83 ?_
    refine r_lconst F dX0_breakNumber_86 ?_
    refine r_eq (y := 0) rfl ?_
    refine r_lcmp F dX0_breakNumber_87 ?_
    refine r_if_ne (tgt := 99) F (by decide) dX0_breakNumber_88 (fun hc => ?_) (fun hc => ?_)
    · replace h := ite_n h hc
      refine r_aload_n (j := 0) F rfl rfl dX0_breakNumber_99 ?_
      refine r_iload (j := 2) F rfl dX0_breakNumber_100 ?_
      replace h := bind_so h
      obtain ⟨_, g102, h⟩ := h
      replace h := bind_so h
      obtain ⟨q102, h102, h⟩ := h
      refine r_callV (as := [vI l6]) (rv := none) (kc := 0) (nc := 0) (tX0_chooseNext h102) clok_0 F (gK_so g102) tw_953 tw_955 tw_39 tw_956 tw_116 ⟨by decide, by decide, show (parseMethodDescriptor yX0_chooseNext.desc).map (fun d => d.parameters.length) = some 1 by decide +kernel⟩ ⟨by decide, by decide⟩ (Nat.le_of_ble_eq_true rfl) dX0_breakNumber_102 ?_
      refine r_iinc (j := 4) (ls' := [(8, vI (wI (l8 + 1))), (0, vR l0), (5, vI l5), (6, vI l6), (7, vI l7)]) F rfl (by decide) rfl dX0_breakNumber_105 ?_
      refine r_goto (tgt := 71) F (by decide) dX0_breakNumber_108 ?_
      refine r_sub [1, 2, 3, 4, 0] (ls' := [(0, vR l0), (5, vI l5), (6, vI l6), (7, vI l7), (8, vI (wI (l8 + 1)))]) rfl ?_
      exact hk71 h
    · replace h := ite_p h hc
      refine r_aload_n (j := 0) F rfl rfl dX0_breakNumber_91 ?_
      replace h := bind_so h
      obtain ⟨a92, h92, h⟩ := h
      refine r_getT (t := 2) rfl clok_0 F (by decide) h92 tw_297 dX0_breakNumber_92 ?_
      refine r_iload (j := 1) F rfl dX0_breakNumber_95 ?_
      replace h := bind_so h
      obtain ⟨a97, h97, h⟩ := h
      refine r_iald F h97 dX0_breakNumber_97 ?_
      obtain rfl := Option.some.inj h
      exact r_iret F dX0_breakNumber_98
theorem tX0_breakNumber_71 {E : En} {p : Program} {l : Launch} {e : Env} {s : State} {m : MethodId} {args : Array Value} {below : List Frame} {meth : Method} {c : Code} {q : Int × Mem} (F : Fx E p s m args meth c cX0_breakNumber 9 yX0_breakNumber.cls (some FieldType.int) yX0_breakNumber.name) : ∀ {fu : Nat} {l0 l5 l6 l7 l8 : Int} {M : Mem}, mX0_breakNumber_71 fu l0 l5 l6 l7 l8 M = some q → G E p l e (rmOf 99 0 0) s m args below meth c 9 (QZ E below args s (rmOf 99 0 0) (some (vI q.1)) q.2) 0 0 M 71 [(0, vR l0), (5, vI l5), (6, vI l6), (7, vI l7), (8, vI l8)] [] := by
  intro fu
  induction fu with
  | zero => intro l0 l5 l6 l7 l8 M h; exact nomatch (show (none : Option (Int × Mem)) = some q from h)
  | succ fu ih => intro l0 l5 l6 l7 l8 M h; exact tbX0_breakNumber_71  (fun h => ih h) F h
theorem tbX0_breakNumber_36 {E : En} {p : Program} {l : Launch} {e : Env} {s : State} {m : MethodId} {args : Array Value} {below : List Frame} {meth : Method} {c : Code} {q : Int × Mem} {k36 : Int → Int → Int → Int → Int → Mem → Option (Int × Mem)} (hk36 : ∀ {l0 l5 l6 l7 l8 : Int} {M : Mem}, k36 l0 l5 l6 l7 l8 M = some q → G E p l e (rmOf 99 0 0) s m args below meth c 9 (QZ E below args s (rmOf 99 0 0) (some (vI q.1)) q.2) 0 0 M 36 [(0, vR l0), (5, vI l5), (6, vI l6), (7, vI l7), (8, vI l8)] []) {l0 l5 l6 l7 l8 : Int} {M : Mem} (F : Fx E p s m args meth c cX0_breakNumber 9 yX0_breakNumber.cls (some FieldType.int) yX0_breakNumber.name) (h : bX0_breakNumber_36 k36 l0 l5 l6 l7 l8 M = some q) : G E p l e (rmOf 99 0 0) s m args below meth c 9 (QZ E below args s (rmOf 99 0 0) (some (vI q.1)) q.2) 0 0 M 36 [(0, vR l0), (5, vI l5), (6, vI l6), (7, vI l7), (8, vI l8)] [] := by
  unfold bX0_breakNumber_36 at h
  refine r_iload (j := 4) F rfl dX0_breakNumber_36 ?_
  refine r_iload (j := 2) F rfl dX0_breakNumber_38 ?_
  refine r_icmp_ge (tgt := 68) F (by decide) dX0_breakNumber_40 (fun hc => ?_) (fun hc => ?_)
  · replace h := ite_p h hc
    refine r_iconst F rfl dX0_breakNumber_68 ?_
    refine r_istore (ls' := [(8, vI 0), (0, vR l0), (5, vI l5), (6, vI l6), (7, vI l7)]) F (by decide) rfl dX0_breakNumber_69 ?_
    refine r_sub [1, 2, 3, 4, 0] (ls' := [(0, vR l0), (5, vI l5), (6, vI l6), (7, vI l7), (8, vI 0)]) rfl ?_
    exact tX0_breakNumber_71 F h
  · replace h := ite_n h hc
    refine r_aload_n (j := 0) F rfl rfl dX0_breakNumber_43 ?_
    replace h := bind_so h
    obtain ⟨a44, h44, h⟩ := h
    refine r_getT (t := 2) rfl clok_0 F (by decide) h44 tw_297 dX0_breakNumber_44 ?_
    refine r_iload (j := 4) F rfl dX0_breakNumber_47 ?_
    refine r_iconst F rfl dX0_breakNumber_49 ?_
    replace h := bind_so h
    obtain ⟨M50, h50, h⟩ := h
    refine r_iast F h50 dX0_breakNumber_50 ?_
    refine r_iload (j := 3) F rfl dX0_breakNumber_51 ?_
    refine r_aload_n (j := 0) F rfl rfl dX0_breakNumber_53 ?_
    refine r_iload (j := 4) F rfl dX0_breakNumber_54 ?_
    replace h := bind_so h
    obtain ⟨_, g56, h⟩ := h
    replace h := bind_so h
    obtain ⟨q56, h56, h⟩ := h
    refine r_callV (as := [vI l8]) (rv := (some (vI q56.1))) (kc := 0) (nc := 0) (tX0_sizeAt h56) clok_0 F (gK_so g56) tw_905 tw_907 tw_32 tw_908 tw_116 ⟨by decide, by decide, show (parseMethodDescriptor yX0_sizeAt.desc).map (fun d => d.parameters.length) = some 1 by decide +kernel⟩ ⟨by decide, by decide⟩ (Nat.le_of_ble_eq_true rfl) dX0_breakNumber_56 ?_
    refine r_imul F dX0_breakNumber_59 ?_
    refine r_istore (ls' := [(7, vI (wI (l7 * q56.1))), (0, vR l0), (5, vI l5), (6, vI l6), (8, vI l8)]) F (by decide) rfl dX0_breakNumber_60 ?_
    refine r_iinc (j := 4) (ls' := [(8, vI (wI (l8 + 1))), (7, vI (wI (l7 * q56.1))), (0, vR l0), (5, vI l5), (6, vI l6)]) F rfl (by decide) rfl dX0_breakNumber_62 ?_
    refine r_goto (tgt := 36) F (by decide) dX0_breakNumber_65 ?_
    refine r_sub [2, 3, 4, 1, 0] (ls' := [(0, vR l0), (5, vI l5), (6, vI l6), (7, vI (wI (l7 * q56.1))), (8, vI (wI (l8 + 1)))]) rfl ?_
    exact hk36 h
theorem tX0_breakNumber_36 {E : En} {p : Program} {l : Launch} {e : Env} {s : State} {m : MethodId} {args : Array Value} {below : List Frame} {meth : Method} {c : Code} {q : Int × Mem} (F : Fx E p s m args meth c cX0_breakNumber 9 yX0_breakNumber.cls (some FieldType.int) yX0_breakNumber.name) : ∀ {fu : Nat} {l0 l5 l6 l7 l8 : Int} {M : Mem}, mX0_breakNumber_36 fu l0 l5 l6 l7 l8 M = some q → G E p l e (rmOf 99 0 0) s m args below meth c 9 (QZ E below args s (rmOf 99 0 0) (some (vI q.1)) q.2) 0 0 M 36 [(0, vR l0), (5, vI l5), (6, vI l6), (7, vI l7), (8, vI l8)] [] := by
  intro fu
  induction fu with
  | zero => intro l0 l5 l6 l7 l8 M h; exact nomatch (show (none : Option (Int × Mem)) = some q from h)
  | succ fu ih => intro l0 l5 l6 l7 l8 M h; exact tbX0_breakNumber_36  (fun h => ih h) F h
theorem tX0_breakNumber {l0 l1 l2 l3 l5 : Int} {M : Mem} {q : Int × Mem} (h : mX0_breakNumber l0 l1 l2 l3 l5 M = some q) : Ct 99 0 0 yX0_breakNumber cX0_breakNumber 9 (some FieldType.int) [vR l0, vR l1, vR l2, vL l3, vI l5] M (some (vI q.1)) q.2 := by
  unfold mX0_breakNumber at h
  refine Ct.of (by decide) (Nat.le_of_ble_eq_true rfl) ?_
  intro E p l e s m args below meth c F
  refine r_sub [0, 1, 2, 3, 4] (ls' := [(0, vR l0), (1, vR l1), (2, vR l2), (3, vL l3), (5, vI l5)]) rfl ?_
  refine r_aload_n (j := 0) F rfl rfl dX0_breakNumber_0 ?_
  refine r_aload_n (j := 1) F rfl rfl dX0_breakNumber_1 ?_
  refine r_aload_n (j := 2) F rfl rfl dX0_breakNumber_2 ?_
  refine r_lload_n (j := 3) F rfl rfl dX0_breakNumber_3 ?_
  replace h := bind_so h
  obtain ⟨_, g4, h⟩ := h
  replace h := bind_so h
  obtain ⟨q4, h4, h⟩ := h
  refine r_callV (as := [vR l1, vR l2, vL l3]) (rv := none) (kc := 0) (nc := 0) (tX0_takeWorld h4) clok_0 F (gK_so g4) tw_891 tw_893 tw_29 tw_894 tw_116 ⟨by decide, by decide, show (parseMethodDescriptor yX0_takeWorld.desc).map (fun d => d.parameters.length) = some 3 by decide +kernel⟩ ⟨by decide, by decide⟩ (Nat.le_of_ble_eq_true rfl) dX0_breakNumber_4 ?_
  refine r_aload_n (j := 0) F rfl rfl dX0_breakNumber_7 ?_
  replace h := bind_so h
  obtain ⟨a8, h8, h⟩ := h
  refine r_getT (t := 2) rfl clok_0 F (by decide) h8 tw_295 dX0_breakNumber_8 ?_
  replace h := bind_so h
  obtain ⟨_, g11, h⟩ := h
  replace h := bind_so h
  obtain ⟨q11, h11, h⟩ := h
  refine r_callV (as := []) (rv := (some (vI q11.1))) (kc := 0) (nc := 0) (tX5_leadingAlls h11) clok_5 F (gK_so g11) tw_949 tw_950 tw_951 tw_952 tw_120 ⟨by decide, by decide, show (parseMethodDescriptor yX5_leadingAlls.desc).map (fun d => d.parameters.length) = some 0 by decide +kernel⟩ ⟨by decide, by decide⟩ (Nat.le_of_ble_eq_true rfl) dX0_breakNumber_11 ?_
  refine r_istore (ls' := [(6, vI q11.1), (0, vR l0), (1, vR l1), (2, vR l2), (3, vL l3), (5, vI l5)]) F (by decide) rfl dX0_breakNumber_14 ?_
  refine r_iload (j := 5) F rfl dX0_breakNumber_16 ?_
  refine r_if_lt (tgt := 28) F (by decide) dX0_breakNumber_18 (fun hc => ?_) (fun hc => ?_)
  · replace h := ite_p h hc
    refine r_iconst F rfl dX0_breakNumber_28 ?_
    obtain rfl := Option.some.inj h
    exact r_iret F dX0_breakNumber_29
  · replace h := ite_n h hc
    refine r_iload (j := 5) F rfl dX0_breakNumber_21 ?_
    refine r_iload (j := 0) F rfl dX0_breakNumber_23 ?_
    refine r_icmp_lt (tgt := 30) F (by decide) dX0_breakNumber_25 (fun hc => ?_) (fun hc => ?_)
    · replace h := ite_p h hc
      refine r_iconst F rfl dX0_breakNumber_30 ?_
      refine r_istore (ls' := [(7, vI 1), (6, vI q11.1), (0, vR l0), (1, vR l1), (2, vR l2), (3, vL l3), (5, vI l5)]) F (by decide) rfl dX0_breakNumber_31 ?_
      refine r_iconst F rfl dX0_breakNumber_33 ?_
      refine r_istore (ls' := [(8, vI 0), (7, vI 1), (6, vI q11.1), (0, vR l0), (1, vR l1), (2, vR l2), (3, vL l3), (5, vI l5)]) F (by decide) rfl dX0_breakNumber_34 ?_
      refine r_sub [3, 7, 2, 1, 0] (ls' := [(0, vR l0), (5, vI l5), (6, vI q11.1), (7, vI 1), (8, vI 0)]) rfl ?_
      exact tX0_breakNumber_36 F h
    · replace h := ite_n h hc
      refine r_iconst F rfl dX0_breakNumber_28 ?_
      obtain rfl := Option.some.inj h
      exact r_iret F dX0_breakNumber_29
theorem tX7_init {l0 : Int} {M : Mem} {q : Int × Mem} (h : mX7_init l0 M = some q) : Ct 1 1 64 yX7_init cX7_init 1 none [vR l0] M none q.2 := by
  unfold mX7_init at h
  refine Ct.of (by decide) (Nat.le_of_ble_eq_true rfl) ?_
  intro E p l e s m args below meth c F
  refine r_sub [0] (ls' := [(0, vR l0)]) rfl ?_
  refine r_aload_n (j := 0) F rfl rfl dX7_init_0 ?_
  replace h := bind_so h
  obtain ⟨_, h1, h⟩ := h
  refine r_objK (gK_so h1) (by decide) F tw_324 tw_136 tw_137 ⟨by decide, by decide⟩ (Nat.le_of_ble_eq_true rfl) dX7_init_1 ?_
  refine r_aload_n (j := 0) F rfl rfl dX7_init_4 ?_
  refine r_bipush F rfl (by decide) dX7_init_5 ?_
  replace h := bind_so h
  obtain ⟨q7, h7, h⟩ := h
  refine r_newaK13 (B := 64) (by decide) F h7 tw_286 dX7_init_7 (by decide) ?_
  replace h := bind_so h
  obtain ⟨M9, h9, h⟩ := h
  refine r_putF clok_7 F (by decide) rfl rfl rfl (by decide) (by decide) h9 tw_325 dX7_init_9 ?_
  refine r_aload_n (j := 0) F rfl rfl dX7_init_12 ?_
  refine r_iconst F rfl dX7_init_13 ?_
  replace h := bind_so h
  obtain ⟨M14, h14, h⟩ := h
  refine r_put clok_7 F (by decide) rfl (by decide) (by decide) h14 tw_327 dX7_init_14 ?_
  refine r_aload_n (j := 0) F rfl rfl dX7_init_17 ?_
  refine r_iconst F rfl dX7_init_18 ?_
  replace h := bind_so h
  obtain ⟨M19, h19, h⟩ := h
  refine r_put clok_7 F (by decide) rfl (by decide) (by decide) h19 tw_328 dX7_init_19 ?_
  obtain rfl := Option.some.inj h
  exact r_vret F dX7_init_22
theorem tX1_init {l0 : Int} {M : Mem} {q : Int × Mem} (h : mX1_init l0 M = some q) : Ct 2 6 2729 yX1_init cX1_init 1 none [vR l0] M none q.2 := by
  unfold mX1_init at h
  refine Ct.of (by decide) (Nat.le_of_ble_eq_true rfl) ?_
  intro E p l e s m args below meth c F
  refine r_sub [0] (ls' := [(0, vR l0)]) rfl ?_
  refine r_aload_n (j := 0) F rfl rfl dX1_init_0 ?_
  replace h := bind_so h
  obtain ⟨_, h1, h⟩ := h
  refine r_objK (gK_so h1) (by decide) F tw_318 tw_136 tw_137 ⟨by decide, by decide⟩ (Nat.le_of_ble_eq_true rfl) dX1_init_1 ?_
  refine r_aload_n (j := 0) F rfl rfl dX1_init_4 ?_
  refine r_iconst F rfl dX1_init_5 ?_
  replace h := bind_so h
  obtain ⟨q6, h6, h⟩ := h
  refine r_newaK10 (B := 3) (by decide) F h6 tw_203 dX1_init_6 (by decide) ?_
  replace h := bind_so h
  obtain ⟨M8, h8, h⟩ := h
  refine r_putF clok_1 F (by decide) rfl rfl rfl (by decide) (by decide) h8 tw_336 dX1_init_8 ?_
  refine r_aload_n (j := 0) F rfl rfl dX1_init_11 ?_
  refine r_sipush F rfl (by decide) dX1_init_12 ?_
  replace h := bind_so h
  obtain ⟨q15, h15, h⟩ := h
  refine r_newaK10 (B := 2592) (by decide) F h15 tw_203 dX1_init_15 (by decide) ?_
  replace h := bind_so h
  obtain ⟨M17, h17, h⟩ := h
  refine r_putF clok_1 F (by decide) rfl rfl rfl (by decide) (by decide) h17 tw_337 dX1_init_17 ?_
  refine r_aload_n (j := 0) F rfl rfl dX1_init_20 ?_
  replace h := bind_so h
  obtain ⟨q21, h21, h⟩ := h
  refine r_newO clok_7 (by decide +kernel) F h21 tw_319 tw_320 tw_118 dX1_init_21 (by decide) ?_
  refine r_dup1 F rfl dX1_init_24 ?_
  replace h := bind_so h
  obtain ⟨_, g25, h⟩ := h
  replace h := bind_so h
  obtain ⟨q25, h25, h⟩ := h
  refine r_callINK (as := []) (rv := none) (kc := 1) (nc := 64) (tX7_init h25) rfl (gK_so g25) (by decide) F (by decide +kernel) tw_322 rfl tw_323 tw_118 ⟨by decide, by decide, show (parseMethodDescriptor yX7_init.desc).map (fun d => d.parameters.length) = some 0 by decide +kernel⟩ ⟨by decide, by decide⟩ (Nat.le_of_ble_eq_true rfl) dX1_init_25 (by decide) ?_
  replace h := bind_so h
  obtain ⟨M28, h28, h⟩ := h
  refine r_putF clok_1 F (by decide) rfl rfl rfl (by decide) (by decide) h28 tw_338 dX1_init_28 ?_
  refine r_aload_n (j := 0) F rfl rfl dX1_init_31 ?_
  replace h := bind_so h
  obtain ⟨q32, h32, h⟩ := h
  refine r_newO clok_7 (by decide +kernel) F h32 tw_319 tw_320 tw_118 dX1_init_32 (by decide) ?_
  refine r_dup1 F rfl dX1_init_35 ?_
  replace h := bind_so h
  obtain ⟨_, g36, h⟩ := h
  replace h := bind_so h
  obtain ⟨q36, h36, h⟩ := h
  refine r_callINK (as := []) (rv := none) (kc := 1) (nc := 64) (tX7_init h36) rfl (gK_so g36) (by decide) F (by decide +kernel) tw_322 rfl tw_323 tw_118 ⟨by decide, by decide, show (parseMethodDescriptor yX7_init.desc).map (fun d => d.parameters.length) = some 0 by decide +kernel⟩ ⟨by decide, by decide⟩ (Nat.le_of_ble_eq_true rfl) dX1_init_36 (by decide) ?_
  replace h := bind_so h
  obtain ⟨M39, h39, h⟩ := h
  refine r_putF clok_1 F (by decide) rfl rfl rfl (by decide) (by decide) h39 tw_339 dX1_init_39 ?_
  refine r_aload_n (j := 0) F rfl rfl dX1_init_42 ?_
  refine r_iconst F rfl dX1_init_43 ?_
  replace h := bind_so h
  obtain ⟨M44, h44, h⟩ := h
  refine r_put clok_1 F (by decide) rfl (by decide) (by decide) h44 tw_340 dX1_init_44 ?_
  refine r_aload_n (j := 0) F rfl rfl dX1_init_47 ?_
  refine r_iconst F rfl dX1_init_48 ?_
  replace h := bind_so h
  obtain ⟨M49, h49, h⟩ := h
  refine r_put clok_1 F (by decide) rfl (by decide) (by decide) h49 tw_341 dX1_init_49 ?_
  refine r_aload_n (j := 0) F rfl rfl dX1_init_52 ?_
  refine r_iconst F rfl dX1_init_53 ?_
  replace h := bind_so h
  obtain ⟨M54, h54, h⟩ := h
  refine r_putZ clok_1 F (by decide) rfl rfl h54 tw_342 dX1_init_54 ?_
  refine r_aload_n (j := 0) F rfl rfl dX1_init_57 ?_
  refine r_iconst F rfl dX1_init_58 ?_
  replace h := bind_so h
  obtain ⟨M59, h59, h⟩ := h
  refine r_putZ clok_1 F (by decide) rfl rfl h59 tw_343 dX1_init_59 ?_
  obtain rfl := Option.some.inj h
  exact r_vret F dX1_init_62
theorem tX1_forget {l0 : Int} {M : Mem} {q : Int × Mem} (h : mX1_forget l0 M = some q) : Ct 0 0 0 yX1_forget cX1_forget 1 none [vR l0] M none q.2 := by
  unfold mX1_forget at h
  refine Ct.of (by decide) (Nat.le_of_ble_eq_true rfl) ?_
  intro E p l e s m args below meth c F
  refine r_sub [0] (ls' := [(0, vR l0)]) rfl ?_
  refine r_aload_n (j := 0) F rfl rfl dX1_forget_0 ?_
  refine r_iconst F rfl dX1_forget_1 ?_
  replace h := bind_so h
  obtain ⟨M2, h2, h⟩ := h
  refine r_putZ clok_1 F (by decide) rfl rfl h2 tw_342 dX1_forget_2 ?_
  refine r_aload_n (j := 0) F rfl rfl dX1_forget_5 ?_
  refine r_iconst F rfl dX1_forget_6 ?_
  replace h := bind_so h
  obtain ⟨M7, h7, h⟩ := h
  refine r_putZ clok_1 F (by decide) rfl rfl h7 tw_343 dX1_forget_7 ?_
  obtain rfl := Option.some.inj h
  exact r_vret F dX1_forget_10
theorem tX1_ordersOf_30 {E : En} {p : Program} {l : Launch} {e : Env} {s : State} {m : MethodId} {args : Array Value} {below : List Frame} {meth : Method} {c : Code} {q : Int × Mem} {l0 l1 : Int} {M : Mem} (F : Fx E p s m args meth c cX1_ordersOf 3 yX1_ordersOf.cls (some FieldType.int) yX1_ordersOf.name) (h : mX1_ordersOf_30 l0 l1 M = some q) : G E p l e (rmOf 0 0 0) s m args below meth c 3 (QZ E below args s (rmOf 0 0 0) (some (vI q.1)) q.2) 0 0 M 30 [(0, vR l0), (1, vI l1)] [] := by
  unfold mX1_ordersOf_30 at h
  refine r_gs_orn F tw_606 dX1_ordersOf_30 ?_
  refine r_aload_n (j := 0) F rfl rfl dX1_ordersOf_33 ?_
  replace h := bind_so h
  obtain ⟨a34, h34, h⟩ := h
  refine r_getT (t := 2) rfl clok_3 F (by decide) h34 tw_158 dX1_ordersOf_34 ?_
  refine r_iload_n (j := 1) F rfl rfl dX1_ordersOf_37 ?_
  replace h := bind_so h
  obtain ⟨a38, h38, h⟩ := h
  refine r_iald F h38 dX1_ordersOf_38 ?_
  replace h := bind_so h
  obtain ⟨a39, h39, h⟩ := h
  refine r_ld_orn F h39 dX1_ordersOf_39 ?_
  obtain rfl := Option.some.inj h
  exact r_iret F dX1_ordersOf_40
theorem tbX1_ordersOf_2 {E : En} {p : Program} {l : Launch} {e : Env} {s : State} {m : MethodId} {args : Array Value} {below : List Frame} {meth : Method} {c : Code} {q : Int × Mem} {k2 : Int → Int → Int → Mem → Option (Int × Mem)} (hk2 : ∀ {l0 l1 l2 : Int} {M : Mem}, k2 l0 l1 l2 M = some q → G E p l e (rmOf 0 0 0) s m args below meth c 3 (QZ E below args s (rmOf 0 0 0) (some (vI q.1)) q.2) 0 0 M 2 [(0, vR l0), (1, vI l1), (2, vI l2)] []) {l0 l1 l2 : Int} {M : Mem} (F : Fx E p s m args meth c cX1_ordersOf 3 yX1_ordersOf.cls (some FieldType.int) yX1_ordersOf.name) (h : bX1_ordersOf_2 k2 l0 l1 l2 M = some q) : G E p l e (rmOf 0 0 0) s m args below meth c 3 (QZ E below args s (rmOf 0 0 0) (some (vI q.1)) q.2) 0 0 M 2 [(0, vR l0), (1, vI l1), (2, vI l2)] [] := by
  unfold bX1_ordersOf_2 at h
  refine r_iload_n (j := 2) F rfl rfl dX1_ordersOf_2 ?_
  refine r_aload_n (j := 0) F rfl rfl dX1_ordersOf_3 ?_
  replace h := bind_so h
  obtain ⟨a4, h4, h⟩ := h
  refine r_getT (t := 0) rfl clok_3 F (by decide) h4 tw_179 dX1_ordersOf_4 ?_
  refine r_icmp_ge (tgt := 47) F (by decide) dX1_ordersOf_7 (fun hc => ?_) (fun hc => ?_)
  · replace h := ite_p h hc
    refine r_iconst F rfl dX1_ordersOf_47 ?_
    obtain rfl := Option.some.inj h
    exact r_iret F dX1_ordersOf_48
  · replace h := ite_n h hc
    refine r_aload_n (j := 0) F rfl rfl dX1_ordersOf_10 ?_
    replace h := bind_so h
    obtain ⟨a11, h11, h⟩ := h
    refine r_getT (t := 2) rfl clok_3 F (by decide) h11 tw_163 dX1_ordersOf_11 ?_
    refine r_iload_n (j := 2) F rfl rfl dX1_ordersOf_14 ?_
    replace h := bind_so h
    obtain ⟨a15, h15, h⟩ := h
    refine r_iald F h15 dX1_ordersOf_15 ?_
    refine r_iload_n (j := 1) F rfl rfl dX1_ordersOf_16 ?_
    refine r_icmp_eq (tgt := 30) F (by decide) dX1_ordersOf_17 (fun hc => ?_) (fun hc => ?_)
    · replace h := ite_p h hc
      refine r_sub [0, 1] (ls' := [(0, vR l0), (1, vI l1)]) rfl ?_
      exact tX1_ordersOf_30 F h
    · replace h := ite_n h hc
      refine r_aload_n (j := 0) F rfl rfl dX1_ordersOf_20 ?_
      replace h := bind_so h
      obtain ⟨a21, h21, h⟩ := h
      refine r_getT (t := 2) rfl clok_3 F (by decide) h21 tw_165 dX1_ordersOf_21 ?_
      refine r_iload_n (j := 2) F rfl rfl dX1_ordersOf_24 ?_
      replace h := bind_so h
      obtain ⟨a25, h25, h⟩ := h
      refine r_iald F h25 dX1_ordersOf_25 ?_
      refine r_iload_n (j := 1) F rfl rfl dX1_ordersOf_26 ?_
      refine r_icmp_ne (tgt := 41) F (by decide) dX1_ordersOf_27 (fun hc => ?_) (fun hc => ?_)
      · replace h := ite_n h hc
        refine r_iinc (j := 2) (ls' := [(2, vI (wI (l2 + 1))), (0, vR l0), (1, vI l1)]) F rfl (by decide) rfl dX1_ordersOf_41 ?_
        refine r_goto (tgt := 2) F (by decide) dX1_ordersOf_44 ?_
        refine r_sub [1, 2, 0] (ls' := [(0, vR l0), (1, vI l1), (2, vI (wI (l2 + 1)))]) rfl ?_
        exact hk2 h
      · replace h := ite_p h hc
        refine r_sub [0, 1] (ls' := [(0, vR l0), (1, vI l1)]) rfl ?_
        exact tX1_ordersOf_30 F h
theorem tX1_ordersOf_2 {E : En} {p : Program} {l : Launch} {e : Env} {s : State} {m : MethodId} {args : Array Value} {below : List Frame} {meth : Method} {c : Code} {q : Int × Mem} (F : Fx E p s m args meth c cX1_ordersOf 3 yX1_ordersOf.cls (some FieldType.int) yX1_ordersOf.name) : ∀ {fu : Nat} {l0 l1 l2 : Int} {M : Mem}, mX1_ordersOf_2 fu l0 l1 l2 M = some q → G E p l e (rmOf 0 0 0) s m args below meth c 3 (QZ E below args s (rmOf 0 0 0) (some (vI q.1)) q.2) 0 0 M 2 [(0, vR l0), (1, vI l1), (2, vI l2)] [] := by
  intro fu
  induction fu with
  | zero => intro l0 l1 l2 M h; exact nomatch (show (none : Option (Int × Mem)) = some q from h)
  | succ fu ih => intro l0 l1 l2 M h; exact tbX1_ordersOf_2  (fun h => ih h) F h
theorem tX1_ordersOf {l0 l1 : Int} {M : Mem} {q : Int × Mem} (h : mX1_ordersOf l0 l1 M = some q) : Ct 0 0 0 yX1_ordersOf cX1_ordersOf 3 (some FieldType.int) [vR l0, vI l1] M (some (vI q.1)) q.2 := by
  unfold mX1_ordersOf at h
  refine Ct.of (by decide) (Nat.le_of_ble_eq_true rfl) ?_
  intro E p l e s m args below meth c F
  refine r_sub [0, 1] (ls' := [(0, vR l0), (1, vI l1)]) rfl ?_
  refine r_iconst F rfl dX1_ordersOf_0 ?_
  refine r_istore_n (ls' := [(2, vI 0), (0, vR l0), (1, vI l1)]) F rfl (by decide) rfl dX1_ordersOf_1 ?_
  refine r_sub [1, 2, 0] (ls' := [(0, vR l0), (1, vI l1), (2, vI 0)]) rfl ?_
  exact tX1_ordersOf_2 F h
theorem tX1_ordered_31 {E : En} {p : Program} {l : Launch} {e : Env} {s : State} {m : MethodId} {args : Array Value} {below : List Frame} {meth : Method} {c : Code} {q : Int × Mem} {l2 : Int} {M : Mem} (F : Fx E p s m args meth c cX1_ordered 4 yX1_ordered.cls (some FieldType.int) yX1_ordered.name) (h : mX1_ordered_31 l2 M = some q) : G E p l e (rmOf 0 0 0) s m args below meth c 4 (QZ E below args s (rmOf 0 0 0) (some (vI q.1)) q.2) 0 0 M 31 [(2, vI l2)] [] := by
  unfold mX1_ordered_31 at h
  refine r_iload_n (j := 0) F rfl rfl dX1_ordered_31 ?_
  obtain rfl := Option.some.inj h
  exact r_iret F dX1_ordered_32
theorem tX1_ordered {l0 l1 l2 : Int} {M : Mem} {q : Int × Mem} (h : mX1_ordered l0 l1 l2 M = some q) : Ct 0 0 0 yX1_ordered cX1_ordered 4 (some FieldType.int) [vR l0, vI l1, vI l2] M (some (vI q.1)) q.2 := by
  unfold mX1_ordered at h
  refine Ct.of (by decide) (Nat.le_of_ble_eq_true rfl) ?_
  intro E p l e s m args below meth c F
  refine r_sub [0, 1, 2] (ls' := [(0, vR l0), (1, vI l1), (2, vI l2)]) rfl ?_
  refine r_aload_n (j := 0) F rfl rfl dX1_ordered_0 ?_
  replace h := bind_so h
  obtain ⟨a1, h1, h⟩ := h
  refine r_getT (t := 2) rfl clok_1 F (by decide) h1 tw_336 dX1_ordered_1 ?_
  refine r_iload_n (j := 1) F rfl rfl dX1_ordered_4 ?_
  replace h := bind_so h
  obtain ⟨a5, h5, h⟩ := h
  refine r_iald F h5 dX1_ordered_5 ?_
  refine r_iconst F rfl dX1_ordered_6 ?_
  refine r_imul F dX1_ordered_7 ?_
  refine r_iload_n (j := 2) F rfl rfl dX1_ordered_8 ?_
  refine r_iadd F dX1_ordered_9 ?_
  replace h := bind_so h
  obtain ⟨b10, e10, h⟩ := h
  refine r_eq (y := b10) (Option.some.inj e10) ?_
  refine r_istore_n (ls' := [(3, vI b10), (0, vR l0), (1, vI l1), (2, vI l2)]) F rfl (by decide) rfl dX1_ordered_10 ?_
  refine r_iload_n (j := 0) F rfl rfl dX1_ordered_11 ?_
  refine r_if_lt (tgt := 31) F (by decide) dX1_ordered_12 (fun hc => ?_) (fun hc => ?_)
  · replace h := ite_p h hc
    refine r_sub [3] (ls' := [(2, vI l2)]) rfl ?_
    exact tX1_ordered_31 F h
  · replace h := ite_n h hc
    refine r_iload_n (j := 0) F rfl rfl dX1_ordered_15 ?_
    refine r_gs_ord F tw_616 dX1_ordered_16 ?_
    refine r_len_ord F dX1_ordered_19 ?_
    refine r_icmp_ge (tgt := 31) F (by decide) dX1_ordered_20 (fun hc => ?_) (fun hc => ?_)
    · replace h := ite_p h hc
      refine r_sub [3] (ls' := [(2, vI l2)]) rfl ?_
      exact tX1_ordered_31 F h
    · replace h := ite_n h hc
      refine r_gs_ord F tw_616 dX1_ordered_23 ?_
      refine r_iload_n (j := 0) F rfl rfl dX1_ordered_26 ?_
      replace h := bind_so h
      obtain ⟨a27, h27, h⟩ := h
      refine r_ld_ord F h27 dX1_ordered_27 ?_
      refine r_goto (tgt := 32) F (by decide) dX1_ordered_28 ?_
      obtain rfl := Option.some.inj h
      exact r_iret F dX1_ordered_32
theorem tX1_addWay_137 {E : En} {p : Program} {l : Launch} {e : Env} {s : State} {m : MethodId} {args : Array Value} {below : List Frame} {meth : Method} {c : Code} {q : Int × Mem} {k4 : Int → Int → Int → Int → Mem → Option (Int × Mem)} {k23 : Int → Int → Int → Int → Int → Int → Mem → Option (Int × Mem)} {k58 : Int → Int → Int → Int → Int → Int → Int → Int → Mem → Option (Int × Mem)} (hk4 : ∀ {l0 l1 l2 l3 : Int} {M : Mem}, k4 l0 l1 l2 l3 M = some q → G E p l e (rmOf 1 0 0) s m args below meth c 9 (QZ E below args s (rmOf 1 0 0) none q.2) 0 0 M 4 [(0, vR l0), (1, vR l1), (2, vI l2), (3, vI l3)] []) (hk23 : ∀ {l0 l1 l2 l3 l4 l5 : Int} {M : Mem}, k23 l0 l1 l2 l3 l4 l5 M = some q → G E p l e (rmOf 1 0 0) s m args below meth c 9 (QZ E below args s (rmOf 1 0 0) none q.2) 0 0 M 23 [(0, vR l0), (1, vR l1), (2, vI l2), (3, vI l3), (4, vI l4), (5, vI l5)] []) (hk58 : ∀ {l0 l1 l2 l3 l4 l5 l6 l7 : Int} {M : Mem}, k58 l0 l1 l2 l3 l4 l5 l6 l7 M = some q → G E p l e (rmOf 1 0 0) s m args below meth c 9 (QZ E below args s (rmOf 1 0 0) none q.2) 0 0 M 58 [(0, vR l0), (1, vR l1), (2, vI l2), (3, vI l3), (4, vI l4), (5, vI l5), (6, vI l6), (7, vI l7)] []) {l0 l1 l2 l3 l4 l5 l6 l7 : Int} {M : Mem} (F : Fx E p s m args meth c cX1_addWay 9 yX1_addWay.cls none yX1_addWay.name) (h : mX1_addWay_137 k4 k23 k58 l0 l1 l2 l3 l4 l5 l6 l7 M = some q) : G E p l e (rmOf 1 0 0) s m args below meth c 9 (QZ E below args s (rmOf 1 0 0) none q.2) 0 0 M 137 [(0, vR l0), (1, vR l1), (2, vI l2), (3, vI l3), (4, vI l4), (5, vI l5), (6, vI l6), (7, vI l7)] [] := by
  unfold mX1_addWay_137 at h
  refine r_iinc (j := 2) (ls' := [(2, vI (wI (l2 + 1))), (0, vR l0), (1, vR l1), (3, vI l3), (4, vI l4), (5, vI l5), (6, vI l6), (7, vI l7)]) F rfl (by decide) rfl dX1_addWay_137 ?_
  refine r_iinc (j := 7) (ls' := [(7, vI (wI (l7 + 1))), (2, vI (wI (l2 + 1))), (0, vR l0), (1, vR l1), (3, vI l3), (4, vI l4), (5, vI l5), (6, vI l6)]) F rfl (by decide) rfl dX1_addWay_140 ?_
  refine r_goto (tgt := 58) F (by decide) dX1_addWay_143 ?_
  refine r_sub [2, 3, 1, 4, 5, 6, 7, 0] (ls' := [(0, vR l0), (1, vR l1), (2, vI (wI (l2 + 1))), (3, vI l3), (4, vI l4), (5, vI l5), (6, vI l6), (7, vI (wI (l7 + 1)))]) rfl ?_
  exact hk58 h
theorem tX1_addWay_96 {E : En} {p : Program} {l : Launch} {e : Env} {s : State} {m : MethodId} {args : Array Value} {below : List Frame} {meth : Method} {c : Code} {q : Int × Mem} {k4 : Int → Int → Int → Int → Mem → Option (Int × Mem)} {k23 : Int → Int → Int → Int → Int → Int → Mem → Option (Int × Mem)} {k58 : Int → Int → Int → Int → Int → Int → Int → Int → Mem → Option (Int × Mem)} (hk4 : ∀ {l0 l1 l2 l3 : Int} {M : Mem}, k4 l0 l1 l2 l3 M = some q → G E p l e (rmOf 1 0 0) s m args below meth c 9 (QZ E below args s (rmOf 1 0 0) none q.2) 0 0 M 4 [(0, vR l0), (1, vR l1), (2, vI l2), (3, vI l3)] []) (hk23 : ∀ {l0 l1 l2 l3 l4 l5 : Int} {M : Mem}, k23 l0 l1 l2 l3 l4 l5 M = some q → G E p l e (rmOf 1 0 0) s m args below meth c 9 (QZ E below args s (rmOf 1 0 0) none q.2) 0 0 M 23 [(0, vR l0), (1, vR l1), (2, vI l2), (3, vI l3), (4, vI l4), (5, vI l5)] []) (hk58 : ∀ {l0 l1 l2 l3 l4 l5 l6 l7 : Int} {M : Mem}, k58 l0 l1 l2 l3 l4 l5 l6 l7 M = some q → G E p l e (rmOf 1 0 0) s m args below meth c 9 (QZ E below args s (rmOf 1 0 0) none q.2) 0 0 M 58 [(0, vR l0), (1, vR l1), (2, vI l2), (3, vI l3), (4, vI l4), (5, vI l5), (6, vI l6), (7, vI l7)] []) {l0 l1 l2 l3 l4 l5 l6 l7 s0 s1 : Int} {M : Mem} (F : Fx E p s m args meth c cX1_addWay 9 yX1_addWay.cls none yX1_addWay.name) (h : mX1_addWay_96 k4 k23 k58 l0 l1 l2 l3 l4 l5 l6 l7 s0 s1 M = some q) : G E p l e (rmOf 1 0 0) s m args below meth c 9 (QZ E below args s (rmOf 1 0 0) none q.2) 0 0 M 96 [(0, vR l0), (1, vR l1), (2, vI l2), (3, vI l3), (4, vI l4), (5, vI l5), (6, vI l6), (7, vI l7)] [vI s1, vI s0] := by
  unfold mX1_addWay_96 at h
  refine r_iadd F dX1_addWay_96 ?_
  refine r_istore (ls' := [(8, vI (wI (s0 + s1))), (0, vR l0), (1, vR l1), (2, vI l2), (3, vI l3), (4, vI l4), (5, vI l5), (6, vI l6), (7, vI l7)]) F (by decide) rfl dX1_addWay_97 ?_
  refine r_aload_n (j := 1) F rfl rfl dX1_addWay_99 ?_
  replace h := bind_so h
  obtain ⟨a100, h100, h⟩ := h
  refine r_getT (t := 0) rfl clok_1 F (by decide) h100 tw_340 dX1_addWay_100 ?_
  refine r_sipush F rfl (by decide) dX1_addWay_103 ?_
  refine r_icmp_ge (tgt := 137) F (by decide) dX1_addWay_106 (fun hc => ?_) (fun hc => ?_)
  · replace h := ite_p h hc
    refine r_sub [1, 2, 3, 4, 5, 6, 7, 8] (ls' := [(0, vR l0), (1, vR l1), (2, vI l2), (3, vI l3), (4, vI l4), (5, vI l5), (6, vI l6), (7, vI l7)]) rfl ?_
    exact tX1_addWay_137 (fun h => hk4 h) (fun h => hk23 h) (fun h => hk58 h) F h
  · replace h := ite_n h hc
    refine r_iload_n (j := 3) F rfl rfl dX1_addWay_109 ?_
    refine r_bipush F rfl (by decide) dX1_addWay_110 ?_
    refine r_icmp_ge (tgt := 137) F (by decide) dX1_addWay_112 (fun hc => ?_) (fun hc => ?_)
    · replace h := ite_p h hc
      refine r_sub [1, 2, 3, 4, 5, 6, 7, 8] (ls' := [(0, vR l0), (1, vR l1), (2, vI l2), (3, vI l3), (4, vI l4), (5, vI l5), (6, vI l6), (7, vI l7)]) rfl ?_
      exact tX1_addWay_137 (fun h => hk4 h) (fun h => hk23 h) (fun h => hk58 h) F h
    · replace h := ite_n h hc
      refine r_aload_n (j := 1) F rfl rfl dX1_addWay_115 ?_
      replace h := bind_so h
      obtain ⟨a116, h116, h⟩ := h
      refine r_getT (t := 2) rfl clok_1 F (by decide) h116 tw_337 dX1_addWay_116 ?_
      refine r_aload_n (j := 1) F rfl rfl dX1_addWay_119 ?_
      replace h := bind_so h
      obtain ⟨a120, h120, h⟩ := h
      refine r_getT (t := 0) rfl clok_1 F (by decide) h120 tw_340 dX1_addWay_120 ?_
      refine r_bipush F rfl (by decide) dX1_addWay_123 ?_
      refine r_imul F dX1_addWay_125 ?_
      refine r_iload_n (j := 3) F rfl rfl dX1_addWay_126 ?_
      refine r_iadd F dX1_addWay_127 ?_
      refine r_iconst F rfl dX1_addWay_128 ?_
      refine r_aload_n (j := 2) F rfl rfl dX1_addWay_129 ?_
      refine r_iload (j := 0) F rfl dX1_addWay_130 ?_
      replace h := bind_so h
      obtain ⟨_, g132, h⟩ := h
      replace h := bind_so h
      obtain ⟨q132, h132, h⟩ := h
      refine r_callV (as := [vI (wI (s0 + s1))]) (rv := (some (vI q132.1))) (kc := 0) (nc := 0) (tX3_bit h132) clok_3 F (gK_so g132) tw_618 tw_555 tw_556 tw_557 tw_115 ⟨by decide, by decide, show (parseMethodDescriptor yX3_bit.desc).map (fun d => d.parameters.length) = some 1 by decide +kernel⟩ ⟨by decide, by decide⟩ (Nat.le_of_ble_eq_true rfl) dX1_addWay_132 ?_
      refine r_ishl F dX1_addWay_135 ?_
      replace h := bind_so h
      obtain ⟨M136, h136, h⟩ := h
      refine r_iast F h136 dX1_addWay_136 ?_
      refine r_sub [1, 2, 3, 4, 5, 6, 7, 8] (ls' := [(0, vR l0), (1, vR l1), (2, vI l2), (3, vI l3), (4, vI l4), (5, vI l5), (6, vI l6), (7, vI l7)]) rfl ?_
      exact tX1_addWay_137 (fun h => hk4 h) (fun h => hk23 h) (fun h => hk58 h) F h
theorem tbX1_addWay_58 {E : En} {p : Program} {l : Launch} {e : Env} {s : State} {m : MethodId} {args : Array Value} {below : List Frame} {meth : Method} {c : Code} {q : Int × Mem} {k4 : Int → Int → Int → Int → Mem → Option (Int × Mem)} {k23 : Int → Int → Int → Int → Int → Int → Mem → Option (Int × Mem)} (hk4 : ∀ {l0 l1 l2 l3 : Int} {M : Mem}, k4 l0 l1 l2 l3 M = some q → G E p l e (rmOf 1 0 0) s m args below meth c 9 (QZ E below args s (rmOf 1 0 0) none q.2) 0 0 M 4 [(0, vR l0), (1, vR l1), (2, vI l2), (3, vI l3)] []) (hk23 : ∀ {l0 l1 l2 l3 l4 l5 : Int} {M : Mem}, k23 l0 l1 l2 l3 l4 l5 M = some q → G E p l e (rmOf 1 0 0) s m args below meth c 9 (QZ E below args s (rmOf 1 0 0) none q.2) 0 0 M 23 [(0, vR l0), (1, vR l1), (2, vI l2), (3, vI l3), (4, vI l4), (5, vI l5)] []) {k58 : Int → Int → Int → Int → Int → Int → Int → Int → Mem → Option (Int × Mem)} (hk58 : ∀ {l0 l1 l2 l3 l4 l5 l6 l7 : Int} {M : Mem}, k58 l0 l1 l2 l3 l4 l5 l6 l7 M = some q → G E p l e (rmOf 1 0 0) s m args below meth c 9 (QZ E below args s (rmOf 1 0 0) none q.2) 0 0 M 58 [(0, vR l0), (1, vR l1), (2, vI l2), (3, vI l3), (4, vI l4), (5, vI l5), (6, vI l6), (7, vI l7)] []) {l0 l1 l2 l3 l4 l5 l6 l7 : Int} {M : Mem} (F : Fx E p s m args meth c cX1_addWay 9 yX1_addWay.cls none yX1_addWay.name) (h : bX1_addWay_58 k4 k23 k58 l0 l1 l2 l3 l4 l5 l6 l7 M = some q) : G E p l e (rmOf 1 0 0) s m args below meth c 9 (QZ E below args s (rmOf 1 0 0) none q.2) 0 0 M 58 [(0, vR l0), (1, vR l1), (2, vI l2), (3, vI l3), (4, vI l4), (5, vI l5), (6, vI l6), (7, vI l7)] [] := by
  unfold bX1_addWay_58 at h
  refine r_iload (j := 7) F rfl dX1_addWay_58 ?_
  refine r_aload_n (j := 1) F rfl rfl dX1_addWay_60 ?_
  replace h := bind_so h
  obtain ⟨a61, h61, h⟩ := h
  refine r_getT (t := 2) rfl clok_3 F (by decide) h61 tw_175 dX1_addWay_61 ?_
  refine r_iload_n (j := 3) F rfl rfl dX1_addWay_64 ?_
  replace h := bind_so h
  obtain ⟨a65, h65, h⟩ := h
  refine r_iald F h65 dX1_addWay_65 ?_
  refine r_icmp_ge (tgt := 146) F (by decide) dX1_addWay_66 (fun hc => ?_) (fun hc => ?_)
  · replace h := ite_p h hc
    refine r_iinc (j := 5) (ls' := [(5, vI (wI (l5 + 1))), (0, vR l0), (1, vR l1), (2, vI l2), (3, vI l3), (4, vI l4), (6, vI l6), (7, vI l7)]) F rfl (by decide) rfl dX1_addWay_146 ?_
    refine r_goto (tgt := 23) F (by decide) dX1_addWay_149 ?_
    refine r_sub [1, 2, 3, 4, 5, 0] (ls' := [(0, vR l0), (1, vR l1), (2, vI l2), (3, vI l3), (4, vI l4), (5, vI (wI (l5 + 1)))]) rfl ?_
    exact hk23 h
  · replace h := ite_n h hc
    refine r_aload_n (j := 1) F rfl rfl dX1_addWay_69 ?_
    replace h := bind_so h
    obtain ⟨a70, h70, h⟩ := h
    refine r_getT (t := 2) rfl clok_3 F (by decide) h70 tw_168 dX1_addWay_70 ?_
    refine r_iload_n (j := 3) F rfl rfl dX1_addWay_73 ?_
    replace h := bind_so h
    obtain ⟨a74, h74, h⟩ := h
    refine r_iald F h74 dX1_addWay_74 ?_
    refine r_iload (j := 6) F rfl dX1_addWay_75 ?_
    refine r_iadd F dX1_addWay_77 ?_
    refine r_iload (j := 4) F rfl dX1_addWay_78 ?_
    refine r_iconst F rfl dX1_addWay_80 ?_
    refine r_icmp_ne (tgt := 88) F (by decide) dX1_addWay_81 (fun hc => ?_) (fun hc => ?_)
    · replace h := ite_n h hc
      refine r_aload_n (j := 0) F rfl rfl dX1_addWay_88 ?_
      refine r_iload (j := 4) F rfl dX1_addWay_89 ?_
      refine r_iload (j := 7) F rfl dX1_addWay_91 ?_
      replace h := bind_so h
      obtain ⟨_, g93, h⟩ := h
      replace h := bind_so h
      obtain ⟨q93, h93, h⟩ := h
      refine r_callV (as := [vI l4, vI l7]) (rv := (some (vI q93.1))) (kc := 0) (nc := 0) (tX1_ordered h93) clok_1 F (gK_so g93) tw_612 tw_614 tw_4 tw_615 tw_117 ⟨by decide, by decide, show (parseMethodDescriptor yX1_ordered.desc).map (fun d => d.parameters.length) = some 2 by decide +kernel⟩ ⟨by decide, by decide⟩ (Nat.le_of_ble_eq_true rfl) dX1_addWay_93 ?_
      refine r_sub [0, 1, 2, 3, 4, 5, 6, 7] (ls' := [(0, vR l0), (1, vR l1), (2, vI l2), (3, vI l3), (4, vI l4), (5, vI l5), (6, vI l6), (7, vI l7)]) rfl ?_
      exact tX1_addWay_96 (fun h => hk4 h) (fun h => hk23 h) (fun h => hk58 h) F h
    · replace h := ite_p h hc
      refine r_iconst F rfl dX1_addWay_84 ?_
      refine r_goto (tgt := 96) F (by decide) dX1_addWay_85 ?_
      refine r_sub [0, 1, 2, 3, 4, 5, 6, 7] (ls' := [(0, vR l0), (1, vR l1), (2, vI l2), (3, vI l3), (4, vI l4), (5, vI l5), (6, vI l6), (7, vI l7)]) rfl ?_
      exact tX1_addWay_96 (fun h => hk4 h) (fun h => hk23 h) (fun h => hk58 h) F h
theorem tX1_addWay_58 {E : En} {p : Program} {l : Launch} {e : Env} {s : State} {m : MethodId} {args : Array Value} {below : List Frame} {meth : Method} {c : Code} {q : Int × Mem} {k4 : Int → Int → Int → Int → Mem → Option (Int × Mem)} {k23 : Int → Int → Int → Int → Int → Int → Mem → Option (Int × Mem)} (hk4 : ∀ {l0 l1 l2 l3 : Int} {M : Mem}, k4 l0 l1 l2 l3 M = some q → G E p l e (rmOf 1 0 0) s m args below meth c 9 (QZ E below args s (rmOf 1 0 0) none q.2) 0 0 M 4 [(0, vR l0), (1, vR l1), (2, vI l2), (3, vI l3)] []) (hk23 : ∀ {l0 l1 l2 l3 l4 l5 : Int} {M : Mem}, k23 l0 l1 l2 l3 l4 l5 M = some q → G E p l e (rmOf 1 0 0) s m args below meth c 9 (QZ E below args s (rmOf 1 0 0) none q.2) 0 0 M 23 [(0, vR l0), (1, vR l1), (2, vI l2), (3, vI l3), (4, vI l4), (5, vI l5)] []) (F : Fx E p s m args meth c cX1_addWay 9 yX1_addWay.cls none yX1_addWay.name) : ∀ {fu : Nat} {l0 l1 l2 l3 l4 l5 l6 l7 : Int} {M : Mem}, mX1_addWay_58 k4 k23 fu l0 l1 l2 l3 l4 l5 l6 l7 M = some q → G E p l e (rmOf 1 0 0) s m args below meth c 9 (QZ E below args s (rmOf 1 0 0) none q.2) 0 0 M 58 [(0, vR l0), (1, vR l1), (2, vI l2), (3, vI l3), (4, vI l4), (5, vI l5), (6, vI l6), (7, vI l7)] [] := by
  intro fu
  induction fu with
  | zero => intro l0 l1 l2 l3 l4 l5 l6 l7 M h; exact nomatch (show (none : Option (Int × Mem)) = some q from h)
  | succ fu ih => intro l0 l1 l2 l3 l4 l5 l6 l7 M h; exact tbX1_addWay_58 (fun h => hk4 h) (fun h => hk23 h) (fun h => ih h) F h
theorem tbX1_addWay_23 {E : En} {p : Program} {l : Launch} {e : Env} {s : State} {m : MethodId} {args : Array Value} {below : List Frame} {meth : Method} {c : Code} {q : Int × Mem} {k4 : Int → Int → Int → Int → Mem → Option (Int × Mem)} (hk4 : ∀ {l0 l1 l2 l3 : Int} {M : Mem}, k4 l0 l1 l2 l3 M = some q → G E p l e (rmOf 1 0 0) s m args below meth c 9 (QZ E below args s (rmOf 1 0 0) none q.2) 0 0 M 4 [(0, vR l0), (1, vR l1), (2, vI l2), (3, vI l3)] []) {k23 : Int → Int → Int → Int → Int → Int → Mem → Option (Int × Mem)} (hk23 : ∀ {l0 l1 l2 l3 l4 l5 : Int} {M : Mem}, k23 l0 l1 l2 l3 l4 l5 M = some q → G E p l e (rmOf 1 0 0) s m args below meth c 9 (QZ E below args s (rmOf 1 0 0) none q.2) 0 0 M 23 [(0, vR l0), (1, vR l1), (2, vI l2), (3, vI l3), (4, vI l4), (5, vI l5)] []) {l0 l1 l2 l3 l4 l5 : Int} {M : Mem} (F : Fx E p s m args meth c cX1_addWay 9 yX1_addWay.cls none yX1_addWay.name) (h : bX1_addWay_23 k4 k23 l0 l1 l2 l3 l4 l5 M = some q) : G E p l e (rmOf 1 0 0) s m args below meth c 9 (QZ E below args s (rmOf 1 0 0) none q.2) 0 0 M 23 [(0, vR l0), (1, vR l1), (2, vI l2), (3, vI l3), (4, vI l4), (5, vI l5)] [] := by
  unfold bX1_addWay_23 at h
  refine r_iload (j := 5) F rfl dX1_addWay_23 ?_
  refine r_aload_n (j := 1) F rfl rfl dX1_addWay_25 ?_
  replace h := bind_so h
  obtain ⟨a26, h26, h⟩ := h
  refine r_getT (t := 2) rfl clok_3 F (by decide) h26 tw_172 dX1_addWay_26 ?_
  refine r_iload_n (j := 3) F rfl rfl dX1_addWay_29 ?_
  replace h := bind_so h
  obtain ⟨a30, h30, h⟩ := h
  refine r_iald F h30 dX1_addWay_30 ?_
  refine r_icmp_ge (tgt := 152) F (by decide) dX1_addWay_31 (fun hc => ?_) (fun hc => ?_)
  · replace h := ite_p h hc
    refine r_iinc (j := 3) (ls' := [(3, vI (wI (l3 + 1))), (0, vR l0), (1, vR l1), (2, vI l2), (4, vI l4), (5, vI l5)]) F rfl (by decide) rfl dX1_addWay_152 ?_
    refine r_goto (tgt := 4) F (by decide) dX1_addWay_155 ?_
    refine r_sub [1, 2, 3, 0] (ls' := [(0, vR l0), (1, vR l1), (2, vI l2), (3, vI (wI (l3 + 1)))]) rfl ?_
    exact hk4 h
  · replace h := ite_n h hc
    refine r_aload_n (j := 0) F rfl rfl dX1_addWay_34 ?_
    refine r_aload_n (j := 1) F rfl rfl dX1_addWay_35 ?_
    replace h := bind_so h
    obtain ⟨a36, h36, h⟩ := h
    refine r_getT (t := 2) rfl clok_3 F (by decide) h36 tw_163 dX1_addWay_36 ?_
    refine r_iload_n (j := 3) F rfl rfl dX1_addWay_39 ?_
    replace h := bind_so h
    obtain ⟨a40, h40, h⟩ := h
    refine r_iald F h40 dX1_addWay_40 ?_
    refine r_iload (j := 5) F rfl dX1_addWay_41 ?_
    replace h := bind_so h
    obtain ⟨_, g43, h⟩ := h
    replace h := bind_so h
    obtain ⟨q43, h43, h⟩ := h
    refine r_callV (as := [vI a40, vI l5]) (rv := (some (vI q43.1))) (kc := 0) (nc := 0) (tX1_ordered h43) clok_1 F (gK_so g43) tw_612 tw_614 tw_4 tw_615 tw_117 ⟨by decide, by decide, show (parseMethodDescriptor yX1_ordered.desc).map (fun d => d.parameters.length) = some 2 by decide +kernel⟩ ⟨by decide, by decide⟩ (Nat.le_of_ble_eq_true rfl) dX1_addWay_43 ?_
    refine r_aload_n (j := 1) F rfl rfl dX1_addWay_46 ?_
    replace h := bind_so h
    obtain ⟨a47, h47, h⟩ := h
    refine r_getT (t := 2) rfl clok_3 F (by decide) h47 tw_175 dX1_addWay_47 ?_
    refine r_iload_n (j := 3) F rfl rfl dX1_addWay_50 ?_
    replace h := bind_so h
    obtain ⟨a51, h51, h⟩ := h
    refine r_iald F h51 dX1_addWay_51 ?_
    refine r_imul F dX1_addWay_52 ?_
    refine r_istore (ls' := [(6, vI (wI (q43.1 * a51))), (0, vR l0), (1, vR l1), (2, vI l2), (3, vI l3), (4, vI l4), (5, vI l5)]) F (by decide) rfl dX1_addWay_53 ?_
    refine r_iconst F rfl dX1_addWay_55 ?_
    refine r_istore (ls' := [(7, vI 0), (6, vI (wI (q43.1 * a51))), (0, vR l0), (1, vR l1), (2, vI l2), (3, vI l3), (4, vI l4), (5, vI l5)]) F (by decide) rfl dX1_addWay_56 ?_
    refine r_sub [2, 3, 4, 5, 6, 7, 1, 0] (ls' := [(0, vR l0), (1, vR l1), (2, vI l2), (3, vI l3), (4, vI l4), (5, vI l5), (6, vI (wI (q43.1 * a51))), (7, vI 0)]) rfl ?_
    exact tX1_addWay_58 (fun h => hk4 h) (fun h => hk23 h) F h
theorem tX1_addWay_23 {E : En} {p : Program} {l : Launch} {e : Env} {s : State} {m : MethodId} {args : Array Value} {below : List Frame} {meth : Method} {c : Code} {q : Int × Mem} {k4 : Int → Int → Int → Int → Mem → Option (Int × Mem)} (hk4 : ∀ {l0 l1 l2 l3 : Int} {M : Mem}, k4 l0 l1 l2 l3 M = some q → G E p l e (rmOf 1 0 0) s m args below meth c 9 (QZ E below args s (rmOf 1 0 0) none q.2) 0 0 M 4 [(0, vR l0), (1, vR l1), (2, vI l2), (3, vI l3)] []) (F : Fx E p s m args meth c cX1_addWay 9 yX1_addWay.cls none yX1_addWay.name) : ∀ {fu : Nat} {l0 l1 l2 l3 l4 l5 : Int} {M : Mem}, mX1_addWay_23 k4 fu l0 l1 l2 l3 l4 l5 M = some q → G E p l e (rmOf 1 0 0) s m args below meth c 9 (QZ E below args s (rmOf 1 0 0) none q.2) 0 0 M 23 [(0, vR l0), (1, vR l1), (2, vI l2), (3, vI l3), (4, vI l4), (5, vI l5)] [] := by
  intro fu
  induction fu with
  | zero => intro l0 l1 l2 l3 l4 l5 M h; exact nomatch (show (none : Option (Int × Mem)) = some q from h)
  | succ fu ih => intro l0 l1 l2 l3 l4 l5 M h; exact tbX1_addWay_23 (fun h => hk4 h) (fun h => ih h) F h
theorem tbX1_addWay_4 {E : En} {p : Program} {l : Launch} {e : Env} {s : State} {m : MethodId} {args : Array Value} {below : List Frame} {meth : Method} {c : Code} {q : Int × Mem} {k4 : Int → Int → Int → Int → Mem → Option (Int × Mem)} (hk4 : ∀ {l0 l1 l2 l3 : Int} {M : Mem}, k4 l0 l1 l2 l3 M = some q → G E p l e (rmOf 1 0 0) s m args below meth c 9 (QZ E below args s (rmOf 1 0 0) none q.2) 0 0 M 4 [(0, vR l0), (1, vR l1), (2, vI l2), (3, vI l3)] []) {l0 l1 l2 l3 : Int} {M : Mem} (F : Fx E p s m args meth c cX1_addWay 9 yX1_addWay.cls none yX1_addWay.name) (h : bX1_addWay_4 k4 l0 l1 l2 l3 M = some q) : G E p l e (rmOf 1 0 0) s m args below meth c 9 (QZ E below args s (rmOf 1 0 0) none q.2) 0 0 M 4 [(0, vR l0), (1, vR l1), (2, vI l2), (3, vI l3)] [] := by
  unfold bX1_addWay_4 at h
  refine r_iload_n (j := 3) F rfl rfl dX1_addWay_4 ?_
  refine r_aload_n (j := 1) F rfl rfl dX1_addWay_5 ?_
  replace h := bind_so h
  obtain ⟨a6, h6, h⟩ := h
  refine r_getT (t := 0) rfl clok_3 F (by decide) h6 tw_179 dX1_addWay_6 ?_
  refine r_icmp_ge (tgt := 158) F (by decide) dX1_addWay_9 (fun hc => ?_) (fun hc => ?_)
  · replace h := ite_p h hc
    refine r_aload_n (j := 0) F rfl rfl dX1_addWay_158 ?_
    refine r_aload_n (j := 0) F rfl rfl dX1_addWay_159 ?_
    replace h := bind_so h
    obtain ⟨a160, h160, h⟩ := h
    refine r_getT (t := 0) rfl clok_1 F (by decide) h160 tw_340 dX1_addWay_160 ?_
    refine r_iconst F rfl dX1_addWay_163 ?_
    refine r_iadd F dX1_addWay_164 ?_
    refine r_sipush F rfl (by decide) dX1_addWay_165 ?_
    refine r_min F tw_619 tw_620 tw_121 tw_621 ⟨by decide, by decide⟩ (Nat.le_of_ble_eq_true rfl) dX1_addWay_168 ?_
    replace h := bind_so h
    obtain ⟨M171, h171, h⟩ := h
    refine r_put clok_1 F (by decide) rfl (by decide) (by decide) h171 tw_340 dX1_addWay_171 ?_
    obtain rfl := Option.some.inj h
    exact r_vret F dX1_addWay_174
  · replace h := ite_n h hc
    refine r_aload_n (j := 1) F rfl rfl dX1_addWay_12 ?_
    replace h := bind_so h
    obtain ⟨a13, h13, h⟩ := h
    refine r_getT (t := 2) rfl clok_3 F (by decide) h13 tw_165 dX1_addWay_13 ?_
    refine r_iload_n (j := 3) F rfl rfl dX1_addWay_16 ?_
    replace h := bind_so h
    obtain ⟨a17, h17, h⟩ := h
    refine r_iald F h17 dX1_addWay_17 ?_
    refine r_istore (ls' := [(4, vI a17), (0, vR l0), (1, vR l1), (2, vI l2), (3, vI l3)]) F (by decide) rfl dX1_addWay_18 ?_
    refine r_iconst F rfl dX1_addWay_20 ?_
    refine r_istore (ls' := [(5, vI 0), (4, vI a17), (0, vR l0), (1, vR l1), (2, vI l2), (3, vI l3)]) F (by decide) rfl dX1_addWay_21 ?_
    refine r_sub [2, 3, 4, 5, 1, 0] (ls' := [(0, vR l0), (1, vR l1), (2, vI l2), (3, vI l3), (4, vI a17), (5, vI 0)]) rfl ?_
    exact tX1_addWay_23 (fun h => hk4 h) F h
theorem tX1_addWay_4 {E : En} {p : Program} {l : Launch} {e : Env} {s : State} {m : MethodId} {args : Array Value} {below : List Frame} {meth : Method} {c : Code} {q : Int × Mem} (F : Fx E p s m args meth c cX1_addWay 9 yX1_addWay.cls none yX1_addWay.name) : ∀ {fu : Nat} {l0 l1 l2 l3 : Int} {M : Mem}, mX1_addWay_4 fu l0 l1 l2 l3 M = some q → G E p l e (rmOf 1 0 0) s m args below meth c 9 (QZ E below args s (rmOf 1 0 0) none q.2) 0 0 M 4 [(0, vR l0), (1, vR l1), (2, vI l2), (3, vI l3)] [] := by
  intro fu
  induction fu with
  | zero => intro l0 l1 l2 l3 M h; exact nomatch (show (none : Option (Int × Mem)) = some q from h)
  | succ fu ih => intro l0 l1 l2 l3 M h; exact tbX1_addWay_4  (fun h => ih h) F h
theorem tX1_addWay {l0 l1 : Int} {M : Mem} {q : Int × Mem} (h : mX1_addWay l0 l1 M = some q) : Ct 1 0 0 yX1_addWay cX1_addWay 9 none [vR l0, vR l1] M none q.2 := by
  unfold mX1_addWay at h
  refine Ct.of (by decide) (Nat.le_of_ble_eq_true rfl) ?_
  intro E p l e s m args below meth c F
  refine r_sub [0, 1] (ls' := [(0, vR l0), (1, vR l1)]) rfl ?_
  refine r_iconst F rfl dX1_addWay_0 ?_
  refine r_istore_n (ls' := [(2, vI 0), (0, vR l0), (1, vR l1)]) F rfl (by decide) rfl dX1_addWay_1 ?_
  refine r_iconst F rfl dX1_addWay_2 ?_
  refine r_istore_n (ls' := [(3, vI 0), (2, vI 0), (0, vR l0), (1, vR l1)]) F rfl (by decide) rfl dX1_addWay_3 ?_
  refine r_sub [2, 3, 1, 0] (ls' := [(0, vR l0), (1, vR l1), (2, vI 0), (3, vI 0)]) rfl ?_
  exact tX1_addWay_4 F h
theorem tbX1_layOut_95 {E : En} {p : Program} {l : Launch} {e : Env} {s : State} {m : MethodId} {args : Array Value} {below : List Frame} {meth : Method} {c : Code} {q : Int × Mem} {k61 : Int → Int → Int → Int → Int → Mem → Option (Int × Mem)} {k78 : Int → Int → Int → Int → Int → Mem → Option (Int × Mem)} (hk61 : ∀ {l0 l1 l2 l3 l4 : Int} {M : Mem}, k61 l0 l1 l2 l3 l4 M = some q → G E p l e (rmOf 2 0 0) s m args below meth c 5 (QZ E below args s (rmOf 2 0 0) none q.2) 0 0 M 61 [(0, vR l0), (1, vR l1), (2, vI l2), (3, vI l3), (4, vI l4)] []) (hk78 : ∀ {l0 l1 l2 l3 l4 : Int} {M : Mem}, k78 l0 l1 l2 l3 l4 M = some q → G E p l e (rmOf 2 0 0) s m args below meth c 5 (QZ E below args s (rmOf 2 0 0) none q.2) 0 0 M 78 [(0, vR l0), (1, vR l1), (2, vI l2), (3, vI l3), (4, vI l4)] []) {k95 : Int → Int → Int → Int → Int → Mem → Option (Int × Mem)} (hk95 : ∀ {l0 l1 l2 l3 l4 : Int} {M : Mem}, k95 l0 l1 l2 l3 l4 M = some q → G E p l e (rmOf 2 0 0) s m args below meth c 5 (QZ E below args s (rmOf 2 0 0) none q.2) 0 0 M 95 [(0, vR l0), (1, vR l1), (2, vI l2), (3, vI l3), (4, vI l4)] []) {l0 l1 l2 l3 l4 : Int} {M : Mem} (F : Fx E p s m args meth c cX1_layOut 5 yX1_layOut.cls none yX1_layOut.name) (h : bX1_layOut_95 k61 k78 k95 l0 l1 l2 l3 l4 M = some q) : G E p l e (rmOf 2 0 0) s m args below meth c 5 (QZ E below args s (rmOf 2 0 0) none q.2) 0 0 M 95 [(0, vR l0), (1, vR l1), (2, vI l2), (3, vI l3), (4, vI l4)] [] := by
  unfold bX1_layOut_95 at h
  refine r_aload_n (j := 0) F rfl rfl dX1_layOut_95 ?_
  replace h := bind_so h
  obtain ⟨a96, h96, h⟩ := h
  refine r_getT (t := 2) rfl clok_1 F (by decide) h96 tw_336 dX1_layOut_96 ?_
  refine r_iconst F rfl dX1_layOut_99 ?_
  replace h := bind_so h
  obtain ⟨a100, h100, h⟩ := h
  refine r_iald F h100 dX1_layOut_100 ?_
  refine r_iload (j := 4) F rfl dX1_layOut_101 ?_
  refine r_icmp_ge (tgt := 124) F (by decide) dX1_layOut_103 (fun hc => ?_) (fun hc => ?_)
  · replace h := ite_p h hc
    refine r_aload_n (j := 0) F rfl rfl dX1_layOut_124 ?_
    replace h := bind_so h
    obtain ⟨a125, h125, h⟩ := h
    refine r_getT (t := 2) rfl clok_1 F (by decide) h125 tw_336 dX1_layOut_125 ?_
    refine r_iconst F rfl dX1_layOut_128 ?_
    refine r_dup2 F rfl rfl dX1_layOut_129 ?_
    replace h := bind_so h
    obtain ⟨a130, h130, h⟩ := h
    refine r_iald F h130 dX1_layOut_130 ?_
    refine r_iconst F rfl dX1_layOut_131 ?_
    refine r_iadd F dX1_layOut_132 ?_
    replace h := bind_so h
    obtain ⟨M133, h133, h⟩ := h
    refine r_iast F h133 dX1_layOut_133 ?_
    refine r_goto (tgt := 78) F (by decide) dX1_layOut_134 ?_
    refine r_sub [0, 1, 2, 3, 4] (ls' := [(0, vR l0), (1, vR l1), (2, vI l2), (3, vI l3), (4, vI l4)]) rfl ?_
    exact hk78 h
  · replace h := ite_n h hc
    refine r_aload_n (j := 0) F rfl rfl dX1_layOut_106 ?_
    refine r_aload_n (j := 1) F rfl rfl dX1_layOut_107 ?_
    replace h := bind_so h
    obtain ⟨_, g108, h⟩ := h
    replace h := bind_so h
    obtain ⟨q108, h108, h⟩ := h
    refine r_callV (as := [vR l1]) (rv := none) (kc := 0) (nc := 0) (tX1_addWay h108) clok_1 F (gK_so g108) tw_608 tw_610 tw_3 tw_611 tw_117 ⟨by decide, by decide, show (parseMethodDescriptor yX1_addWay.desc).map (fun d => d.parameters.length) = some 1 by decide +kernel⟩ ⟨by decide, by decide⟩ (Nat.le_of_ble_eq_true rfl) dX1_layOut_108 ?_
    refine r_aload_n (j := 0) F rfl rfl dX1_layOut_111 ?_
    replace h := bind_so h
    obtain ⟨a112, h112, h⟩ := h
    refine r_getT (t := 2) rfl clok_1 F (by decide) h112 tw_336 dX1_layOut_112 ?_
    refine r_iconst F rfl dX1_layOut_115 ?_
    refine r_dup2 F rfl rfl dX1_layOut_116 ?_
    replace h := bind_so h
    obtain ⟨a117, h117, h⟩ := h
    refine r_iald F h117 dX1_layOut_117 ?_
    refine r_iconst F rfl dX1_layOut_118 ?_
    refine r_iadd F dX1_layOut_119 ?_
    replace h := bind_so h
    obtain ⟨M120, h120, h⟩ := h
    refine r_iast F h120 dX1_layOut_120 ?_
    refine r_goto (tgt := 95) F (by decide) dX1_layOut_121 ?_
    refine r_sub [0, 1, 2, 3, 4] (ls' := [(0, vR l0), (1, vR l1), (2, vI l2), (3, vI l3), (4, vI l4)]) rfl ?_
    exact hk95 h
theorem tX1_layOut_95 {E : En} {p : Program} {l : Launch} {e : Env} {s : State} {m : MethodId} {args : Array Value} {below : List Frame} {meth : Method} {c : Code} {q : Int × Mem} {k61 : Int → Int → Int → Int → Int → Mem → Option (Int × Mem)} {k78 : Int → Int → Int → Int → Int → Mem → Option (Int × Mem)} (hk61 : ∀ {l0 l1 l2 l3 l4 : Int} {M : Mem}, k61 l0 l1 l2 l3 l4 M = some q → G E p l e (rmOf 2 0 0) s m args below meth c 5 (QZ E below args s (rmOf 2 0 0) none q.2) 0 0 M 61 [(0, vR l0), (1, vR l1), (2, vI l2), (3, vI l3), (4, vI l4)] []) (hk78 : ∀ {l0 l1 l2 l3 l4 : Int} {M : Mem}, k78 l0 l1 l2 l3 l4 M = some q → G E p l e (rmOf 2 0 0) s m args below meth c 5 (QZ E below args s (rmOf 2 0 0) none q.2) 0 0 M 78 [(0, vR l0), (1, vR l1), (2, vI l2), (3, vI l3), (4, vI l4)] []) (F : Fx E p s m args meth c cX1_layOut 5 yX1_layOut.cls none yX1_layOut.name) : ∀ {fu : Nat} {l0 l1 l2 l3 l4 : Int} {M : Mem}, mX1_layOut_95 k61 k78 fu l0 l1 l2 l3 l4 M = some q → G E p l e (rmOf 2 0 0) s m args below meth c 5 (QZ E below args s (rmOf 2 0 0) none q.2) 0 0 M 95 [(0, vR l0), (1, vR l1), (2, vI l2), (3, vI l3), (4, vI l4)] [] := by
  intro fu
  induction fu with
  | zero => intro l0 l1 l2 l3 l4 M h; exact nomatch (show (none : Option (Int × Mem)) = some q from h)
  | succ fu ih => intro l0 l1 l2 l3 l4 M h; exact tbX1_layOut_95 (fun h => hk61 h) (fun h => hk78 h) (fun h => ih h) F h
theorem tbX1_layOut_78 {E : En} {p : Program} {l : Launch} {e : Env} {s : State} {m : MethodId} {args : Array Value} {below : List Frame} {meth : Method} {c : Code} {q : Int × Mem} {k61 : Int → Int → Int → Int → Int → Mem → Option (Int × Mem)} (hk61 : ∀ {l0 l1 l2 l3 l4 : Int} {M : Mem}, k61 l0 l1 l2 l3 l4 M = some q → G E p l e (rmOf 2 0 0) s m args below meth c 5 (QZ E below args s (rmOf 2 0 0) none q.2) 0 0 M 61 [(0, vR l0), (1, vR l1), (2, vI l2), (3, vI l3), (4, vI l4)] []) {k78 : Int → Int → Int → Int → Int → Mem → Option (Int × Mem)} (hk78 : ∀ {l0 l1 l2 l3 l4 : Int} {M : Mem}, k78 l0 l1 l2 l3 l4 M = some q → G E p l e (rmOf 2 0 0) s m args below meth c 5 (QZ E below args s (rmOf 2 0 0) none q.2) 0 0 M 78 [(0, vR l0), (1, vR l1), (2, vI l2), (3, vI l3), (4, vI l4)] []) {l0 l1 l2 l3 l4 : Int} {M : Mem} (F : Fx E p s m args meth c cX1_layOut 5 yX1_layOut.cls none yX1_layOut.name) (h : bX1_layOut_78 k61 k78 l0 l1 l2 l3 l4 M = some q) : G E p l e (rmOf 2 0 0) s m args below meth c 5 (QZ E below args s (rmOf 2 0 0) none q.2) 0 0 M 78 [(0, vR l0), (1, vR l1), (2, vI l2), (3, vI l3), (4, vI l4)] [] := by
  unfold bX1_layOut_78 at h
  refine r_aload_n (j := 0) F rfl rfl dX1_layOut_78 ?_
  replace h := bind_so h
  obtain ⟨a79, h79, h⟩ := h
  refine r_getT (t := 2) rfl clok_1 F (by decide) h79 tw_336 dX1_layOut_79 ?_
  refine r_iconst F rfl dX1_layOut_82 ?_
  replace h := bind_so h
  obtain ⟨a83, h83, h⟩ := h
  refine r_iald F h83 dX1_layOut_83 ?_
  refine r_iload_n (j := 3) F rfl rfl dX1_layOut_84 ?_
  refine r_icmp_ge (tgt := 137) F (by decide) dX1_layOut_85 (fun hc => ?_) (fun hc => ?_)
  · replace h := ite_p h hc
    refine r_aload_n (j := 0) F rfl rfl dX1_layOut_137 ?_
    replace h := bind_so h
    obtain ⟨a138, h138, h⟩ := h
    refine r_getT (t := 2) rfl clok_1 F (by decide) h138 tw_336 dX1_layOut_138 ?_
    refine r_iconst F rfl dX1_layOut_141 ?_
    refine r_dup2 F rfl rfl dX1_layOut_142 ?_
    replace h := bind_so h
    obtain ⟨a143, h143, h⟩ := h
    refine r_iald F h143 dX1_layOut_143 ?_
    refine r_iconst F rfl dX1_layOut_144 ?_
    refine r_iadd F dX1_layOut_145 ?_
    replace h := bind_so h
    obtain ⟨M146, h146, h⟩ := h
    refine r_iast F h146 dX1_layOut_146 ?_
    refine r_goto (tgt := 61) F (by decide) dX1_layOut_147 ?_
    refine r_sub [0, 1, 2, 3, 4] (ls' := [(0, vR l0), (1, vR l1), (2, vI l2), (3, vI l3), (4, vI l4)]) rfl ?_
    exact hk61 h
  · replace h := ite_n h hc
    refine r_aload_n (j := 0) F rfl rfl dX1_layOut_88 ?_
    replace h := bind_so h
    obtain ⟨a89, h89, h⟩ := h
    refine r_getT (t := 2) rfl clok_1 F (by decide) h89 tw_336 dX1_layOut_89 ?_
    refine r_iconst F rfl dX1_layOut_92 ?_
    refine r_iconst F rfl dX1_layOut_93 ?_
    replace h := bind_so h
    obtain ⟨M94, h94, h⟩ := h
    refine r_iast F h94 dX1_layOut_94 ?_
    refine r_sub [0, 1, 2, 3, 4] (ls' := [(0, vR l0), (1, vR l1), (2, vI l2), (3, vI l3), (4, vI l4)]) rfl ?_
    exact tX1_layOut_95 (fun h => hk61 h) (fun h => hk78 h) F h
theorem tX1_layOut_78 {E : En} {p : Program} {l : Launch} {e : Env} {s : State} {m : MethodId} {args : Array Value} {below : List Frame} {meth : Method} {c : Code} {q : Int × Mem} {k61 : Int → Int → Int → Int → Int → Mem → Option (Int × Mem)} (hk61 : ∀ {l0 l1 l2 l3 l4 : Int} {M : Mem}, k61 l0 l1 l2 l3 l4 M = some q → G E p l e (rmOf 2 0 0) s m args below meth c 5 (QZ E below args s (rmOf 2 0 0) none q.2) 0 0 M 61 [(0, vR l0), (1, vR l1), (2, vI l2), (3, vI l3), (4, vI l4)] []) (F : Fx E p s m args meth c cX1_layOut 5 yX1_layOut.cls none yX1_layOut.name) : ∀ {fu : Nat} {l0 l1 l2 l3 l4 : Int} {M : Mem}, mX1_layOut_78 k61 fu l0 l1 l2 l3 l4 M = some q → G E p l e (rmOf 2 0 0) s m args below meth c 5 (QZ E below args s (rmOf 2 0 0) none q.2) 0 0 M 78 [(0, vR l0), (1, vR l1), (2, vI l2), (3, vI l3), (4, vI l4)] [] := by
  intro fu
  induction fu with
  | zero => intro l0 l1 l2 l3 l4 M h; exact nomatch (show (none : Option (Int × Mem)) = some q from h)
  | succ fu ih => intro l0 l1 l2 l3 l4 M h; exact tbX1_layOut_78 (fun h => hk61 h) (fun h => ih h) F h
theorem tbX1_layOut_61 {E : En} {p : Program} {l : Launch} {e : Env} {s : State} {m : MethodId} {args : Array Value} {below : List Frame} {meth : Method} {c : Code} {q : Int × Mem} {k61 : Int → Int → Int → Int → Int → Mem → Option (Int × Mem)} (hk61 : ∀ {l0 l1 l2 l3 l4 : Int} {M : Mem}, k61 l0 l1 l2 l3 l4 M = some q → G E p l e (rmOf 2 0 0) s m args below meth c 5 (QZ E below args s (rmOf 2 0 0) none q.2) 0 0 M 61 [(0, vR l0), (1, vR l1), (2, vI l2), (3, vI l3), (4, vI l4)] []) {l0 l1 l2 l3 l4 : Int} {M : Mem} (F : Fx E p s m args meth c cX1_layOut 5 yX1_layOut.cls none yX1_layOut.name) (h : bX1_layOut_61 k61 l0 l1 l2 l3 l4 M = some q) : G E p l e (rmOf 2 0 0) s m args below meth c 5 (QZ E below args s (rmOf 2 0 0) none q.2) 0 0 M 61 [(0, vR l0), (1, vR l1), (2, vI l2), (3, vI l3), (4, vI l4)] [] := by
  unfold bX1_layOut_61 at h
  refine r_aload_n (j := 0) F rfl rfl dX1_layOut_61 ?_
  replace h := bind_so h
  obtain ⟨a62, h62, h⟩ := h
  refine r_getT (t := 2) rfl clok_1 F (by decide) h62 tw_336 dX1_layOut_62 ?_
  refine r_iconst F rfl dX1_layOut_65 ?_
  replace h := bind_so h
  obtain ⟨a66, h66, h⟩ := h
  refine r_iald F h66 dX1_layOut_66 ?_
  refine r_iload_n (j := 2) F rfl rfl dX1_layOut_67 ?_
  refine r_icmp_ge (tgt := 150) F (by decide) dX1_layOut_68 (fun hc => ?_) (fun hc => ?_)
  · replace h := ite_p h hc
    obtain rfl := Option.some.inj h
    exact r_vret F dX1_layOut_150
  · replace h := ite_n h hc
    refine r_aload_n (j := 0) F rfl rfl dX1_layOut_71 ?_
    replace h := bind_so h
    obtain ⟨a72, h72, h⟩ := h
    refine r_getT (t := 2) rfl clok_1 F (by decide) h72 tw_336 dX1_layOut_72 ?_
    refine r_iconst F rfl dX1_layOut_75 ?_
    refine r_iconst F rfl dX1_layOut_76 ?_
    replace h := bind_so h
    obtain ⟨M77, h77, h⟩ := h
    refine r_iast F h77 dX1_layOut_77 ?_
    refine r_sub [0, 1, 2, 3, 4] (ls' := [(0, vR l0), (1, vR l1), (2, vI l2), (3, vI l3), (4, vI l4)]) rfl ?_
    exact tX1_layOut_78 (fun h => hk61 h) F h
theorem tX1_layOut_61 {E : En} {p : Program} {l : Launch} {e : Env} {s : State} {m : MethodId} {args : Array Value} {below : List Frame} {meth : Method} {c : Code} {q : Int × Mem} (F : Fx E p s m args meth c cX1_layOut 5 yX1_layOut.cls none yX1_layOut.name) : ∀ {fu : Nat} {l0 l1 l2 l3 l4 : Int} {M : Mem}, mX1_layOut_61 fu l0 l1 l2 l3 l4 M = some q → G E p l e (rmOf 2 0 0) s m args below meth c 5 (QZ E below args s (rmOf 2 0 0) none q.2) 0 0 M 61 [(0, vR l0), (1, vR l1), (2, vI l2), (3, vI l3), (4, vI l4)] [] := by
  intro fu
  induction fu with
  | zero => intro l0 l1 l2 l3 l4 M h; exact nomatch (show (none : Option (Int × Mem)) = some q from h)
  | succ fu ih => intro l0 l1 l2 l3 l4 M h; exact tbX1_layOut_61  (fun h => ih h) F h
theorem tX1_layOut {l0 l1 : Int} {M : Mem} {q : Int × Mem} (h : mX1_layOut l0 l1 M = some q) : Ct 2 0 0 yX1_layOut cX1_layOut 5 none [vR l0, vR l1] M none q.2 := by
  unfold mX1_layOut at h
  refine Ct.of (by decide) (Nat.le_of_ble_eq_true rfl) ?_
  intro E p l e s m args below meth c F
  refine r_sub [0, 1] (ls' := [(0, vR l0), (1, vR l1)]) rfl ?_
  refine r_aload_n (j := 0) F rfl rfl dX1_layOut_0 ?_
  replace h := bind_so h
  obtain ⟨a1, h1, h⟩ := h
  refine r_getT (t := 0) rfl clok_1 F (by decide) h1 tw_342 dX1_layOut_1 ?_
  refine r_if_ne (tgt := 16) F (by decide) dX1_layOut_4 (fun hc => ?_) (fun hc => ?_)
  · replace h := ite_n h hc
    obtain rfl := Option.some.inj h
    exact r_vret F dX1_layOut_16
  · replace h := ite_p h hc
    refine r_aload_n (j := 1) F rfl rfl dX1_layOut_7 ?_
    replace h := bind_so h
    obtain ⟨a8, h8, h⟩ := h
    refine r_getT (t := 0) rfl clok_3 F (by decide) h8 tw_185 dX1_layOut_8 ?_
    refine r_bipush F rfl (by decide) dX1_layOut_11 ?_
    refine r_icmp_le (tgt := 17) F (by decide) dX1_layOut_13 (fun hc => ?_) (fun hc => ?_)
    · replace h := ite_p h hc
      refine r_aload_n (j := 0) F rfl rfl dX1_layOut_17 ?_
      refine r_iconst F rfl dX1_layOut_18 ?_
      replace h := bind_so h
      obtain ⟨M19, h19, h⟩ := h
      refine r_putZ clok_1 F (by decide) rfl rfl h19 tw_342 dX1_layOut_19 ?_
      refine r_aload_n (j := 0) F rfl rfl dX1_layOut_22 ?_
      refine r_aload_n (j := 1) F rfl rfl dX1_layOut_23 ?_
      replace h := bind_so h
      obtain ⟨a24, h24, h⟩ := h
      refine r_getT (t := 0) rfl clok_3 F (by decide) h24 tw_185 dX1_layOut_24 ?_
      replace h := bind_so h
      obtain ⟨M27, h27, h⟩ := h
      refine r_put clok_1 F (by decide) rfl (by decide) (by decide) h27 tw_341 dX1_layOut_27 ?_
      refine r_aload_n (j := 0) F rfl rfl dX1_layOut_30 ?_
      refine r_iconst F rfl dX1_layOut_31 ?_
      replace h := bind_so h
      obtain ⟨M32, h32, h⟩ := h
      refine r_put clok_1 F (by decide) rfl (by decide) (by decide) h32 tw_340 dX1_layOut_32 ?_
      refine r_aload_n (j := 1) F rfl rfl dX1_layOut_35 ?_
      refine r_iconst F rfl dX1_layOut_36 ?_
      replace h := bind_so h
      obtain ⟨q37, h37, h⟩ := h
      refine r_callS (as := [vR l1, vI 0]) (rv := (some (vI q37.1))) (kc := 0) (nc := 0) (tX1_ordersOf h37) F tw_603 tw_604 tw_605 tw_117 ⟨by decide, by decide, show (parseMethodDescriptor yX1_ordersOf.desc).map (fun d => d.parameters.length) = some 2 by decide +kernel⟩ ⟨by decide, by decide⟩ (Nat.le_of_ble_eq_true rfl) dX1_layOut_37 ?_
      refine r_istore_n (ls' := [(2, vI q37.1), (0, vR l0), (1, vR l1)]) F rfl (by decide) rfl dX1_layOut_40 ?_
      refine r_aload_n (j := 2) F rfl rfl dX1_layOut_41 ?_
      refine r_iconst F rfl dX1_layOut_42 ?_
      replace h := bind_so h
      obtain ⟨q43, h43, h⟩ := h
      refine r_callS (as := [vR l1, vI 1]) (rv := (some (vI q43.1))) (kc := 0) (nc := 0) (tX1_ordersOf h43) F tw_603 tw_604 tw_605 tw_117 ⟨by decide, by decide, show (parseMethodDescriptor yX1_ordersOf.desc).map (fun d => d.parameters.length) = some 2 by decide +kernel⟩ ⟨by decide, by decide⟩ (Nat.le_of_ble_eq_true rfl) dX1_layOut_43 ?_
      refine r_istore_n (ls' := [(3, vI q43.1), (2, vI q37.1), (0, vR l0), (1, vR l1)]) F rfl (by decide) rfl dX1_layOut_46 ?_
      refine r_aload_n (j := 3) F rfl rfl dX1_layOut_47 ?_
      refine r_iconst F rfl dX1_layOut_48 ?_
      replace h := bind_so h
      obtain ⟨q49, h49, h⟩ := h
      refine r_callS (as := [vR l1, vI 2]) (rv := (some (vI q49.1))) (kc := 0) (nc := 0) (tX1_ordersOf h49) F tw_603 tw_604 tw_605 tw_117 ⟨by decide, by decide, show (parseMethodDescriptor yX1_ordersOf.desc).map (fun d => d.parameters.length) = some 2 by decide +kernel⟩ ⟨by decide, by decide⟩ (Nat.le_of_ble_eq_true rfl) dX1_layOut_49 ?_
      refine r_istore (ls' := [(4, vI q49.1), (3, vI q43.1), (2, vI q37.1), (0, vR l0), (1, vR l1)]) F (by decide) rfl dX1_layOut_52 ?_
      refine r_aload_n (j := 3) F rfl rfl dX1_layOut_54 ?_
      replace h := bind_so h
      obtain ⟨a55, h55, h⟩ := h
      refine r_getT (t := 2) rfl clok_1 F (by decide) h55 tw_336 dX1_layOut_55 ?_
      refine r_iconst F rfl dX1_layOut_58 ?_
      refine r_iconst F rfl dX1_layOut_59 ?_
      replace h := bind_so h
      obtain ⟨M60, h60, h⟩ := h
      refine r_iast F h60 dX1_layOut_60 ?_
      refine r_sub [3, 4, 2, 1, 0] (ls' := [(0, vR l0), (1, vR l1), (2, vI q37.1), (3, vI q43.1), (4, vI q49.1)]) rfl ?_
      exact tX1_layOut_61 F h
    · replace h := ite_n h hc
      obtain rfl := Option.some.inj h
      exact r_vret F dX1_layOut_16
theorem tbX7_takeNone_42 {E : En} {p : Program} {l : Launch} {e : Env} {s : State} {m : MethodId} {args : Array Value} {below : List Frame} {meth : Method} {c : Code} {q : Int × Mem} {k42 : Int → Int → Mem → Option (Int × Mem)} (hk42 : ∀ {l0 l2 : Int} {M : Mem}, k42 l0 l2 M = some q → G E p l e (rmOf 1 0 0) s m args below meth c 3 (QZ E below args s (rmOf 1 0 0) none q.2) 0 0 M 42 [(0, vR l0), (2, vI l2)] []) {l0 l2 : Int} {M : Mem} (F : Fx E p s m args meth c cX7_takeNone 3 yX7_takeNone.cls none yX7_takeNone.name) (h : bX7_takeNone_42 k42 l0 l2 M = some q) : G E p l e (rmOf 1 0 0) s m args below meth c 3 (QZ E below args s (rmOf 1 0 0) none q.2) 0 0 M 42 [(0, vR l0), (2, vI l2)] [] := by
  unfold bX7_takeNone_42 at h
  refine r_iload_n (j := 1) F rfl rfl dX7_takeNone_42 ?_
  refine r_aload_n (j := 0) F rfl rfl dX7_takeNone_43 ?_
  replace h := bind_so h
  obtain ⟨a44, h44, h⟩ := h
  refine r_getT (t := 0) rfl clok_7 F (by decide) h44 tw_327 dX7_takeNone_44 ?_
  refine r_icmp_ge (tgt := 63) F (by decide) dX7_takeNone_47 (fun hc => ?_) (fun hc => ?_)
  · replace h := ite_p h hc
    obtain rfl := Option.some.inj h
    exact r_vret F dX7_takeNone_63
  · replace h := ite_n h hc
    refine r_aload_n (j := 0) F rfl rfl dX7_takeNone_50 ?_
    replace h := bind_so h
    obtain ⟨a51, h51, h⟩ := h
    refine r_getT (t := 2) rfl clok_7 F (by decide) h51 tw_325 dX7_takeNone_51 ?_
    refine r_iload_n (j := 1) F rfl rfl dX7_takeNone_54 ?_
    refine r_lconst F dX7_takeNone_55 ?_
    refine r_eq (y := 0) rfl ?_
    replace h := bind_so h
    obtain ⟨M56, h56, h⟩ := h
    refine r_last F h56 dX7_takeNone_56 ?_
    refine r_iinc (j := 1) (ls' := [(2, vI (wI (l2 + 1))), (0, vR l0)]) F rfl (by decide) rfl dX7_takeNone_57 ?_
    refine r_goto (tgt := 42) F (by decide) dX7_takeNone_60 ?_
    refine r_sub [1, 0] (ls' := [(0, vR l0), (2, vI (wI (l2 + 1)))]) rfl ?_
    exact hk42 h
theorem tX7_takeNone_42 {E : En} {p : Program} {l : Launch} {e : Env} {s : State} {m : MethodId} {args : Array Value} {below : List Frame} {meth : Method} {c : Code} {q : Int × Mem} (F : Fx E p s m args meth c cX7_takeNone 3 yX7_takeNone.cls none yX7_takeNone.name) : ∀ {fu : Nat} {l0 l2 : Int} {M : Mem}, mX7_takeNone_42 fu l0 l2 M = some q → G E p l e (rmOf 1 0 0) s m args below meth c 3 (QZ E below args s (rmOf 1 0 0) none q.2) 0 0 M 42 [(0, vR l0), (2, vI l2)] [] := by
  intro fu
  induction fu with
  | zero => intro l0 l2 M h; exact nomatch (show (none : Option (Int × Mem)) = some q from h)
  | succ fu ih => intro l0 l2 M h; exact tbX7_takeNone_42  (fun h => ih h) F h
theorem tX7_takeNone_37 {E : En} {p : Program} {l : Launch} {e : Env} {s : State} {m : MethodId} {args : Array Value} {below : List Frame} {meth : Method} {c : Code} {q : Int × Mem} {l0 s0 s1 : Int} {M : Mem} (F : Fx E p s m args meth c cX7_takeNone 3 yX7_takeNone.cls none yX7_takeNone.name) (h : mX7_takeNone_37 l0 s0 s1 M = some q) : G E p l e (rmOf 1 0 0) s m args below meth c 3 (QZ E below args s (rmOf 1 0 0) none q.2) 0 0 M 37 [(0, vR l0)] [vI s1, vR s0] := by
  unfold mX7_takeNone_37 at h
  replace h := bind_so h
  obtain ⟨M37, h37, h⟩ := h
  refine r_put clok_7 F (by decide) rfl (by decide) (by decide) h37 tw_327 dX7_takeNone_37 ?_
  refine r_iconst F rfl dX7_takeNone_40 ?_
  refine r_istore_n (ls' := [(2, vI 0), (0, vR l0)]) F rfl (by decide) rfl dX7_takeNone_41 ?_
  refine r_sub [1, 0] (ls' := [(0, vR l0), (2, vI 0)]) rfl ?_
  exact tX7_takeNone_42 F h
theorem tX7_takeNone {l0 l1 : Int} {M : Mem} {q : Int × Mem} (h : mX7_takeNone l0 l1 M = some q) : Ct 1 0 0 yX7_takeNone cX7_takeNone 3 none [vR l0, vI l1] M none q.2 := by
  unfold mX7_takeNone at h
  refine Ct.of (by decide) (Nat.le_of_ble_eq_true rfl) ?_
  intro E p l e s m args below meth c F
  refine r_sub [0, 1] (ls' := [(0, vR l0), (1, vI l1)]) rfl ?_
  refine r_aload_n (j := 0) F rfl rfl dX7_takeNone_0 ?_
  refine r_iconst F rfl dX7_takeNone_1 ?_
  refine r_iload_n (j := 1) F rfl rfl dX7_takeNone_2 ?_
  refine r_bipush F rfl (by decide) dX7_takeNone_3 ?_
  refine r_min F tw_981 tw_620 tw_121 tw_621 ⟨by decide, by decide⟩ (Nat.le_of_ble_eq_true rfl) dX7_takeNone_5 ?_
  refine r_max F tw_982 tw_418 tw_121 tw_419 ⟨by decide, by decide⟩ (Nat.le_of_ble_eq_true rfl) dX7_takeNone_8 ?_
  replace h := bind_so h
  obtain ⟨M11, h11, h⟩ := h
  refine r_put clok_7 F (by decide) rfl (by decide) (by decide) h11 tw_328 dX7_takeNone_11 ?_
  refine r_aload_n (j := 0) F rfl rfl dX7_takeNone_14 ?_
  refine r_aload_n (j := 0) F rfl rfl dX7_takeNone_15 ?_
  replace h := bind_so h
  obtain ⟨a16, h16, h⟩ := h
  refine r_getT (t := 0) rfl clok_7 F (by decide) h16 tw_328 dX7_takeNone_16 ?_
  refine r_bipush F rfl (by decide) dX7_takeNone_19 ?_
  refine r_icmp_gt (tgt := 28) F (by decide) dX7_takeNone_21 (fun hc => ?_) (fun hc => ?_)
  · replace h := ite_p h hc
    refine r_iconst F rfl dX7_takeNone_28 ?_
    refine r_aload_n (j := 0) F rfl rfl dX7_takeNone_29 ?_
    replace h := bind_so h
    obtain ⟨a30, h30, h⟩ := h
    refine r_getT (t := 0) rfl clok_7 F (by decide) h30 tw_328 dX7_takeNone_30 ?_
    refine r_bipush F rfl (by decide) dX7_takeNone_33 ?_
    refine r_isub F dX7_takeNone_35 ?_
    refine r_ishl F dX7_takeNone_36 ?_
    refine r_sub [0] (ls' := [(0, vR l0)]) rfl ?_
    exact tX7_takeNone_37 F h
  · replace h := ite_n h hc
    refine r_iconst F rfl dX7_takeNone_24 ?_
    refine r_goto (tgt := 37) F (by decide) dX7_takeNone_25 ?_
    refine r_sub [0] (ls' := [(0, vR l0)]) rfl ?_
    exact tX7_takeNone_37 F h
theorem tX7_most {l0 : Int} {M : Mem} {q : Int × Mem} (h : mX7_most l0 M = some q) : Ct 0 0 0 yX7_most cX7_most 1 (some FieldType.int) [vR l0] M (some (vI q.1)) q.2 := by
  unfold mX7_most at h
  refine Ct.of (by decide) (Nat.le_of_ble_eq_true rfl) ?_
  intro E p l e s m args below meth c F
  refine r_sub [0] (ls' := [(0, vR l0)]) rfl ?_
  refine r_iconst F rfl dX7_most_0 ?_
  refine r_aload_n (j := 0) F rfl rfl dX7_most_1 ?_
  replace h := bind_so h
  obtain ⟨a2, h2, h⟩ := h
  refine r_getT (t := 0) rfl clok_7 F (by decide) h2 tw_328 dX7_most_2 ?_
  refine r_ishl F dX7_most_5 ?_
  obtain rfl := Option.some.inj h
  exact r_iret F dX7_most_6
theorem tX7_has {l0 l1 : Int} {M : Mem} {q : Int × Mem} (h : mX7_has l0 l1 M = some q) : Ct 1 0 0 yX7_has cX7_has 2 (some FieldType.boolean) [vR l0, vI l1] M (some (vI q.1)) q.2 := by
  unfold mX7_has at h
  refine Ct.of (by decide) (Nat.le_of_ble_eq_true rfl) ?_
  intro E p l e s m args below meth c F
  refine r_sub [0, 1] (ls' := [(0, vR l0), (1, vI l1)]) rfl ?_
  refine r_iload_n (j := 1) F rfl rfl dX7_has_0 ?_
  refine r_if_lt (tgt := 34) F (by decide) dX7_has_1 (fun hc => ?_) (fun hc => ?_)
  · replace h := ite_p h hc
    refine r_iconst F rfl dX7_has_34 ?_
    obtain rfl := Option.some.inj h
    exact r_zret (Or.inl rfl) F dX7_has_35
  · replace h := ite_n h hc
    refine r_iload_n (j := 1) F rfl rfl dX7_has_4 ?_
    refine r_aload_n (j := 0) F rfl rfl dX7_has_5 ?_
    replace h := bind_so h
    obtain ⟨_, g6, h⟩ := h
    replace h := bind_so h
    obtain ⟨q6, h6, h⟩ := h
    refine r_callV (as := []) (rv := (some (vI q6.1))) (kc := 0) (nc := 0) (tX7_most h6) clok_7 F (gK_so g6) tw_1069 tw_1062 tw_1063 tw_1064 tw_118 ⟨by decide, by decide, show (parseMethodDescriptor yX7_most.desc).map (fun d => d.parameters.length) = some 0 by decide +kernel⟩ ⟨by decide, by decide⟩ (Nat.le_of_ble_eq_true rfl) dX7_has_6 ?_
    refine r_icmp_ge (tgt := 34) F (by decide) dX7_has_9 (fun hc => ?_) (fun hc => ?_)
    · replace h := ite_p h hc
      refine r_iconst F rfl dX7_has_34 ?_
      obtain rfl := Option.some.inj h
      exact r_zret (Or.inl rfl) F dX7_has_35
    · replace h := ite_n h hc
      refine r_aload_n (j := 0) F rfl rfl dX7_has_12 ?_
      replace h := bind_so h
      obtain ⟨a13, h13, h⟩ := h
      refine r_getT (t := 2) rfl clok_7 F (by decide) h13 tw_325 dX7_has_13 ?_
      refine r_iload_n (j := 1) F rfl rfl dX7_has_16 ?_
      refine r_bipush F rfl (by decide) dX7_has_17 ?_
      refine r_ishr F dX7_has_19 ?_
      replace h := bind_so h
      obtain ⟨a20, h20, h⟩ := h
      refine r_lald F h20 dX7_has_20 ?_
      refine r_iload_n (j := 1) F rfl rfl dX7_has_21 ?_
      refine r_lshr F dX7_has_22 ?_
      refine r_lconst F dX7_has_23 ?_
      refine r_eq (y := 1) rfl ?_
      refine r_land F dX7_has_24 ?_
      refine r_lconst F dX7_has_25 ?_
      refine r_eq (y := 0) rfl ?_
      refine r_lcmp F dX7_has_26 ?_
      refine r_if_eq (tgt := 34) F (by decide) dX7_has_27 (fun hc => ?_) (fun hc => ?_)
      · replace h := ite_p h hc
        refine r_iconst F rfl dX7_has_34 ?_
        obtain rfl := Option.some.inj h
        exact r_zret (Or.inl rfl) F dX7_has_35
      · replace h := ite_n h hc
        refine r_iconst F rfl dX7_has_30 ?_
        refine r_goto (tgt := 35) F (by decide) dX7_has_31 ?_
        obtain rfl := Option.some.inj h
        exact r_zret (Or.inr rfl) F dX7_has_35
theorem tX7_add {l0 l1 : Int} {M : Mem} {q : Int × Mem} (h : mX7_add l0 l1 M = some q) : Ct 1 0 0 yX7_add cX7_add 2 none [vR l0, vI l1] M none q.2 := by
  unfold mX7_add at h
  refine Ct.of (by decide) (Nat.le_of_ble_eq_true rfl) ?_
  intro E p l e s m args below meth c F
  refine r_sub [0, 1] (ls' := [(0, vR l0), (1, vI l1)]) rfl ?_
  refine r_iload_n (j := 1) F rfl rfl dX7_add_0 ?_
  refine r_if_lt (tgt := 27) F (by decide) dX7_add_1 (fun hc => ?_) (fun hc => ?_)
  · replace h := ite_p h hc
    obtain rfl := Option.some.inj h
    exact r_vret F dX7_add_27
  · replace h := ite_n h hc
    refine r_iload_n (j := 1) F rfl rfl dX7_add_4 ?_
    refine r_aload_n (j := 0) F rfl rfl dX7_add_5 ?_
    replace h := bind_so h
    obtain ⟨_, g6, h⟩ := h
    replace h := bind_so h
    obtain ⟨q6, h6, h⟩ := h
    refine r_callV (as := []) (rv := (some (vI q6.1))) (kc := 0) (nc := 0) (tX7_most h6) clok_7 F (gK_so g6) tw_1069 tw_1062 tw_1063 tw_1064 tw_118 ⟨by decide, by decide, show (parseMethodDescriptor yX7_most.desc).map (fun d => d.parameters.length) = some 0 by decide +kernel⟩ ⟨by decide, by decide⟩ (Nat.le_of_ble_eq_true rfl) dX7_add_6 ?_
    refine r_icmp_ge (tgt := 27) F (by decide) dX7_add_9 (fun hc => ?_) (fun hc => ?_)
    · replace h := ite_p h hc
      obtain rfl := Option.some.inj h
      exact r_vret F dX7_add_27
    · replace h := ite_n h hc
      refine r_aload_n (j := 0) F rfl rfl dX7_add_12 ?_
      replace h := bind_so h
      obtain ⟨a13, h13, h⟩ := h
      refine r_getT (t := 2) rfl clok_7 F (by decide) h13 tw_325 dX7_add_13 ?_
      refine r_iload_n (j := 1) F rfl rfl dX7_add_16 ?_
      refine r_bipush F rfl (by decide) dX7_add_17 ?_
      refine r_ishr F dX7_add_19 ?_
      refine r_dup2 F rfl rfl dX7_add_20 ?_
      replace h := bind_so h
      obtain ⟨a21, h21, h⟩ := h
      refine r_lald F h21 dX7_add_21 ?_
      refine r_lconst F dX7_add_22 ?_
      refine r_eq (y := 1) rfl ?_
      refine r_iload_n (j := 1) F rfl rfl dX7_add_23 ?_
      refine r_lshl F dX7_add_24 ?_
      refine r_lor F dX7_add_25 ?_
      replace h := bind_so h
      obtain ⟨M26, h26, h⟩ := h
      refine r_last F h26 dX7_add_26 ?_
      obtain rfl := Option.some.inj h
      exact r_vret F dX7_add_27
theorem tX1_renumbered_45 {E : En} {p : Program} {l : Launch} {e : Env} {s : State} {m : MethodId} {args : Array Value} {below : List Frame} {meth : Method} {c : Code} {q : Int × Mem} {k5 : Int → Int → Int → Int → Int → Mem → Option (Int × Mem)} (hk5 : ∀ {l0 l1 l2 l3 l4 : Int} {M : Mem}, k5 l0 l1 l2 l3 l4 M = some q → G E p l e (rmOf 0 0 0) s m args below meth c 5 (QZ E below args s (rmOf 0 0 0) (some (vI q.1)) q.2) 0 0 M 5 [(0, vR l0), (1, vI l1), (2, vI l2), (3, vI l3), (4, vI l4)] []) {l0 l1 l2 l3 l4 : Int} {M : Mem} (F : Fx E p s m args meth c cX1_renumbered 5 yX1_renumbered.cls (some FieldType.int) yX1_renumbered.name) (h : mX1_renumbered_45 k5 l0 l1 l2 l3 l4 M = some q) : G E p l e (rmOf 0 0 0) s m args below meth c 5 (QZ E below args s (rmOf 0 0 0) (some (vI q.1)) q.2) 0 0 M 45 [(0, vR l0), (1, vI l1), (2, vI l2), (3, vI l3), (4, vI l4)] [] := by
  unfold mX1_renumbered_45 at h
  refine r_iinc (j := 4) (ls' := [(4, vI (wI (l4 + 1))), (0, vR l0), (1, vI l1), (2, vI l2), (3, vI l3)]) F rfl (by decide) rfl dX1_renumbered_45 ?_
  refine r_goto (tgt := 5) F (by decide) dX1_renumbered_48 ?_
  refine r_sub [1, 2, 3, 4, 0] (ls' := [(0, vR l0), (1, vI l1), (2, vI l2), (3, vI l3), (4, vI (wI (l4 + 1)))]) rfl ?_
  exact hk5 h
theorem tbX1_renumbered_5 {E : En} {p : Program} {l : Launch} {e : Env} {s : State} {m : MethodId} {args : Array Value} {below : List Frame} {meth : Method} {c : Code} {q : Int × Mem} {k5 : Int → Int → Int → Int → Int → Mem → Option (Int × Mem)} (hk5 : ∀ {l0 l1 l2 l3 l4 : Int} {M : Mem}, k5 l0 l1 l2 l3 l4 M = some q → G E p l e (rmOf 0 0 0) s m args below meth c 5 (QZ E below args s (rmOf 0 0 0) (some (vI q.1)) q.2) 0 0 M 5 [(0, vR l0), (1, vI l1), (2, vI l2), (3, vI l3), (4, vI l4)] []) {l0 l1 l2 l3 l4 : Int} {M : Mem} (F : Fx E p s m args meth c cX1_renumbered 5 yX1_renumbered.cls (some FieldType.int) yX1_renumbered.name) (h : bX1_renumbered_5 k5 l0 l1 l2 l3 l4 M = some q) : G E p l e (rmOf 0 0 0) s m args below meth c 5 (QZ E below args s (rmOf 0 0 0) (some (vI q.1)) q.2) 0 0 M 5 [(0, vR l0), (1, vI l1), (2, vI l2), (3, vI l3), (4, vI l4)] [] := by
  unfold bX1_renumbered_5 at h
  refine r_iload (j := 4) F rfl dX1_renumbered_5 ?_
  refine r_aload_n (j := 0) F rfl rfl dX1_renumbered_7 ?_
  replace h := bind_so h
  obtain ⟨a8, h8, h⟩ := h
  refine r_getT (t := 0) rfl clok_1 F (by decide) h8 tw_341 dX1_renumbered_8 ?_
  refine r_icmp_ge (tgt := 51) F (by decide) dX1_renumbered_11 (fun hc => ?_) (fun hc => ?_)
  · replace h := ite_p h hc
    refine r_iload_n (j := 3) F rfl rfl dX1_renumbered_51 ?_
    obtain rfl := Option.some.inj h
    exact r_iret F dX1_renumbered_52
  · replace h := ite_n h hc
    refine r_iload_n (j := 2) F rfl rfl dX1_renumbered_14 ?_
    refine r_aload_n (j := 0) F rfl rfl dX1_renumbered_15 ?_
    replace h := bind_so h
    obtain ⟨a16, h16, h⟩ := h
    refine r_getT (t := 0) rfl clok_1 F (by decide) h16 tw_341 dX1_renumbered_16 ?_
    refine r_iconst F rfl dX1_renumbered_19 ?_
    refine r_isub F dX1_renumbered_20 ?_
    refine r_iload (j := 4) F rfl dX1_renumbered_21 ?_
    refine r_isub F dX1_renumbered_23 ?_
    refine r_ishr F dX1_renumbered_24 ?_
    refine r_iconst F rfl dX1_renumbered_25 ?_
    refine r_iand F dX1_renumbered_26 ?_
    refine r_if_eq (tgt := 45) F (by decide) dX1_renumbered_27 (fun hc => ?_) (fun hc => ?_)
    · replace h := ite_p h hc
      refine r_sub [0, 1, 2, 3, 4] (ls' := [(0, vR l0), (1, vI l1), (2, vI l2), (3, vI l3), (4, vI l4)]) rfl ?_
      exact tX1_renumbered_45 (fun h => hk5 h) F h
    · replace h := ite_n h hc
      refine r_iload_n (j := 3) F rfl rfl dX1_renumbered_30 ?_
      refine r_aload_n (j := 0) F rfl rfl dX1_renumbered_31 ?_
      replace h := bind_so h
      obtain ⟨a32, h32, h⟩ := h
      refine r_getT (t := 2) rfl clok_1 F (by decide) h32 tw_337 dX1_renumbered_32 ?_
      refine r_iload_n (j := 1) F rfl rfl dX1_renumbered_35 ?_
      refine r_bipush F rfl (by decide) dX1_renumbered_36 ?_
      refine r_imul F dX1_renumbered_38 ?_
      refine r_iload (j := 4) F rfl dX1_renumbered_39 ?_
      refine r_iadd F dX1_renumbered_41 ?_
      replace h := bind_so h
      obtain ⟨a42, h42, h⟩ := h
      refine r_iald F h42 dX1_renumbered_42 ?_
      refine r_ior F dX1_renumbered_43 ?_
      refine r_istore_n (ls' := [(3, vI (ior l3 a42)), (0, vR l0), (1, vI l1), (2, vI l2), (4, vI l4)]) F rfl (by decide) rfl dX1_renumbered_44 ?_
      refine r_sub [1, 2, 3, 0, 4] (ls' := [(0, vR l0), (1, vI l1), (2, vI l2), (3, vI (ior l3 a42)), (4, vI l4)]) rfl ?_
      exact tX1_renumbered_45 (fun h => hk5 h) F h
theorem tX1_renumbered_5 {E : En} {p : Program} {l : Launch} {e : Env} {s : State} {m : MethodId} {args : Array Value} {below : List Frame} {meth : Method} {c : Code} {q : Int × Mem} (F : Fx E p s m args meth c cX1_renumbered 5 yX1_renumbered.cls (some FieldType.int) yX1_renumbered.name) : ∀ {fu : Nat} {l0 l1 l2 l3 l4 : Int} {M : Mem}, mX1_renumbered_5 fu l0 l1 l2 l3 l4 M = some q → G E p l e (rmOf 0 0 0) s m args below meth c 5 (QZ E below args s (rmOf 0 0 0) (some (vI q.1)) q.2) 0 0 M 5 [(0, vR l0), (1, vI l1), (2, vI l2), (3, vI l3), (4, vI l4)] [] := by
  intro fu
  induction fu with
  | zero => intro l0 l1 l2 l3 l4 M h; exact nomatch (show (none : Option (Int × Mem)) = some q from h)
  | succ fu ih => intro l0 l1 l2 l3 l4 M h; exact tbX1_renumbered_5  (fun h => ih h) F h
theorem tX1_renumbered {l0 l1 l2 : Int} {M : Mem} {q : Int × Mem} (h : mX1_renumbered l0 l1 l2 M = some q) : Ct 0 0 0 yX1_renumbered cX1_renumbered 5 (some FieldType.int) [vR l0, vI l1, vI l2] M (some (vI q.1)) q.2 := by
  unfold mX1_renumbered at h
  refine Ct.of (by decide) (Nat.le_of_ble_eq_true rfl) ?_
  intro E p l e s m args below meth c F
  refine r_sub [0, 1, 2] (ls' := [(0, vR l0), (1, vI l1), (2, vI l2)]) rfl ?_
  refine r_iconst F rfl dX1_renumbered_0 ?_
  refine r_istore_n (ls' := [(3, vI 0), (0, vR l0), (1, vI l1), (2, vI l2)]) F rfl (by decide) rfl dX1_renumbered_1 ?_
  refine r_iconst F rfl dX1_renumbered_2 ?_
  refine r_istore (ls' := [(4, vI 0), (3, vI 0), (0, vR l0), (1, vI l1), (2, vI l2)]) F (by decide) rfl dX1_renumbered_3 ?_
  refine r_sub [2, 3, 4, 1, 0] (ls' := [(0, vR l0), (1, vI l1), (2, vI l2), (3, vI 0), (4, vI 0)]) rfl ?_
  exact tX1_renumbered_5 F h
theorem tX1_markLeastOnes_83 {E : En} {p : Program} {l : Launch} {e : Env} {s : State} {m : MethodId} {args : Array Value} {below : List Frame} {meth : Method} {c : Code} {q : Int × Mem} {k24 : Int → Int → Mem → Option (Int × Mem)} (hk24 : ∀ {l0 l1 : Int} {M : Mem}, k24 l0 l1 M = some q → G E p l e (rmOf 2 0 0) s m args below meth c 3 (QZ E below args s (rmOf 2 0 0) none q.2) 0 0 M 24 [(0, vR l0), (1, vI l1)] []) {l0 l1 : Int} {M : Mem} (F : Fx E p s m args meth c cX1_markLeastOnes 3 yX1_markLeastOnes.cls none yX1_markLeastOnes.name) (h : mX1_markLeastOnes_83 k24 l0 l1 M = some q) : G E p l e (rmOf 2 0 0) s m args below meth c 3 (QZ E below args s (rmOf 2 0 0) none q.2) 0 0 M 83 [(0, vR l0), (1, vI l1)] [] := by
  unfold mX1_markLeastOnes_83 at h
  refine r_iinc (j := 1) (ls' := [(1, vI (wI (l1 + 1))), (0, vR l0)]) F rfl (by decide) rfl dX1_markLeastOnes_83 ?_
  refine r_goto (tgt := 24) F (by decide) dX1_markLeastOnes_86 ?_
  refine r_sub [1, 0] (ls' := [(0, vR l0), (1, vI (wI (l1 + 1)))]) rfl ?_
  exact hk24 h
theorem tbX1_markLeastOnes_56 {E : En} {p : Program} {l : Launch} {e : Env} {s : State} {m : MethodId} {args : Array Value} {below : List Frame} {meth : Method} {c : Code} {q : Int × Mem} {k24 : Int → Int → Mem → Option (Int × Mem)} (hk24 : ∀ {l0 l1 : Int} {M : Mem}, k24 l0 l1 M = some q → G E p l e (rmOf 2 0 0) s m args below meth c 3 (QZ E below args s (rmOf 2 0 0) none q.2) 0 0 M 24 [(0, vR l0), (1, vI l1)] []) {k56 : Int → Int → Int → Mem → Option (Int × Mem)} (hk56 : ∀ {l0 l1 l2 : Int} {M : Mem}, k56 l0 l1 l2 M = some q → G E p l e (rmOf 2 0 0) s m args below meth c 3 (QZ E below args s (rmOf 2 0 0) none q.2) 0 0 M 56 [(0, vR l0), (1, vI l1), (2, vI l2)] []) {l0 l1 l2 : Int} {M : Mem} (F : Fx E p s m args meth c cX1_markLeastOnes 3 yX1_markLeastOnes.cls none yX1_markLeastOnes.name) (h : bX1_markLeastOnes_56 k24 k56 l0 l1 l2 M = some q) : G E p l e (rmOf 2 0 0) s m args below meth c 3 (QZ E below args s (rmOf 2 0 0) none q.2) 0 0 M 56 [(0, vR l0), (1, vI l1), (2, vI l2)] [] := by
  unfold bX1_markLeastOnes_56 at h
  refine r_iload_n (j := 2) F rfl rfl dX1_markLeastOnes_56 ?_
  refine r_aload_n (j := 0) F rfl rfl dX1_markLeastOnes_57 ?_
  replace h := bind_so h
  obtain ⟨a58, h58, h⟩ := h
  refine r_getT (t := 0) rfl clok_1 F (by decide) h58 tw_340 dX1_markLeastOnes_58 ?_
  refine r_icmp_ge (tgt := 83) F (by decide) dX1_markLeastOnes_61 (fun hc => ?_) (fun hc => ?_)
  · replace h := ite_p h hc
    refine r_sub [0, 1] (ls' := [(0, vR l0), (1, vI l1)]) rfl ?_
    exact tX1_markLeastOnes_83 (fun h => hk24 h) F h
  · replace h := ite_n h hc
    refine r_aload_n (j := 0) F rfl rfl dX1_markLeastOnes_64 ?_
    replace h := bind_so h
    obtain ⟨a65, h65, h⟩ := h
    refine r_getT (t := 2) rfl clok_1 F (by decide) h65 tw_339 dX1_markLeastOnes_65 ?_
    refine r_aload_n (j := 0) F rfl rfl dX1_markLeastOnes_68 ?_
    refine r_iload_n (j := 2) F rfl rfl dX1_markLeastOnes_69 ?_
    refine r_iload_n (j := 1) F rfl rfl dX1_markLeastOnes_70 ?_
    replace h := bind_so h
    obtain ⟨_, g71, h⟩ := h
    replace h := bind_so h
    obtain ⟨q71, h71, h⟩ := h
    refine r_callV (as := [vI l2, vI l1]) (rv := (some (vI q71.1))) (kc := 0) (nc := 0) (tX1_renumbered h71) clok_1 F (gK_so g71) tw_622 tw_624 tw_5 tw_625 tw_117 ⟨by decide, by decide, show (parseMethodDescriptor yX1_renumbered.desc).map (fun d => d.parameters.length) = some 2 by decide +kernel⟩ ⟨by decide, by decide⟩ (Nat.le_of_ble_eq_true rfl) dX1_markLeastOnes_71 ?_
    replace h := bind_so h
    obtain ⟨_, g74, h⟩ := h
    replace h := bind_so h
    obtain ⟨q74, h74, h⟩ := h
    refine r_callV (as := [vI q71.1]) (rv := none) (kc := 0) (nc := 0) (tX7_add h74) clok_7 F (gK_so g74) tw_1070 tw_1071 tw_1072 tw_1073 tw_118 ⟨by decide, by decide, show (parseMethodDescriptor yX7_add.desc).map (fun d => d.parameters.length) = some 1 by decide +kernel⟩ ⟨by decide, by decide⟩ (Nat.le_of_ble_eq_true rfl) dX1_markLeastOnes_74 ?_
    refine r_iinc (j := 2) (ls' := [(2, vI (wI (l2 + 1))), (0, vR l0), (1, vI l1)]) F rfl (by decide) rfl dX1_markLeastOnes_77 ?_
    refine r_goto (tgt := 56) F (by decide) dX1_markLeastOnes_80 ?_
    refine r_sub [1, 2, 0] (ls' := [(0, vR l0), (1, vI l1), (2, vI (wI (l2 + 1)))]) rfl ?_
    exact hk56 h
theorem tX1_markLeastOnes_56 {E : En} {p : Program} {l : Launch} {e : Env} {s : State} {m : MethodId} {args : Array Value} {below : List Frame} {meth : Method} {c : Code} {q : Int × Mem} {k24 : Int → Int → Mem → Option (Int × Mem)} (hk24 : ∀ {l0 l1 : Int} {M : Mem}, k24 l0 l1 M = some q → G E p l e (rmOf 2 0 0) s m args below meth c 3 (QZ E below args s (rmOf 2 0 0) none q.2) 0 0 M 24 [(0, vR l0), (1, vI l1)] []) (F : Fx E p s m args meth c cX1_markLeastOnes 3 yX1_markLeastOnes.cls none yX1_markLeastOnes.name) : ∀ {fu : Nat} {l0 l1 l2 : Int} {M : Mem}, mX1_markLeastOnes_56 k24 fu l0 l1 l2 M = some q → G E p l e (rmOf 2 0 0) s m args below meth c 3 (QZ E below args s (rmOf 2 0 0) none q.2) 0 0 M 56 [(0, vR l0), (1, vI l1), (2, vI l2)] [] := by
  intro fu
  induction fu with
  | zero => intro l0 l1 l2 M h; exact nomatch (show (none : Option (Int × Mem)) = some q from h)
  | succ fu ih => intro l0 l1 l2 M h; exact tbX1_markLeastOnes_56 (fun h => hk24 h) (fun h => ih h) F h
theorem tbX1_markLeastOnes_24 {E : En} {p : Program} {l : Launch} {e : Env} {s : State} {m : MethodId} {args : Array Value} {below : List Frame} {meth : Method} {c : Code} {q : Int × Mem} {k24 : Int → Int → Mem → Option (Int × Mem)} (hk24 : ∀ {l0 l1 : Int} {M : Mem}, k24 l0 l1 M = some q → G E p l e (rmOf 2 0 0) s m args below meth c 3 (QZ E below args s (rmOf 2 0 0) none q.2) 0 0 M 24 [(0, vR l0), (1, vI l1)] []) {l0 l1 : Int} {M : Mem} (F : Fx E p s m args meth c cX1_markLeastOnes 3 yX1_markLeastOnes.cls none yX1_markLeastOnes.name) (h : bX1_markLeastOnes_24 k24 l0 l1 M = some q) : G E p l e (rmOf 2 0 0) s m args below meth c 3 (QZ E below args s (rmOf 2 0 0) none q.2) 0 0 M 24 [(0, vR l0), (1, vI l1)] [] := by
  unfold bX1_markLeastOnes_24 at h
  refine r_iload_n (j := 1) F rfl rfl dX1_markLeastOnes_24 ?_
  refine r_aload_n (j := 0) F rfl rfl dX1_markLeastOnes_25 ?_
  replace h := bind_so h
  obtain ⟨a26, h26, h⟩ := h
  refine r_getT (t := 2) rfl clok_1 F (by decide) h26 tw_339 dX1_markLeastOnes_26 ?_
  replace h := bind_so h
  obtain ⟨_, g29, h⟩ := h
  replace h := bind_so h
  obtain ⟨q29, h29, h⟩ := h
  refine r_callV (as := []) (rv := (some (vI q29.1))) (kc := 0) (nc := 0) (tX7_most h29) clok_7 F (gK_so g29) tw_1061 tw_1062 tw_1063 tw_1064 tw_118 ⟨by decide, by decide, show (parseMethodDescriptor yX7_most.desc).map (fun d => d.parameters.length) = some 0 by decide +kernel⟩ ⟨by decide, by decide⟩ (Nat.le_of_ble_eq_true rfl) dX1_markLeastOnes_29 ?_
  refine r_icmp_ge (tgt := 89) F (by decide) dX1_markLeastOnes_32 (fun hc => ?_) (fun hc => ?_)
  · replace h := ite_p h hc
    obtain rfl := Option.some.inj h
    exact r_vret F dX1_markLeastOnes_89
  · replace h := ite_n h hc
    refine r_aload_n (j := 0) F rfl rfl dX1_markLeastOnes_35 ?_
    replace h := bind_so h
    obtain ⟨a36, h36, h⟩ := h
    refine r_getT (t := 2) rfl clok_1 F (by decide) h36 tw_339 dX1_markLeastOnes_36 ?_
    refine r_iload_n (j := 1) F rfl rfl dX1_markLeastOnes_39 ?_
    replace h := bind_so h
    obtain ⟨_, g40, h⟩ := h
    replace h := bind_so h
    obtain ⟨q40, h40, h⟩ := h
    refine r_callV (as := [vI l1]) (rv := (some (vI q40.1))) (kc := 0) (nc := 0) (tX7_has h40) clok_7 F (gK_so g40) tw_1065 tw_1066 tw_1067 tw_1068 tw_118 ⟨by decide, by decide, show (parseMethodDescriptor yX7_has.desc).map (fun d => d.parameters.length) = some 1 by decide +kernel⟩ ⟨by decide, by decide⟩ (Nat.le_of_ble_eq_true rfl) dX1_markLeastOnes_40 ?_
    refine r_if_ne (tgt := 83) F (by decide) dX1_markLeastOnes_43 (fun hc => ?_) (fun hc => ?_)
    · replace h := ite_n h hc
      refine r_sub [0, 1] (ls' := [(0, vR l0), (1, vI l1)]) rfl ?_
      exact tX1_markLeastOnes_83 (fun h => hk24 h) F h
    · replace h := ite_p h hc
      refine r_aload_n (j := 0) F rfl rfl dX1_markLeastOnes_46 ?_
      replace h := bind_so h
      obtain ⟨a47, h47, h⟩ := h
      refine r_getT (t := 2) rfl clok_1 F (by decide) h47 tw_338 dX1_markLeastOnes_47 ?_
      refine r_iload_n (j := 1) F rfl rfl dX1_markLeastOnes_50 ?_
      replace h := bind_so h
      obtain ⟨_, g51, h⟩ := h
      replace h := bind_so h
      obtain ⟨q51, h51, h⟩ := h
      refine r_callV (as := [vI l1]) (rv := none) (kc := 0) (nc := 0) (tX7_add h51) clok_7 F (gK_so g51) tw_1070 tw_1071 tw_1072 tw_1073 tw_118 ⟨by decide, by decide, show (parseMethodDescriptor yX7_add.desc).map (fun d => d.parameters.length) = some 1 by decide +kernel⟩ ⟨by decide, by decide⟩ (Nat.le_of_ble_eq_true rfl) dX1_markLeastOnes_51 ?_
      refine r_iconst F rfl dX1_markLeastOnes_54 ?_
      refine r_istore_n (ls' := [(2, vI 0), (0, vR l0), (1, vI l1)]) F rfl (by decide) rfl dX1_markLeastOnes_55 ?_
      refine r_sub [1, 2, 0] (ls' := [(0, vR l0), (1, vI l1), (2, vI 0)]) rfl ?_
      exact tX1_markLeastOnes_56 (fun h => hk24 h) F h
theorem tX1_markLeastOnes_24 {E : En} {p : Program} {l : Launch} {e : Env} {s : State} {m : MethodId} {args : Array Value} {below : List Frame} {meth : Method} {c : Code} {q : Int × Mem} (F : Fx E p s m args meth c cX1_markLeastOnes 3 yX1_markLeastOnes.cls none yX1_markLeastOnes.name) : ∀ {fu : Nat} {l0 l1 : Int} {M : Mem}, mX1_markLeastOnes_24 fu l0 l1 M = some q → G E p l e (rmOf 2 0 0) s m args below meth c 3 (QZ E below args s (rmOf 2 0 0) none q.2) 0 0 M 24 [(0, vR l0), (1, vI l1)] [] := by
  intro fu
  induction fu with
  | zero => intro l0 l1 M h; exact nomatch (show (none : Option (Int × Mem)) = some q from h)
  | succ fu ih => intro l0 l1 M h; exact tbX1_markLeastOnes_24  (fun h => ih h) F h
theorem tX1_markLeastOnes {l0 : Int} {M : Mem} {q : Int × Mem} (h : mX1_markLeastOnes l0 M = some q) : Ct 2 0 0 yX1_markLeastOnes cX1_markLeastOnes 3 none [vR l0] M none q.2 := by
  unfold mX1_markLeastOnes at h
  refine Ct.of (by decide) (Nat.le_of_ble_eq_true rfl) ?_
  intro E p l e s m args below meth c F
  refine r_sub [0] (ls' := [(0, vR l0)]) rfl ?_
  refine r_aload_n (j := 0) F rfl rfl dX1_markLeastOnes_0 ?_
  replace h := bind_so h
  obtain ⟨a1, h1, h⟩ := h
  refine r_getT (t := 2) rfl clok_1 F (by decide) h1 tw_338 dX1_markLeastOnes_1 ?_
  refine r_aload_n (j := 0) F rfl rfl dX1_markLeastOnes_4 ?_
  replace h := bind_so h
  obtain ⟨a5, h5, h⟩ := h
  refine r_getT (t := 0) rfl clok_1 F (by decide) h5 tw_341 dX1_markLeastOnes_5 ?_
  replace h := bind_so h
  obtain ⟨_, g8, h⟩ := h
  replace h := bind_so h
  obtain ⟨q8, h8, h⟩ := h
  refine r_callV (as := [vI a5]) (rv := none) (kc := 0) (nc := 0) (tX7_takeNone h8) clok_7 F (gK_so g8) tw_1060 tw_978 tw_979 tw_980 tw_118 ⟨by decide, by decide, show (parseMethodDescriptor yX7_takeNone.desc).map (fun d => d.parameters.length) = some 1 by decide +kernel⟩ ⟨by decide, by decide⟩ (Nat.le_of_ble_eq_true rfl) dX1_markLeastOnes_8 ?_
  refine r_aload_n (j := 0) F rfl rfl dX1_markLeastOnes_11 ?_
  replace h := bind_so h
  obtain ⟨a12, h12, h⟩ := h
  refine r_getT (t := 2) rfl clok_1 F (by decide) h12 tw_339 dX1_markLeastOnes_12 ?_
  refine r_aload_n (j := 0) F rfl rfl dX1_markLeastOnes_15 ?_
  replace h := bind_so h
  obtain ⟨a16, h16, h⟩ := h
  refine r_getT (t := 0) rfl clok_1 F (by decide) h16 tw_341 dX1_markLeastOnes_16 ?_
  replace h := bind_so h
  obtain ⟨_, g19, h⟩ := h
  replace h := bind_so h
  obtain ⟨q19, h19, h⟩ := h
  refine r_callV (as := [vI a16]) (rv := none) (kc := 0) (nc := 0) (tX7_takeNone h19) clok_7 F (gK_so g19) tw_1060 tw_978 tw_979 tw_980 tw_118 ⟨by decide, by decide, show (parseMethodDescriptor yX7_takeNone.desc).map (fun d => d.parameters.length) = some 1 by decide +kernel⟩ ⟨by decide, by decide⟩ (Nat.le_of_ble_eq_true rfl) dX1_markLeastOnes_19 ?_
  refine r_iconst F rfl dX1_markLeastOnes_22 ?_
  refine r_istore_n (ls' := [(1, vI 0), (0, vR l0)]) F rfl (by decide) rfl dX1_markLeastOnes_23 ?_
  refine r_sub [1, 0] (ls' := [(0, vR l0), (1, vI 0)]) rfl ?_
  exact tX1_markLeastOnes_24 F h
theorem tX1_leastOnes_21 {E : En} {p : Program} {l : Launch} {e : Env} {s : State} {m : MethodId} {args : Array Value} {below : List Frame} {meth : Method} {c : Code} {q : Int × Mem} {l0 : Int} {M : Mem} (F : Fx E p s m args meth c cX1_leastOnes 2 yX1_leastOnes.cls (some (FieldType.object "VillageStories$WorldSet")) yX1_leastOnes.name) (h : mX1_leastOnes_21 l0 M = some q) : G E p l e (rmOf 3 0 0) s m args below meth c 2 (QZ E below args s (rmOf 3 0 0) (some (vR q.1)) q.2) 0 0 M 21 [(0, vR l0)] [] := by
  unfold mX1_leastOnes_21 at h
  refine r_aload_n (j := 0) F rfl rfl dX1_leastOnes_21 ?_
  replace h := bind_so h
  obtain ⟨a22, h22, h⟩ := h
  refine r_getT (t := 2) rfl clok_1 F (by decide) h22 tw_338 dX1_leastOnes_22 ?_
  obtain rfl := Option.some.inj h
  exact r_aret (Or.inl ⟨_, rfl⟩) F dX1_leastOnes_25
theorem tX1_leastOnes {l0 l1 : Int} {M : Mem} {q : Int × Mem} (h : mX1_leastOnes l0 l1 M = some q) : Ct 3 0 0 yX1_leastOnes cX1_leastOnes 2 (some (FieldType.object "VillageStories$WorldSet")) [vR l0, vR l1] M (some (vR q.1)) q.2 := by
  unfold mX1_leastOnes at h
  refine Ct.of (by decide) (Nat.le_of_ble_eq_true rfl) ?_
  intro E p l e s m args below meth c F
  refine r_sub [0, 1] (ls' := [(0, vR l0), (1, vR l1)]) rfl ?_
  refine r_aload_n (j := 0) F rfl rfl dX1_leastOnes_0 ?_
  refine r_aload_n (j := 1) F rfl rfl dX1_leastOnes_1 ?_
  replace h := bind_so h
  obtain ⟨_, g2, h⟩ := h
  replace h := bind_so h
  obtain ⟨q2, h2, h⟩ := h
  refine r_callV (as := [vR l1]) (rv := none) (kc := 0) (nc := 0) (tX1_layOut h2) clok_1 F (gK_so g2) tw_599 tw_601 tw_2 tw_602 tw_117 ⟨by decide, by decide, show (parseMethodDescriptor yX1_layOut.desc).map (fun d => d.parameters.length) = some 1 by decide +kernel⟩ ⟨by decide, by decide⟩ (Nat.le_of_ble_eq_true rfl) dX1_leastOnes_2 ?_
  refine r_aload_n (j := 0) F rfl rfl dX1_leastOnes_5 ?_
  replace h := bind_so h
  obtain ⟨a6, h6, h⟩ := h
  refine r_getT (t := 0) rfl clok_1 F (by decide) h6 tw_343 dX1_leastOnes_6 ?_
  refine r_if_ne (tgt := 21) F (by decide) dX1_leastOnes_9 (fun hc => ?_) (fun hc => ?_)
  · replace h := ite_n h hc
    refine r_sub [0] (ls' := [(0, vR l0)]) rfl ?_
    exact tX1_leastOnes_21 F h
  · replace h := ite_p h hc
    refine r_aload_n (j := 0) F rfl rfl dX1_leastOnes_12 ?_
    replace h := bind_so h
    obtain ⟨_, g13, h⟩ := h
    replace h := bind_so h
    obtain ⟨q13, h13, h⟩ := h
    refine r_callV (as := []) (rv := none) (kc := 0) (nc := 0) (tX1_markLeastOnes h13) clok_1 F (gK_so g13) tw_1056 tw_1058 tw_45 tw_1059 tw_117 ⟨by decide, by decide, show (parseMethodDescriptor yX1_markLeastOnes.desc).map (fun d => d.parameters.length) = some 0 by decide +kernel⟩ ⟨by decide, by decide⟩ (Nat.le_of_ble_eq_true rfl) dX1_leastOnes_13 ?_
    refine r_aload_n (j := 0) F rfl rfl dX1_leastOnes_16 ?_
    refine r_iconst F rfl dX1_leastOnes_17 ?_
    replace h := bind_so h
    obtain ⟨M18, h18, h⟩ := h
    refine r_putZ clok_1 F (by decide) rfl rfl h18 tw_343 dX1_leastOnes_18 ?_
    refine r_sub [0] (ls' := [(0, vR l0)]) rfl ?_
    exact tX1_leastOnes_21 F h
theorem tbX1_leastOf_10 {E : En} {p : Program} {l : Launch} {e : Env} {s : State} {m : MethodId} {args : Array Value} {below : List Frame} {meth : Method} {c : Code} {q : Int × Mem} {k10 : Int → Int → Int → Int → Mem → Option (Int × Mem)} (hk10 : ∀ {l0 l2 l3 l4 : Int} {M : Mem}, k10 l0 l2 l3 l4 M = some q → G E p l e (rmOf 3 0 0) s m args below meth c 5 (QZ E below args s (rmOf 3 0 0) (some (vI q.1)) q.2) 0 0 M 10 [(0, vR l0), (2, vI l2), (3, vI l3), (4, vI l4)] []) {l0 l2 l3 l4 : Int} {M : Mem} (F : Fx E p s m args meth c cX1_leastOf 5 yX1_leastOf.cls (some FieldType.int) yX1_leastOf.name) (h : bX1_leastOf_10 k10 l0 l2 l3 l4 M = some q) : G E p l e (rmOf 3 0 0) s m args below meth c 5 (QZ E below args s (rmOf 3 0 0) (some (vI q.1)) q.2) 0 0 M 10 [(0, vR l0), (2, vI l2), (3, vI l3), (4, vI l4)] [] := by
  unfold bX1_leastOf_10 at h
  refine r_iload (j := 3) F rfl dX1_leastOf_10 ?_
  refine r_aload_n (j := 0) F rfl rfl dX1_leastOf_12 ?_
  replace h := bind_so h
  obtain ⟨a13, h13, h⟩ := h
  refine r_getT (t := 0) rfl clok_1 F (by decide) h13 tw_340 dX1_leastOf_13 ?_
  refine r_icmp_ge (tgt := 37) F (by decide) dX1_leastOf_16 (fun hc => ?_) (fun hc => ?_)
  · replace h := ite_p h hc
    refine r_iload_n (j := 2) F rfl rfl dX1_leastOf_37 ?_
    obtain rfl := Option.some.inj h
    exact r_iret F dX1_leastOf_38
  · replace h := ite_n h hc
    refine r_iload_n (j := 2) F rfl rfl dX1_leastOf_19 ?_
    refine r_aload_n (j := 0) F rfl rfl dX1_leastOf_20 ?_
    refine r_iload (j := 3) F rfl dX1_leastOf_21 ?_
    refine r_iload_n (j := 1) F rfl rfl dX1_leastOf_23 ?_
    replace h := bind_so h
    obtain ⟨_, g24, h⟩ := h
    replace h := bind_so h
    obtain ⟨q24, h24, h⟩ := h
    refine r_callV (as := [vI l4, vI l2]) (rv := (some (vI q24.1))) (kc := 0) (nc := 0) (tX1_renumbered h24) clok_1 F (gK_so g24) tw_622 tw_624 tw_5 tw_625 tw_117 ⟨by decide, by decide, show (parseMethodDescriptor yX1_renumbered.desc).map (fun d => d.parameters.length) = some 2 by decide +kernel⟩ ⟨by decide, by decide⟩ (Nat.le_of_ble_eq_true rfl) dX1_leastOf_24 ?_
    refine r_min F tw_619 tw_620 tw_121 tw_621 ⟨by decide, by decide⟩ (Nat.le_of_ble_eq_true rfl) dX1_leastOf_27 ?_
    replace h := bind_so h
    obtain ⟨b30, e30, h⟩ := h
    refine r_eq (y := b30) (Option.some.inj e30) ?_
    refine r_istore_n (ls' := [(3, vI b30), (0, vR l0), (2, vI l2), (4, vI l4)]) F rfl (by decide) rfl dX1_leastOf_30 ?_
    refine r_iinc (j := 3) (ls' := [(4, vI (wI (l4 + 1))), (3, vI b30), (0, vR l0), (2, vI l2)]) F rfl (by decide) rfl dX1_leastOf_31 ?_
    refine r_goto (tgt := 10) F (by decide) dX1_leastOf_34 ?_
    refine r_sub [2, 3, 1, 0] (ls' := [(0, vR l0), (2, vI l2), (3, vI b30), (4, vI (wI (l4 + 1)))]) rfl ?_
    exact hk10 h
theorem tX1_leastOf_10 {E : En} {p : Program} {l : Launch} {e : Env} {s : State} {m : MethodId} {args : Array Value} {below : List Frame} {meth : Method} {c : Code} {q : Int × Mem} (F : Fx E p s m args meth c cX1_leastOf 5 yX1_leastOf.cls (some FieldType.int) yX1_leastOf.name) : ∀ {fu : Nat} {l0 l2 l3 l4 : Int} {M : Mem}, mX1_leastOf_10 fu l0 l2 l3 l4 M = some q → G E p l e (rmOf 3 0 0) s m args below meth c 5 (QZ E below args s (rmOf 3 0 0) (some (vI q.1)) q.2) 0 0 M 10 [(0, vR l0), (2, vI l2), (3, vI l3), (4, vI l4)] [] := by
  intro fu
  induction fu with
  | zero => intro l0 l2 l3 l4 M h; exact nomatch (show (none : Option (Int × Mem)) = some q from h)
  | succ fu ih => intro l0 l2 l3 l4 M h; exact tbX1_leastOf_10  (fun h => ih h) F h
theorem tX1_leastOf {l0 l1 l2 : Int} {M : Mem} {q : Int × Mem} (h : mX1_leastOf l0 l1 l2 M = some q) : Ct 3 0 0 yX1_leastOf cX1_leastOf 5 (some FieldType.int) [vR l0, vR l1, vI l2] M (some (vI q.1)) q.2 := by
  unfold mX1_leastOf at h
  refine Ct.of (by decide) (Nat.le_of_ble_eq_true rfl) ?_
  intro E p l e s m args below meth c F
  refine r_sub [0, 1, 2] (ls' := [(0, vR l0), (1, vR l1), (2, vI l2)]) rfl ?_
  refine r_aload_n (j := 0) F rfl rfl dX1_leastOf_0 ?_
  refine r_aload_n (j := 1) F rfl rfl dX1_leastOf_1 ?_
  replace h := bind_so h
  obtain ⟨_, g2, h⟩ := h
  replace h := bind_so h
  obtain ⟨q2, h2, h⟩ := h
  refine r_callV (as := [vR l1]) (rv := none) (kc := 0) (nc := 0) (tX1_layOut h2) clok_1 F (gK_so g2) tw_599 tw_601 tw_2 tw_602 tw_117 ⟨by decide, by decide, show (parseMethodDescriptor yX1_layOut.desc).map (fun d => d.parameters.length) = some 1 by decide +kernel⟩ ⟨by decide, by decide⟩ (Nat.le_of_ble_eq_true rfl) dX1_leastOf_2 ?_
  refine r_iload_n (j := 2) F rfl rfl dX1_leastOf_5 ?_
  refine r_istore_n (ls' := [(3, vI l2), (0, vR l0), (1, vR l1), (2, vI l2)]) F rfl (by decide) rfl dX1_leastOf_6 ?_
  refine r_iconst F rfl dX1_leastOf_7 ?_
  refine r_istore (ls' := [(4, vI 0), (3, vI l2), (0, vR l0), (1, vR l1), (2, vI l2)]) F (by decide) rfl dX1_leastOf_8 ?_
  refine r_sub [2, 4, 1, 0] (ls' := [(0, vR l0), (2, vI l2), (3, vI l2), (4, vI 0)]) rfl ?_
  exact tX1_leastOf_10 F h
theorem tJ6_bitCount_0f7a4 {l0 : Int} {M : Mem} {q : Int × Mem} (h : mJ6_bitCount_0f7a4 l0 M = some q) : Ct 0 0 0 yJ6_bitCount_0f7a4 cJ6_bitCount_0f7a4 1 (some FieldType.int) [vI l0] M (some (vI q.1)) q.2 := by
  unfold mJ6_bitCount_0f7a4 at h
  refine Ct.of (by decide) (Nat.le_of_ble_eq_true rfl) ?_
  intro E p l e s m args below meth c F
  refine r_sub [0] (ls' := [(0, vI l0)]) rfl ?_
  refine r_iload_n (j := 0) F rfl rfl dJ6_bitCount_0f7a4_0 ?_
  refine r_iload_n (j := 0) F rfl rfl dJ6_bitCount_0f7a4_1 ?_
  refine r_iconst F rfl dJ6_bitCount_0f7a4_2 ?_
  refine r_iushr F dJ6_bitCount_0f7a4_3 ?_
  refine r_ldcwv (x := 1431655765) F rfl (by decide) tw_629 dJ6_bitCount_0f7a4_4 ?_
  refine r_iand F dJ6_bitCount_0f7a4_7 ?_
  refine r_isub F dJ6_bitCount_0f7a4_8 ?_
  replace h := bind_so h
  obtain ⟨b9, e9, h⟩ := h
  refine r_eq (y := b9) (Option.some.inj e9) ?_
  refine r_istore_n (ls' := [(0, vI b9)]) F rfl (by decide) rfl dJ6_bitCount_0f7a4_9 ?_
  refine r_iload_n (j := 0) F rfl rfl dJ6_bitCount_0f7a4_10 ?_
  refine r_ldcwv (x := 858993459) F rfl (by decide) tw_630 dJ6_bitCount_0f7a4_11 ?_
  refine r_iand F dJ6_bitCount_0f7a4_14 ?_
  refine r_iload_n (j := 0) F rfl rfl dJ6_bitCount_0f7a4_15 ?_
  refine r_iconst F rfl dJ6_bitCount_0f7a4_16 ?_
  refine r_iushr F dJ6_bitCount_0f7a4_17 ?_
  refine r_ldcwv (x := 858993459) F rfl (by decide) tw_630 dJ6_bitCount_0f7a4_18 ?_
  refine r_iand F dJ6_bitCount_0f7a4_21 ?_
  refine r_iadd F dJ6_bitCount_0f7a4_22 ?_
  replace h := bind_so h
  obtain ⟨b23, e23, h⟩ := h
  refine r_eq (y := b23) (Option.some.inj e23) ?_
  refine r_istore_n (ls' := [(0, vI b23)]) F rfl (by decide) rfl dJ6_bitCount_0f7a4_23 ?_
  refine r_iload_n (j := 0) F rfl rfl dJ6_bitCount_0f7a4_24 ?_
  refine r_iload_n (j := 0) F rfl rfl dJ6_bitCount_0f7a4_25 ?_
  refine r_iconst F rfl dJ6_bitCount_0f7a4_26 ?_
  refine r_iushr F dJ6_bitCount_0f7a4_27 ?_
  refine r_iadd F dJ6_bitCount_0f7a4_28 ?_
  refine r_ldcwv (x := 252645135) F rfl (by decide) tw_631 dJ6_bitCount_0f7a4_29 ?_
  refine r_iand F dJ6_bitCount_0f7a4_32 ?_
  replace h := bind_so h
  obtain ⟨b33, e33, h⟩ := h
  refine r_eq (y := b33) (Option.some.inj e33) ?_
  refine r_istore_n (ls' := [(0, vI b33)]) F rfl (by decide) rfl dJ6_bitCount_0f7a4_33 ?_
  refine r_iload_n (j := 0) F rfl rfl dJ6_bitCount_0f7a4_34 ?_
  refine r_iload_n (j := 0) F rfl rfl dJ6_bitCount_0f7a4_35 ?_
  refine r_bipush F rfl (by decide) dJ6_bitCount_0f7a4_36 ?_
  refine r_iushr F dJ6_bitCount_0f7a4_38 ?_
  refine r_iadd F dJ6_bitCount_0f7a4_39 ?_
  replace h := bind_so h
  obtain ⟨b40, e40, h⟩ := h
  refine r_eq (y := b40) (Option.some.inj e40) ?_
  refine r_istore_n (ls' := [(0, vI b40)]) F rfl (by decide) rfl dJ6_bitCount_0f7a4_40 ?_
  refine r_iload_n (j := 0) F rfl rfl dJ6_bitCount_0f7a4_41 ?_
  refine r_iload_n (j := 0) F rfl rfl dJ6_bitCount_0f7a4_42 ?_
  refine r_bipush F rfl (by decide) dJ6_bitCount_0f7a4_43 ?_
  refine r_iushr F dJ6_bitCount_0f7a4_45 ?_
  refine r_iadd F dJ6_bitCount_0f7a4_46 ?_
  replace h := bind_so h
  obtain ⟨b47, e47, h⟩ := h
  refine r_eq (y := b47) (Option.some.inj e47) ?_
  refine r_istore_n (ls' := [(0, vI b47)]) F rfl (by decide) rfl dJ6_bitCount_0f7a4_47 ?_
  refine r_iload_n (j := 0) F rfl rfl dJ6_bitCount_0f7a4_48 ?_
  refine r_bipush F rfl (by decide) dJ6_bitCount_0f7a4_49 ?_
  refine r_iand F dJ6_bitCount_0f7a4_51 ?_
  obtain rfl := Option.some.inj h
  exact r_iret F dJ6_bitCount_0f7a4_52
theorem tbX1_fewestApart_12 {E : En} {p : Program} {l : Launch} {e : Env} {s : State} {m : MethodId} {args : Array Value} {below : List Frame} {meth : Method} {c : Code} {q : Int × Mem} {k12 : Int → Int → Int → Int → Int → Mem → Option (Int × Mem)} (hk12 : ∀ {l0 l2 l3 l4 l5 : Int} {M : Mem}, k12 l0 l2 l3 l4 l5 M = some q → G E p l e (rmOf 3 0 0) s m args below meth c 6 (QZ E below args s (rmOf 3 0 0) (some (vI q.1)) q.2) 0 0 M 12 [(0, vR l0), (2, vI l2), (3, vI l3), (4, vI l4), (5, vI l5)] []) {l0 l2 l3 l4 l5 : Int} {M : Mem} (F : Fx E p s m args meth c cX1_fewestApart 6 yX1_fewestApart.cls (some FieldType.int) yX1_fewestApart.name) (h : bX1_fewestApart_12 k12 l0 l2 l3 l4 l5 M = some q) : G E p l e (rmOf 3 0 0) s m args below meth c 6 (QZ E below args s (rmOf 3 0 0) (some (vI q.1)) q.2) 0 0 M 12 [(0, vR l0), (2, vI l2), (3, vI l3), (4, vI l4), (5, vI l5)] [] := by
  unfold bX1_fewestApart_12 at h
  refine r_iload (j := 4) F rfl dX1_fewestApart_12 ?_
  refine r_aload_n (j := 0) F rfl rfl dX1_fewestApart_14 ?_
  replace h := bind_so h
  obtain ⟨a15, h15, h⟩ := h
  refine r_getT (t := 0) rfl clok_1 F (by decide) h15 tw_340 dX1_fewestApart_15 ?_
  refine r_icmp_ge (tgt := 46) F (by decide) dX1_fewestApart_18 (fun hc => ?_) (fun hc => ?_)
  · replace h := ite_p h hc
    refine r_iload (j := 3) F rfl dX1_fewestApart_46 ?_
    obtain rfl := Option.some.inj h
    exact r_iret F dX1_fewestApart_48
  · replace h := ite_n h hc
    refine r_iload (j := 3) F rfl dX1_fewestApart_21 ?_
    refine r_iload_n (j := 1) F rfl rfl dX1_fewestApart_23 ?_
    refine r_aload_n (j := 0) F rfl rfl dX1_fewestApart_24 ?_
    refine r_iload (j := 4) F rfl dX1_fewestApart_25 ?_
    refine r_iload_n (j := 2) F rfl rfl dX1_fewestApart_27 ?_
    replace h := bind_so h
    obtain ⟨_, g28, h⟩ := h
    replace h := bind_so h
    obtain ⟨q28, h28, h⟩ := h
    refine r_callV (as := [vI l5, vI l3]) (rv := (some (vI q28.1))) (kc := 0) (nc := 0) (tX1_renumbered h28) clok_1 F (gK_so g28) tw_622 tw_624 tw_5 tw_625 tw_117 ⟨by decide, by decide, show (parseMethodDescriptor yX1_renumbered.desc).map (fun d => d.parameters.length) = some 2 by decide +kernel⟩ ⟨by decide, by decide⟩ (Nat.le_of_ble_eq_true rfl) dX1_fewestApart_28 ?_
    refine r_ixor F dX1_fewestApart_31 ?_
    replace h := bind_so h
    obtain ⟨q32, h32, h⟩ := h
    refine r_callS (as := [vI (ixor l2 q28.1)]) (rv := (some (vI q32.1))) (kc := 0) (nc := 0) (tJ6_bitCount_0f7a4 h32) F tw_626 tw_627 tw_628 tw_123 ⟨by decide, by decide, show (parseMethodDescriptor yJ6_bitCount_0f7a4.desc).map (fun d => d.parameters.length) = some 1 by decide +kernel⟩ ⟨by decide, by decide⟩ (Nat.le_of_ble_eq_true rfl) dX1_fewestApart_32 ?_
    refine r_min F tw_619 tw_620 tw_121 tw_621 ⟨by decide, by decide⟩ (Nat.le_of_ble_eq_true rfl) dX1_fewestApart_35 ?_
    replace h := bind_so h
    obtain ⟨b38, e38, h⟩ := h
    refine r_eq (y := b38) (Option.some.inj e38) ?_
    refine r_istore (ls' := [(4, vI b38), (0, vR l0), (2, vI l2), (3, vI l3), (5, vI l5)]) F (by decide) rfl dX1_fewestApart_38 ?_
    refine r_iinc (j := 4) (ls' := [(5, vI (wI (l5 + 1))), (4, vI b38), (0, vR l0), (2, vI l2), (3, vI l3)]) F rfl (by decide) rfl dX1_fewestApart_40 ?_
    refine r_goto (tgt := 12) F (by decide) dX1_fewestApart_43 ?_
    refine r_sub [2, 3, 4, 1, 0] (ls' := [(0, vR l0), (2, vI l2), (3, vI l3), (4, vI b38), (5, vI (wI (l5 + 1)))]) rfl ?_
    exact hk12 h
theorem tX1_fewestApart_12 {E : En} {p : Program} {l : Launch} {e : Env} {s : State} {m : MethodId} {args : Array Value} {below : List Frame} {meth : Method} {c : Code} {q : Int × Mem} (F : Fx E p s m args meth c cX1_fewestApart 6 yX1_fewestApart.cls (some FieldType.int) yX1_fewestApart.name) : ∀ {fu : Nat} {l0 l2 l3 l4 l5 : Int} {M : Mem}, mX1_fewestApart_12 fu l0 l2 l3 l4 l5 M = some q → G E p l e (rmOf 3 0 0) s m args below meth c 6 (QZ E below args s (rmOf 3 0 0) (some (vI q.1)) q.2) 0 0 M 12 [(0, vR l0), (2, vI l2), (3, vI l3), (4, vI l4), (5, vI l5)] [] := by
  intro fu
  induction fu with
  | zero => intro l0 l2 l3 l4 l5 M h; exact nomatch (show (none : Option (Int × Mem)) = some q from h)
  | succ fu ih => intro l0 l2 l3 l4 l5 M h; exact tbX1_fewestApart_12  (fun h => ih h) F h
theorem tX1_fewestApart {l0 l1 l2 l3 : Int} {M : Mem} {q : Int × Mem} (h : mX1_fewestApart l0 l1 l2 l3 M = some q) : Ct 3 0 0 yX1_fewestApart cX1_fewestApart 6 (some FieldType.int) [vR l0, vR l1, vI l2, vI l3] M (some (vI q.1)) q.2 := by
  unfold mX1_fewestApart at h
  refine Ct.of (by decide) (Nat.le_of_ble_eq_true rfl) ?_
  intro E p l e s m args below meth c F
  refine r_sub [0, 1, 2, 3] (ls' := [(0, vR l0), (1, vR l1), (2, vI l2), (3, vI l3)]) rfl ?_
  refine r_aload_n (j := 0) F rfl rfl dX1_fewestApart_0 ?_
  refine r_aload_n (j := 1) F rfl rfl dX1_fewestApart_1 ?_
  replace h := bind_so h
  obtain ⟨_, g2, h⟩ := h
  replace h := bind_so h
  obtain ⟨q2, h2, h⟩ := h
  refine r_callV (as := [vR l1]) (rv := none) (kc := 0) (nc := 0) (tX1_layOut h2) clok_1 F (gK_so g2) tw_599 tw_601 tw_2 tw_602 tw_117 ⟨by decide, by decide, show (parseMethodDescriptor yX1_layOut.desc).map (fun d => d.parameters.length) = some 1 by decide +kernel⟩ ⟨by decide, by decide⟩ (Nat.le_of_ble_eq_true rfl) dX1_fewestApart_2 ?_
  refine r_bipush F rfl (by decide) dX1_fewestApart_5 ?_
  refine r_istore (ls' := [(4, vI 12), (0, vR l0), (1, vR l1), (2, vI l2), (3, vI l3)]) F (by decide) rfl dX1_fewestApart_7 ?_
  refine r_iconst F rfl dX1_fewestApart_9 ?_
  refine r_istore (ls' := [(5, vI 0), (4, vI 12), (0, vR l0), (1, vR l1), (2, vI l2), (3, vI l3)]) F (by decide) rfl dX1_fewestApart_10 ?_
  refine r_sub [2, 4, 5, 1, 0] (ls' := [(0, vR l0), (2, vI l2), (3, vI l3), (4, vI 12), (5, vI 0)]) rfl ?_
  exact tX1_fewestApart_12 F h
