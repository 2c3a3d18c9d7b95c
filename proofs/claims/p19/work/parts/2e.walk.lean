theorem tX4_forget {l0 : Int} {M : Mem} {q : Int × Mem} (h : mX4_forget l0 M = some q) : Ct 1 0 0 yX4_forget cX4_forget 1 none [vR l0] M none q.2 := by
  unfold mX4_forget at h
  refine Ct.of (by decide) (Nat.le_of_ble_eq_true rfl) ?_
  intro E p l e s m args below meth c F
  refine r_sub [0] (ls' := [(0, vR l0)]) rfl ?_
  refine r_aload_n (j := 0) F rfl rfl dX4_forget_0 ?_
  refine r_iconst F rfl dX4_forget_1 ?_
  replace h := bind_so h
  obtain ⟨M2, h2, h⟩ := h
  refine r_put clok_4 F (by decide) rfl (by decide) (by decide) h2 tw_372 dX4_forget_2 ?_
  refine r_aload_n (j := 0) F rfl rfl dX4_forget_5 ?_
  refine r_iconst F rfl dX4_forget_6 ?_
  replace h := bind_so h
  obtain ⟨M7, h7, h⟩ := h
  refine r_put clok_4 F (by decide) rfl (by decide) (by decide) h7 tw_378 dX4_forget_7 ?_
  refine r_aload_n (j := 0) F rfl rfl dX4_forget_10 ?_
  replace h := bind_so h
  obtain ⟨a11, h11, h⟩ := h
  refine r_getT (t := 2) rfl clok_4 F (by decide) h11 tw_370 dX4_forget_11 ?_
  replace h := bind_so h
  obtain ⟨_, g14, h⟩ := h
  replace h := bind_so h
  obtain ⟨q14, h14, h⟩ := h
  refine r_callV (as := []) (rv := none) (kc := 0) (nc := 0) (tX1_forget h14) clok_1 F (gK_so g14) tw_526 tw_527 tw_528 tw_529 tw_117 ⟨by decide, by decide, show (parseMethodDescriptor yX1_forget.desc).map (fun d => d.parameters.length) = some 0 by decide +kernel⟩ ⟨by decide, by decide⟩ (Nat.le_of_ble_eq_true rfl) dX4_forget_14 ?_
  obtain rfl := Option.some.inj h
  exact r_vret F dX4_forget_17
theorem tX4_forgetGuess {l0 : Int} {M : Mem} {q : Int × Mem} (h : mX4_forgetGuess l0 M = some q) : Ct 0 0 0 yX4_forgetGuess cX4_forgetGuess 1 none [vR l0] M none q.2 := by
  unfold mX4_forgetGuess at h
  refine Ct.of (by decide) (Nat.le_of_ble_eq_true rfl) ?_
  intro E p l e s m args below meth c F
  refine r_sub [0] (ls' := [(0, vR l0)]) rfl ?_
  refine r_aload_n (j := 0) F rfl rfl dX4_forgetGuess_0 ?_
  refine r_dup1 F rfl dX4_forgetGuess_1 ?_
  replace h := bind_so h
  obtain ⟨a2, h2, h⟩ := h
  refine r_getT (t := 0) rfl clok_4 F (by decide) h2 tw_372 dX4_forgetGuess_2 ?_
  refine r_sipush F rfl (by decide) dX4_forgetGuess_5 ?_
  refine r_iand F dX4_forgetGuess_8 ?_
  replace h := bind_so h
  obtain ⟨M9, h9, h⟩ := h
  refine r_put clok_4 F (by decide) rfl (by decide) (by decide) h9 tw_372 dX4_forgetGuess_9 ?_
  obtain rfl := Option.some.inj h
  exact r_vret F dX4_forgetGuess_12
theorem tX4_canTell {l0 : Int} {M : Mem} {q : Int × Mem} (h : mX4_canTell l0 M = some q) : Ct 0 0 0 yX4_canTell cX4_canTell 1 (some FieldType.boolean) [vR l0] M (some (vI q.1)) q.2 := by
  unfold mX4_canTell at h
  refine Ct.of (by decide) (Nat.le_of_ble_eq_true rfl) ?_
  intro E p l e s m args below meth c F
  refine r_sub [0] (ls' := [(0, vR l0)]) rfl ?_
  refine r_aload_n (j := 0) F rfl rfl dX4_canTell_0 ?_
  replace h := bind_so h
  obtain ⟨a1, h1, h⟩ := h
  refine r_getT (t := 2) rfl clok_4 F (by decide) h1 tw_366 dX4_canTell_1 ?_
  replace h := bind_so h
  obtain ⟨a4, h4, h⟩ := h
  refine r_getT (t := 2) rfl clok_6 F (by decide) h4 tw_209 dX4_canTell_4 ?_
  replace h := bind_so h
  obtain ⟨a7, h7, h⟩ := h
  refine r_getT (t := 0) rfl clok_3 F (by decide) h7 tw_184 dX4_canTell_7 ?_
  refine r_bipush F rfl (by decide) dX4_canTell_10 ?_
  refine r_icmp_gt (tgt := 19) F (by decide) dX4_canTell_12 (fun hc => ?_) (fun hc => ?_)
  · replace h := ite_p h hc
    refine r_iconst F rfl dX4_canTell_19 ?_
    obtain rfl := Option.some.inj h
    exact r_zret (Or.inl rfl) F dX4_canTell_20
  · replace h := ite_n h hc
    refine r_iconst F rfl dX4_canTell_15 ?_
    refine r_goto (tgt := 20) F (by decide) dX4_canTell_16 ?_
    obtain rfl := Option.some.inj h
    exact r_zret (Or.inr rfl) F dX4_canTell_20
theorem tX7_takeAll_45 {E : En} {p : Program} {l : Launch} {e : Env} {s : State} {m : MethodId} {args : Array Value} {below : List Frame} {meth : Method} {c : Code} {q : Int × Mem} {k7 : Int → Int → Mem → Option (Int × Mem)} (hk7 : ∀ {l0 l2 : Int} {M : Mem}, k7 l0 l2 M = some q → G E p l e (rmOf 2 0 0) s m args below meth c 3 (QZ E below args s (rmOf 2 0 0) none q.2) 0 0 M 7 [(0, vR l0), (2, vI l2)] []) {l0 l2 s0 s1 s2 : Int} {M : Mem} (F : Fx E p s m args meth c cX7_takeAll 3 yX7_takeAll.cls none yX7_takeAll.name) (h : mX7_takeAll_45 k7 l0 l2 s0 s1 s2 M = some q) : G E p l e (rmOf 2 0 0) s m args below meth c 3 (QZ E below args s (rmOf 2 0 0) none q.2) 0 0 M 45 [(0, vR l0), (2, vI l2)] [vL s2, vI s1, vR s0] := by
  unfold mX7_takeAll_45 at h
  replace h := bind_so h
  obtain ⟨M45, h45, h⟩ := h
  refine r_last F h45 dX7_takeAll_45 ?_
  refine r_iinc (j := 1) (ls' := [(2, vI (wI (l2 + 1))), (0, vR l0)]) F rfl (by decide) rfl dX7_takeAll_46 ?_
  refine r_goto (tgt := 7) F (by decide) dX7_takeAll_49 ?_
  refine r_sub [1, 0] (ls' := [(0, vR l0), (2, vI (wI (l2 + 1)))]) rfl ?_
  exact hk7 h
theorem tbX7_takeAll_7 {E : En} {p : Program} {l : Launch} {e : Env} {s : State} {m : MethodId} {args : Array Value} {below : List Frame} {meth : Method} {c : Code} {q : Int × Mem} {k7 : Int → Int → Mem → Option (Int × Mem)} (hk7 : ∀ {l0 l2 : Int} {M : Mem}, k7 l0 l2 M = some q → G E p l e (rmOf 2 0 0) s m args below meth c 3 (QZ E below args s (rmOf 2 0 0) none q.2) 0 0 M 7 [(0, vR l0), (2, vI l2)] []) {l0 l2 : Int} {M : Mem} (F : Fx E p s m args meth c cX7_takeAll 3 yX7_takeAll.cls none yX7_takeAll.name) (h : bX7_takeAll_7 k7 l0 l2 M = some q) : G E p l e (rmOf 2 0 0) s m args below meth c 3 (QZ E below args s (rmOf 2 0 0) none q.2) 0 0 M 7 [(0, vR l0), (2, vI l2)] [] := by
  unfold bX7_takeAll_7 at h
  refine r_iload_n (j := 1) F rfl rfl dX7_takeAll_7 ?_
  refine r_aload_n (j := 0) F rfl rfl dX7_takeAll_8 ?_
  replace h := bind_so h
  obtain ⟨a9, h9, h⟩ := h
  refine r_getT (t := 0) rfl clok_7 F (by decide) h9 tw_327 dX7_takeAll_9 ?_
  refine r_icmp_ge (tgt := 52) F (by decide) dX7_takeAll_12 (fun hc => ?_) (fun hc => ?_)
  · replace h := ite_p h hc
    obtain rfl := Option.some.inj h
    exact r_vret F dX7_takeAll_52
  · replace h := ite_n h hc
    refine r_aload_n (j := 0) F rfl rfl dX7_takeAll_15 ?_
    replace h := bind_so h
    obtain ⟨a16, h16, h⟩ := h
    refine r_getT (t := 2) rfl clok_7 F (by decide) h16 tw_325 dX7_takeAll_16 ?_
    refine r_iload_n (j := 1) F rfl rfl dX7_takeAll_19 ?_
    refine r_aload_n (j := 0) F rfl rfl dX7_takeAll_20 ?_
    replace h := bind_so h
    obtain ⟨a21, h21, h⟩ := h
    refine r_getT (t := 0) rfl clok_7 F (by decide) h21 tw_328 dX7_takeAll_21 ?_
    refine r_bipush F rfl (by decide) dX7_takeAll_24 ?_
    refine r_icmp_ge (tgt := 42) F (by decide) dX7_takeAll_26 (fun hc => ?_) (fun hc => ?_)
    · replace h := ite_p h hc
      refine r_ldc2v (x := (-1)) F (by unfold InL; omega) (by decide) tw_983 dX7_takeAll_42 ?_
      refine r_sub [0, 1] (ls' := [(0, vR l0), (2, vI l2)]) rfl ?_
      exact tX7_takeAll_45 (fun h => hk7 h) F h
    · replace h := ite_n h hc
      refine r_lconst F dX7_takeAll_29 ?_
      refine r_eq (y := 1) rfl ?_
      refine r_iconst F rfl dX7_takeAll_30 ?_
      refine r_aload_n (j := 0) F rfl rfl dX7_takeAll_31 ?_
      replace h := bind_so h
      obtain ⟨a32, h32, h⟩ := h
      refine r_getT (t := 0) rfl clok_7 F (by decide) h32 tw_328 dX7_takeAll_32 ?_
      refine r_ishl F dX7_takeAll_35 ?_
      refine r_lshl F dX7_takeAll_36 ?_
      refine r_lconst F dX7_takeAll_37 ?_
      refine r_eq (y := 1) rfl ?_
      refine r_lsub F dX7_takeAll_38 ?_
      refine r_goto (tgt := 45) F (by decide) dX7_takeAll_39 ?_
      refine r_sub [0, 1] (ls' := [(0, vR l0), (2, vI l2)]) rfl ?_
      exact tX7_takeAll_45 (fun h => hk7 h) F h
theorem tX7_takeAll_7 {E : En} {p : Program} {l : Launch} {e : Env} {s : State} {m : MethodId} {args : Array Value} {below : List Frame} {meth : Method} {c : Code} {q : Int × Mem} (F : Fx E p s m args meth c cX7_takeAll 3 yX7_takeAll.cls none yX7_takeAll.name) : ∀ {fu : Nat} {l0 l2 : Int} {M : Mem}, mX7_takeAll_7 fu l0 l2 M = some q → G E p l e (rmOf 2 0 0) s m args below meth c 3 (QZ E below args s (rmOf 2 0 0) none q.2) 0 0 M 7 [(0, vR l0), (2, vI l2)] [] := by
  intro fu
  induction fu with
  | zero => intro l0 l2 M h; exact nomatch (show (none : Option (Int × Mem)) = some q from h)
  | succ fu ih => intro l0 l2 M h; exact tbX7_takeAll_7  (fun h => ih h) F h
theorem tX7_takeAll {l0 l1 : Int} {M : Mem} {q : Int × Mem} (h : mX7_takeAll l0 l1 M = some q) : Ct 2 0 0 yX7_takeAll cX7_takeAll 3 none [vR l0, vI l1] M none q.2 := by
  unfold mX7_takeAll at h
  refine Ct.of (by decide) (Nat.le_of_ble_eq_true rfl) ?_
  intro E p l e s m args below meth c F
  refine r_sub [0, 1] (ls' := [(0, vR l0), (1, vI l1)]) rfl ?_
  refine r_aload_n (j := 0) F rfl rfl dX7_takeAll_0 ?_
  refine r_iload_n (j := 1) F rfl rfl dX7_takeAll_1 ?_
  replace h := bind_so h
  obtain ⟨_, g2, h⟩ := h
  replace h := bind_so h
  obtain ⟨q2, h2, h⟩ := h
  refine r_callV (as := [vI l1]) (rv := none) (kc := 0) (nc := 0) (tX7_takeNone h2) clok_7 F (gK_so g2) tw_977 tw_978 tw_979 tw_980 tw_118 ⟨by decide, by decide, show (parseMethodDescriptor yX7_takeNone.desc).map (fun d => d.parameters.length) = some 1 by decide +kernel⟩ ⟨by decide, by decide⟩ (Nat.le_of_ble_eq_true rfl) dX7_takeAll_2 ?_
  refine r_iconst F rfl dX7_takeAll_5 ?_
  refine r_istore_n (ls' := [(2, vI 0), (0, vR l0), (1, vI l1)]) F rfl (by decide) rfl dX7_takeAll_6 ?_
  refine r_sub [1, 0] (ls' := [(0, vR l0), (2, vI 0)]) rfl ?_
  exact tX7_takeAll_7 F h
theorem tX6_viewedDay {l0 : Int} {M : Mem} {q : Int × Mem} (h : mX6_viewedDay l0 M = some q) : Ct 0 0 0 yX6_viewedDay cX6_viewedDay 1 (some FieldType.int) [vR l0] M (some (vI q.1)) q.2 := by
  unfold mX6_viewedDay at h
  refine Ct.of (by decide) (Nat.le_of_ble_eq_true rfl) ?_
  intro E p l e s m args below meth c F
  refine r_sub [0] (ls' := [(0, vR l0)]) rfl ?_
  refine r_aload_n (j := 0) F rfl rfl dX6_viewedDay_0 ?_
  replace h := bind_so h
  obtain ⟨a1, h1, h⟩ := h
  refine r_getT (t := 0) rfl clok_6 F (by decide) h1 tw_240 dX6_viewedDay_1 ?_
  refine r_iconst F rfl dX6_viewedDay_4 ?_
  refine r_icmp_ne (tgt := 15) F (by decide) dX6_viewedDay_5 (fun hc => ?_) (fun hc => ?_)
  · replace h := ite_n h hc
    refine r_aload_n (j := 0) F rfl rfl dX6_viewedDay_15 ?_
    replace h := bind_so h
    obtain ⟨a16, h16, h⟩ := h
    refine r_getT (t := 0) rfl clok_6 F (by decide) h16 tw_240 dX6_viewedDay_16 ?_
    obtain rfl := Option.some.inj h
    exact r_iret F dX6_viewedDay_19
  · replace h := ite_p h hc
    refine r_aload_n (j := 0) F rfl rfl dX6_viewedDay_8 ?_
    replace h := bind_so h
    obtain ⟨a9, h9, h⟩ := h
    refine r_getT (t := 0) rfl clok_6 F (by decide) h9 tw_238 dX6_viewedDay_9 ?_
    refine r_goto (tgt := 19) F (by decide) dX6_viewedDay_12 ?_
    obtain rfl := Option.some.inj h
    exact r_iret F dX6_viewedDay_19
theorem tX6_knownOf_69 {E : En} {p : Program} {l : Launch} {e : Env} {s : State} {m : MethodId} {args : Array Value} {below : List Frame} {meth : Method} {c : Code} {q : Int × Mem} {k17 : Int → Int → Int → Int → Mem → Option (Int × Mem)} (hk17 : ∀ {l0 l4 l5 l6 : Int} {M : Mem}, k17 l0 l4 l5 l6 M = some q → G E p l e (rmOf 1 0 0) s m args below meth c 7 (QZ E below args s (rmOf 1 0 0) (some (vI q.1)) q.2) 0 0 M 17 [(0, vR l0), (4, vI l4), (5, vI l5), (6, vI l6)] []) {l0 l4 l5 l6 : Int} {M : Mem} (F : Fx E p s m args meth c cX6_knownOf 7 yX6_knownOf.cls (some FieldType.int) yX6_knownOf.name) (h : mX6_knownOf_69 k17 l0 l4 l5 l6 M = some q) : G E p l e (rmOf 1 0 0) s m args below meth c 7 (QZ E below args s (rmOf 1 0 0) (some (vI q.1)) q.2) 0 0 M 69 [(0, vR l0), (4, vI l4), (5, vI l5), (6, vI l6)] [] := by
  unfold mX6_knownOf_69 at h
  refine r_iinc (j := 3) (ls' := [(6, vI (wI (l6 + 1))), (0, vR l0), (4, vI l4), (5, vI l5)]) F rfl (by decide) rfl dX6_knownOf_69 ?_
  refine r_goto (tgt := 17) F (by decide) dX6_knownOf_72 ?_
  refine r_sub [1, 2, 3, 0] (ls' := [(0, vR l0), (4, vI l4), (5, vI l5), (6, vI (wI (l6 + 1)))]) rfl ?_
  exact hk17 h
theorem tX6_knownOf_67 {E : En} {p : Program} {l : Launch} {e : Env} {s : State} {m : MethodId} {args : Array Value} {below : List Frame} {meth : Method} {c : Code} {q : Int × Mem} {k17 : Int → Int → Int → Int → Mem → Option (Int × Mem)} (hk17 : ∀ {l0 l4 l5 l6 : Int} {M : Mem}, k17 l0 l4 l5 l6 M = some q → G E p l e (rmOf 1 0 0) s m args below meth c 7 (QZ E below args s (rmOf 1 0 0) (some (vI q.1)) q.2) 0 0 M 17 [(0, vR l0), (4, vI l4), (5, vI l5), (6, vI l6)] []) {l0 l4 l6 s0 : Int} {M : Mem} (F : Fx E p s m args meth c cX6_knownOf 7 yX6_knownOf.cls (some FieldType.int) yX6_knownOf.name) (h : mX6_knownOf_67 k17 l0 l4 l6 s0 M = some q) : G E p l e (rmOf 1 0 0) s m args below meth c 7 (QZ E below args s (rmOf 1 0 0) (some (vI q.1)) q.2) 0 0 M 67 [(0, vR l0), (4, vI l4), (6, vI l6)] [vI s0] := by
  unfold mX6_knownOf_67 at h
  refine r_istore (ls' := [(5, vI s0), (0, vR l0), (4, vI l4), (6, vI l6)]) F (by decide) rfl dX6_knownOf_67 ?_
  refine r_sub [1, 2, 0, 3] (ls' := [(0, vR l0), (4, vI l4), (5, vI s0), (6, vI l6)]) rfl ?_
  exact tX6_knownOf_69 (fun h => hk17 h) F h
theorem tbX6_knownOf_17 {E : En} {p : Program} {l : Launch} {e : Env} {s : State} {m : MethodId} {args : Array Value} {below : List Frame} {meth : Method} {c : Code} {q : Int × Mem} {k17 : Int → Int → Int → Int → Mem → Option (Int × Mem)} (hk17 : ∀ {l0 l4 l5 l6 : Int} {M : Mem}, k17 l0 l4 l5 l6 M = some q → G E p l e (rmOf 1 0 0) s m args below meth c 7 (QZ E below args s (rmOf 1 0 0) (some (vI q.1)) q.2) 0 0 M 17 [(0, vR l0), (4, vI l4), (5, vI l5), (6, vI l6)] []) {l0 l4 l5 l6 : Int} {M : Mem} (F : Fx E p s m args meth c cX6_knownOf 7 yX6_knownOf.cls (some FieldType.int) yX6_knownOf.name) (h : bX6_knownOf_17 k17 l0 l4 l5 l6 M = some q) : G E p l e (rmOf 1 0 0) s m args below meth c 7 (QZ E below args s (rmOf 1 0 0) (some (vI q.1)) q.2) 0 0 M 17 [(0, vR l0), (4, vI l4), (5, vI l5), (6, vI l6)] [] := by
  unfold bX6_knownOf_17 at h
  refine r_iload (j := 3) F rfl dX6_knownOf_17 ?_
  refine r_aload_n (j := 0) F rfl rfl dX6_knownOf_19 ?_
  replace h := bind_so h
  obtain ⟨a20, h20, h⟩ := h
  refine r_getT (t := 0) rfl clok_6 F (by decide) h20 tw_245 dX6_knownOf_20 ?_
  refine r_icmp_ge (tgt := 75) F (by decide) dX6_knownOf_23 (fun hc => ?_) (fun hc => ?_)
  · replace h := ite_p h hc
    refine r_iload (j := 2) F rfl dX6_knownOf_75 ?_
    obtain rfl := Option.some.inj h
    exact r_iret F dX6_knownOf_77
  · replace h := ite_n h hc
    refine r_aload_n (j := 0) F rfl rfl dX6_knownOf_26 ?_
    replace h := bind_so h
    obtain ⟨a27, h27, h⟩ := h
    refine r_getT (t := 2) rfl clok_6 F (by decide) h27 tw_242 dX6_knownOf_27 ?_
    refine r_iload (j := 3) F rfl dX6_knownOf_30 ?_
    replace h := bind_so h
    obtain ⟨a32, h32, h⟩ := h
    refine r_iald F h32 dX6_knownOf_32 ?_
    refine r_iload (j := 1) F rfl dX6_knownOf_33 ?_
    refine r_icmp_ne (tgt := 69) F (by decide) dX6_knownOf_35 (fun hc => ?_) (fun hc => ?_)
    · replace h := ite_n h hc
      refine r_sub [0, 1, 2, 3] (ls' := [(0, vR l0), (4, vI l4), (5, vI l5), (6, vI l6)]) rfl ?_
      exact tX6_knownOf_69 (fun h => hk17 h) F h
    · replace h := ite_p h hc
      refine r_aload_n (j := 0) F rfl rfl dX6_knownOf_38 ?_
      replace h := bind_so h
      obtain ⟨a39, h39, h⟩ := h
      refine r_getT (t := 2) rfl clok_6 F (by decide) h39 tw_244 dX6_knownOf_39 ?_
      refine r_iload (j := 3) F rfl dX6_knownOf_42 ?_
      replace h := bind_so h
      obtain ⟨a44, h44, h⟩ := h
      refine r_iald F h44 dX6_knownOf_44 ?_
      refine r_aload_n (j := 0) F rfl rfl dX6_knownOf_45 ?_
      replace h := bind_so h
      obtain ⟨_, g46, h⟩ := h
      replace h := bind_so h
      obtain ⟨q46, h46, h⟩ := h
      refine r_callV (as := []) (rv := (some (vI q46.1))) (kc := 0) (nc := 0) (tX6_viewedDay h46) clok_6 F (gK_so g46) tw_988 tw_990 tw_42 tw_991 tw_114 ⟨by decide, by decide, show (parseMethodDescriptor yX6_viewedDay.desc).map (fun d => d.parameters.length) = some 0 by decide +kernel⟩ ⟨by decide, by decide⟩ (Nat.le_of_ble_eq_true rfl) dX6_knownOf_46 ?_
      refine r_icmp_gt (tgt := 69) F (by decide) dX6_knownOf_49 (fun hc => ?_) (fun hc => ?_)
      · replace h := ite_p h hc
        refine r_sub [0, 1, 2, 3] (ls' := [(0, vR l0), (4, vI l4), (5, vI l5), (6, vI l6)]) rfl ?_
        exact tX6_knownOf_69 (fun h => hk17 h) F h
      · replace h := ite_n h hc
        refine r_aload_n (j := 0) F rfl rfl dX6_knownOf_52 ?_
        replace h := bind_so h
        obtain ⟨a53, h53, h⟩ := h
        refine r_getT (t := 2) rfl clok_6 F (by decide) h53 tw_243 dX6_knownOf_53 ?_
        refine r_iload (j := 3) F rfl dX6_knownOf_56 ?_
        replace h := bind_so h
        obtain ⟨a58, h58, h⟩ := h
        refine r_zald F h58 dX6_knownOf_58 ?_
        refine r_if_eq (tgt := 66) F (by decide) dX6_knownOf_59 (fun hc => ?_) (fun hc => ?_)
        · replace h := ite_p h hc
          refine r_iconst F rfl dX6_knownOf_66 ?_
          refine r_sub [0, 1, 3] (ls' := [(0, vR l0), (4, vI l4), (6, vI l6)]) rfl ?_
          exact tX6_knownOf_67 (fun h => hk17 h) F h
        · replace h := ite_n h hc
          refine r_iconst F rfl dX6_knownOf_62 ?_
          refine r_goto (tgt := 67) F (by decide) dX6_knownOf_63 ?_
          refine r_sub [0, 1, 3] (ls' := [(0, vR l0), (4, vI l4), (6, vI l6)]) rfl ?_
          exact tX6_knownOf_67 (fun h => hk17 h) F h
theorem tX6_knownOf_17 {E : En} {p : Program} {l : Launch} {e : Env} {s : State} {m : MethodId} {args : Array Value} {below : List Frame} {meth : Method} {c : Code} {q : Int × Mem} (F : Fx E p s m args meth c cX6_knownOf 7 yX6_knownOf.cls (some FieldType.int) yX6_knownOf.name) : ∀ {fu : Nat} {l0 l4 l5 l6 : Int} {M : Mem}, mX6_knownOf_17 fu l0 l4 l5 l6 M = some q → G E p l e (rmOf 1 0 0) s m args below meth c 7 (QZ E below args s (rmOf 1 0 0) (some (vI q.1)) q.2) 0 0 M 17 [(0, vR l0), (4, vI l4), (5, vI l5), (6, vI l6)] [] := by
  intro fu
  induction fu with
  | zero => intro l0 l4 l5 l6 M h; exact nomatch (show (none : Option (Int × Mem)) = some q from h)
  | succ fu ih => intro l0 l4 l5 l6 M h; exact tbX6_knownOf_17  (fun h => ih h) F h
theorem tX6_knownOf {l0 l1 l2 l3 : Int} {M : Mem} {q : Int × Mem} (h : mX6_knownOf l0 l1 l2 l3 M = some q) : Ct 1 0 0 yX6_knownOf cX6_knownOf 7 (some FieldType.int) [vR l0, vI l1, vI l2, vI l3] M (some (vI q.1)) q.2 := by
  unfold mX6_knownOf at h
  refine Ct.of (by decide) (Nat.le_of_ble_eq_true rfl) ?_
  intro E p l e s m args below meth c F
  refine r_sub [0, 1, 2, 3] (ls' := [(0, vR l0), (1, vI l1), (2, vI l2), (3, vI l3)]) rfl ?_
  refine r_iload_n (j := 1) F rfl rfl dX6_knownOf_0 ?_
  refine r_iconst F rfl dX6_knownOf_1 ?_
  refine r_imul F dX6_knownOf_2 ?_
  refine r_iload_n (j := 2) F rfl rfl dX6_knownOf_3 ?_
  refine r_iadd F dX6_knownOf_4 ?_
  refine r_iconst F rfl dX6_knownOf_5 ?_
  refine r_imul F dX6_knownOf_6 ?_
  refine r_iload_n (j := 3) F rfl rfl dX6_knownOf_7 ?_
  refine r_iadd F dX6_knownOf_8 ?_
  replace h := bind_so h
  obtain ⟨b9, e9, h⟩ := h
  refine r_eq (y := b9) (Option.some.inj e9) ?_
  refine r_istore (ls' := [(4, vI b9), (0, vR l0), (1, vI l1), (2, vI l2), (3, vI l3)]) F (by decide) rfl dX6_knownOf_9 ?_
  refine r_iconst F rfl dX6_knownOf_11 ?_
  refine r_istore (ls' := [(5, vI (-1)), (4, vI b9), (0, vR l0), (1, vI l1), (2, vI l2), (3, vI l3)]) F (by decide) rfl dX6_knownOf_12 ?_
  refine r_iconst F rfl dX6_knownOf_14 ?_
  refine r_istore (ls' := [(6, vI 0), (5, vI (-1)), (4, vI b9), (0, vR l0), (1, vI l1), (2, vI l2), (3, vI l3)]) F (by decide) rfl dX6_knownOf_15 ?_
  refine r_sub [3, 2, 1, 0] (ls' := [(0, vR l0), (4, vI b9), (5, vI (-1)), (6, vI 0)]) rfl ?_
  exact tX6_knownOf_17 F h
theorem tX7_keepWhere_38 {E : En} {p : Program} {l : Launch} {e : Env} {s : State} {m : MethodId} {args : Array Value} {below : List Frame} {meth : Method} {c : Code} {q : Int × Mem} {k2 : Int → Int → Int → Int → Mem → Option (Int × Mem)} (hk2 : ∀ {l0 l1 l2 l3 : Int} {M : Mem}, k2 l0 l1 l2 l3 M = some q → G E p l e (rmOf 1 0 0) s m args below meth c 4 (QZ E below args s (rmOf 1 0 0) none q.2) 0 0 M 2 [(0, vR l0), (1, vI l1), (2, vI l2), (3, vI l3)] []) {l0 l1 l2 l3 s0 s1 s2 s3 : Int} {M : Mem} (F : Fx E p s m args meth c cX7_keepWhere 4 yX7_keepWhere.cls none yX7_keepWhere.name) (h : mX7_keepWhere_38 k2 l0 l1 l2 l3 s0 s1 s2 s3 M = some q) : G E p l e (rmOf 1 0 0) s m args below meth c 4 (QZ E below args s (rmOf 1 0 0) none q.2) 0 0 M 38 [(0, vR l0), (1, vI l1), (2, vI l2), (3, vI l3)] [vL s3, vL s2, vI s1, vR s0] := by
  unfold mX7_keepWhere_38 at h
  refine r_land F dX7_keepWhere_38 ?_
  replace h := bind_so h
  obtain ⟨M39, h39, h⟩ := h
  refine r_last F h39 dX7_keepWhere_39 ?_
  refine r_iinc (j := 3) (ls' := [(3, vI (wI (l3 + 1))), (0, vR l0), (1, vI l1), (2, vI l2)]) F rfl (by decide) rfl dX7_keepWhere_40 ?_
  refine r_goto (tgt := 2) F (by decide) dX7_keepWhere_43 ?_
  refine r_sub [1, 2, 3, 0] (ls' := [(0, vR l0), (1, vI l1), (2, vI l2), (3, vI (wI (l3 + 1)))]) rfl ?_
  exact hk2 h
theorem tbX7_keepWhere_2 {E : En} {p : Program} {l : Launch} {e : Env} {s : State} {m : MethodId} {args : Array Value} {below : List Frame} {meth : Method} {c : Code} {q : Int × Mem} {k2 : Int → Int → Int → Int → Mem → Option (Int × Mem)} (hk2 : ∀ {l0 l1 l2 l3 : Int} {M : Mem}, k2 l0 l1 l2 l3 M = some q → G E p l e (rmOf 1 0 0) s m args below meth c 4 (QZ E below args s (rmOf 1 0 0) none q.2) 0 0 M 2 [(0, vR l0), (1, vI l1), (2, vI l2), (3, vI l3)] []) {l0 l1 l2 l3 : Int} {M : Mem} (F : Fx E p s m args meth c cX7_keepWhere 4 yX7_keepWhere.cls none yX7_keepWhere.name) (h : bX7_keepWhere_2 k2 l0 l1 l2 l3 M = some q) : G E p l e (rmOf 1 0 0) s m args below meth c 4 (QZ E below args s (rmOf 1 0 0) none q.2) 0 0 M 2 [(0, vR l0), (1, vI l1), (2, vI l2), (3, vI l3)] [] := by
  unfold bX7_keepWhere_2 at h
  refine r_iload_n (j := 3) F rfl rfl dX7_keepWhere_2 ?_
  refine r_aload_n (j := 0) F rfl rfl dX7_keepWhere_3 ?_
  replace h := bind_so h
  obtain ⟨a4, h4, h⟩ := h
  refine r_getT (t := 0) rfl clok_7 F (by decide) h4 tw_327 dX7_keepWhere_4 ?_
  refine r_icmp_ge (tgt := 46) F (by decide) dX7_keepWhere_7 (fun hc => ?_) (fun hc => ?_)
  · replace h := ite_p h hc
    obtain rfl := Option.some.inj h
    exact r_vret F dX7_keepWhere_46
  · replace h := ite_n h hc
    refine r_aload_n (j := 0) F rfl rfl dX7_keepWhere_10 ?_
    replace h := bind_so h
    obtain ⟨a11, h11, h⟩ := h
    refine r_getT (t := 2) rfl clok_7 F (by decide) h11 tw_325 dX7_keepWhere_11 ?_
    refine r_iload_n (j := 3) F rfl rfl dX7_keepWhere_14 ?_
    refine r_dup2 F rfl rfl dX7_keepWhere_15 ?_
    replace h := bind_so h
    obtain ⟨a16, h16, h⟩ := h
    refine r_lald F h16 dX7_keepWhere_16 ?_
    refine r_iload_n (j := 2) F rfl rfl dX7_keepWhere_17 ?_
    refine r_if_eq (tgt := 29) F (by decide) dX7_keepWhere_18 (fun hc => ?_) (fun hc => ?_)
    · replace h := ite_p h hc
      refine r_iload_n (j := 1) F rfl rfl dX7_keepWhere_29 ?_
      refine r_iload_n (j := 3) F rfl rfl dX7_keepWhere_30 ?_
      replace h := bind_so h
      obtain ⟨q31, h31, h⟩ := h
      refine r_callS (as := [vI l1, vI l3]) (rv := (some (vL q31.1))) (kc := 0) (nc := 0) (tX7_soAt h31) F tw_998 tw_999 tw_1000 tw_118 ⟨by decide, by decide, show (parseMethodDescriptor yX7_soAt.desc).map (fun d => d.parameters.length) = some 2 by decide +kernel⟩ ⟨by decide, by decide⟩ (Nat.le_of_ble_eq_true rfl) dX7_keepWhere_31 ?_
      refine r_ldc2v (x := (-1)) F (by unfold InL; omega) (by decide) tw_983 dX7_keepWhere_34 ?_
      refine r_lxor F dX7_keepWhere_37 ?_
      refine r_sub [0, 1, 2, 3] (ls' := [(0, vR l0), (1, vI l1), (2, vI l2), (3, vI l3)]) rfl ?_
      exact tX7_keepWhere_38 (fun h => hk2 h) F h
    · replace h := ite_n h hc
      refine r_iload_n (j := 1) F rfl rfl dX7_keepWhere_21 ?_
      refine r_iload_n (j := 3) F rfl rfl dX7_keepWhere_22 ?_
      replace h := bind_so h
      obtain ⟨q23, h23, h⟩ := h
      refine r_callS (as := [vI l1, vI l3]) (rv := (some (vL q23.1))) (kc := 0) (nc := 0) (tX7_soAt h23) F tw_998 tw_999 tw_1000 tw_118 ⟨by decide, by decide, show (parseMethodDescriptor yX7_soAt.desc).map (fun d => d.parameters.length) = some 2 by decide +kernel⟩ ⟨by decide, by decide⟩ (Nat.le_of_ble_eq_true rfl) dX7_keepWhere_23 ?_
      refine r_goto (tgt := 38) F (by decide) dX7_keepWhere_26 ?_
      refine r_sub [0, 1, 2, 3] (ls' := [(0, vR l0), (1, vI l1), (2, vI l2), (3, vI l3)]) rfl ?_
      exact tX7_keepWhere_38 (fun h => hk2 h) F h
theorem tX7_keepWhere_2 {E : En} {p : Program} {l : Launch} {e : Env} {s : State} {m : MethodId} {args : Array Value} {below : List Frame} {meth : Method} {c : Code} {q : Int × Mem} (F : Fx E p s m args meth c cX7_keepWhere 4 yX7_keepWhere.cls none yX7_keepWhere.name) : ∀ {fu : Nat} {l0 l1 l2 l3 : Int} {M : Mem}, mX7_keepWhere_2 fu l0 l1 l2 l3 M = some q → G E p l e (rmOf 1 0 0) s m args below meth c 4 (QZ E below args s (rmOf 1 0 0) none q.2) 0 0 M 2 [(0, vR l0), (1, vI l1), (2, vI l2), (3, vI l3)] [] := by
  intro fu
  induction fu with
  | zero => intro l0 l1 l2 l3 M h; exact nomatch (show (none : Option (Int × Mem)) = some q from h)
  | succ fu ih => intro l0 l1 l2 l3 M h; exact tbX7_keepWhere_2  (fun h => ih h) F h
theorem tX7_keepWhere {l0 l1 l2 : Int} {M : Mem} {q : Int × Mem} (h : mX7_keepWhere l0 l1 l2 M = some q) : Ct 1 0 0 yX7_keepWhere cX7_keepWhere 4 none [vR l0, vI l1, vI l2] M none q.2 := by
  unfold mX7_keepWhere at h
  refine Ct.of (by decide) (Nat.le_of_ble_eq_true rfl) ?_
  intro E p l e s m args below meth c F
  refine r_sub [0, 1, 2] (ls' := [(0, vR l0), (1, vI l1), (2, vI l2)]) rfl ?_
  refine r_iconst F rfl dX7_keepWhere_0 ?_
  refine r_istore_n (ls' := [(3, vI 0), (0, vR l0), (1, vI l1), (2, vI l2)]) F rfl (by decide) rfl dX7_keepWhere_1 ?_
  refine r_sub [1, 2, 3, 0] (ls' := [(0, vR l0), (1, vI l1), (2, vI l2), (3, vI 0)]) rfl ?_
  exact tX7_keepWhere_2 F h
theorem tX4_findPossible_104 {E : En} {p : Program} {l : Launch} {e : Env} {s : State} {m : MethodId} {args : Array Value} {below : List Frame} {meth : Method} {c : Code} {q : Int × Mem} {k21 : Int → Int → Int → Mem → Option (Int × Mem)} {k31 : Int → Int → Int → Int → Mem → Option (Int × Mem)} {k44 : Int → Int → Int → Int → Int → Mem → Option (Int × Mem)} (hk21 : ∀ {l0 l1 l2 : Int} {M : Mem}, k21 l0 l1 l2 M = some q → G E p l e (rmOf 3 0 0) s m args below meth c 6 (QZ E below args s (rmOf 3 0 0) none q.2) 0 0 M 21 [(0, vR l0), (1, vR l1), (2, vI l2)] []) (hk31 : ∀ {l0 l1 l2 l3 : Int} {M : Mem}, k31 l0 l1 l2 l3 M = some q → G E p l e (rmOf 3 0 0) s m args below meth c 6 (QZ E below args s (rmOf 3 0 0) none q.2) 0 0 M 31 [(0, vR l0), (1, vR l1), (2, vI l2), (3, vI l3)] []) (hk44 : ∀ {l0 l1 l2 l3 l4 : Int} {M : Mem}, k44 l0 l1 l2 l3 l4 M = some q → G E p l e (rmOf 3 0 0) s m args below meth c 6 (QZ E below args s (rmOf 3 0 0) none q.2) 0 0 M 44 [(0, vR l0), (1, vR l1), (2, vI l2), (3, vI l3), (4, vI l4)] []) {l0 l1 l2 l3 l4 : Int} {M : Mem} (F : Fx E p s m args meth c cX4_findPossible 6 yX4_findPossible.cls none yX4_findPossible.name) (h : mX4_findPossible_104 k21 k31 k44 l0 l1 l2 l3 l4 M = some q) : G E p l e (rmOf 3 0 0) s m args below meth c 6 (QZ E below args s (rmOf 3 0 0) none q.2) 0 0 M 104 [(0, vR l0), (1, vR l1), (2, vI l2), (3, vI l3), (4, vI l4)] [] := by
  unfold mX4_findPossible_104 at h
  refine r_iinc (j := 4) (ls' := [(4, vI (wI (l4 + 1))), (0, vR l0), (1, vR l1), (2, vI l2), (3, vI l3)]) F rfl (by decide) rfl dX4_findPossible_104 ?_
  refine r_goto (tgt := 44) F (by decide) dX4_findPossible_107 ?_
  refine r_sub [1, 2, 3, 4, 0] (ls' := [(0, vR l0), (1, vR l1), (2, vI l2), (3, vI l3), (4, vI (wI (l4 + 1)))]) rfl ?_
  exact hk44 h
theorem tX4_findPossible_101 {E : En} {p : Program} {l : Launch} {e : Env} {s : State} {m : MethodId} {args : Array Value} {below : List Frame} {meth : Method} {c : Code} {q : Int × Mem} {k21 : Int → Int → Int → Mem → Option (Int × Mem)} {k31 : Int → Int → Int → Int → Mem → Option (Int × Mem)} {k44 : Int → Int → Int → Int → Int → Mem → Option (Int × Mem)} (hk21 : ∀ {l0 l1 l2 : Int} {M : Mem}, k21 l0 l1 l2 M = some q → G E p l e (rmOf 3 0 0) s m args below meth c 6 (QZ E below args s (rmOf 3 0 0) none q.2) 0 0 M 21 [(0, vR l0), (1, vR l1), (2, vI l2)] []) (hk31 : ∀ {l0 l1 l2 l3 : Int} {M : Mem}, k31 l0 l1 l2 l3 M = some q → G E p l e (rmOf 3 0 0) s m args below meth c 6 (QZ E below args s (rmOf 3 0 0) none q.2) 0 0 M 31 [(0, vR l0), (1, vR l1), (2, vI l2), (3, vI l3)] []) (hk44 : ∀ {l0 l1 l2 l3 l4 : Int} {M : Mem}, k44 l0 l1 l2 l3 l4 M = some q → G E p l e (rmOf 3 0 0) s m args below meth c 6 (QZ E below args s (rmOf 3 0 0) none q.2) 0 0 M 44 [(0, vR l0), (1, vR l1), (2, vI l2), (3, vI l3), (4, vI l4)] []) {l0 l1 l2 l3 l4 s0 s1 s2 : Int} {M : Mem} (F : Fx E p s m args meth c cX4_findPossible 6 yX4_findPossible.cls none yX4_findPossible.name) (h : mX4_findPossible_101 k21 k31 k44 l0 l1 l2 l3 l4 s0 s1 s2 M = some q) : G E p l e (rmOf 3 0 0) s m args below meth c 6 (QZ E below args s (rmOf 3 0 0) none q.2) 0 0 M 101 [(0, vR l0), (1, vR l1), (2, vI l2), (3, vI l3), (4, vI l4)] [vI s2, vI s1, vR s0] := by
  unfold mX4_findPossible_101 at h
  replace h := bind_so h
  obtain ⟨_, g101, h⟩ := h
  replace h := bind_so h
  obtain ⟨q101, h101, h⟩ := h
  refine r_callV (as := [vI s1, vI s2]) (rv := none) (kc := 0) (nc := 0) (tX7_keepWhere h101) clok_7 F (gK_so g101) tw_994 tw_995 tw_996 tw_997 tw_118 ⟨by decide, by decide, show (parseMethodDescriptor yX7_keepWhere.desc).map (fun d => d.parameters.length) = some 2 by decide +kernel⟩ ⟨by decide, by decide⟩ (Nat.le_of_ble_eq_true rfl) dX4_findPossible_101 ?_
  refine r_sub [0, 1, 2, 3, 4] (ls' := [(0, vR l0), (1, vR l1), (2, vI l2), (3, vI l3), (4, vI l4)]) rfl ?_
  exact tX4_findPossible_104 (fun h => hk21 h) (fun h => hk31 h) (fun h => hk44 h) F h
theorem tbX4_findPossible_44 {E : En} {p : Program} {l : Launch} {e : Env} {s : State} {m : MethodId} {args : Array Value} {below : List Frame} {meth : Method} {c : Code} {q : Int × Mem} {k21 : Int → Int → Int → Mem → Option (Int × Mem)} {k31 : Int → Int → Int → Int → Mem → Option (Int × Mem)} (hk21 : ∀ {l0 l1 l2 : Int} {M : Mem}, k21 l0 l1 l2 M = some q → G E p l e (rmOf 3 0 0) s m args below meth c 6 (QZ E below args s (rmOf 3 0 0) none q.2) 0 0 M 21 [(0, vR l0), (1, vR l1), (2, vI l2)] []) (hk31 : ∀ {l0 l1 l2 l3 : Int} {M : Mem}, k31 l0 l1 l2 l3 M = some q → G E p l e (rmOf 3 0 0) s m args below meth c 6 (QZ E below args s (rmOf 3 0 0) none q.2) 0 0 M 31 [(0, vR l0), (1, vR l1), (2, vI l2), (3, vI l3)] []) {k44 : Int → Int → Int → Int → Int → Mem → Option (Int × Mem)} (hk44 : ∀ {l0 l1 l2 l3 l4 : Int} {M : Mem}, k44 l0 l1 l2 l3 l4 M = some q → G E p l e (rmOf 3 0 0) s m args below meth c 6 (QZ E below args s (rmOf 3 0 0) none q.2) 0 0 M 44 [(0, vR l0), (1, vR l1), (2, vI l2), (3, vI l3), (4, vI l4)] []) {l0 l1 l2 l3 l4 : Int} {M : Mem} (F : Fx E p s m args meth c cX4_findPossible 6 yX4_findPossible.cls none yX4_findPossible.name) (h : bX4_findPossible_44 k21 k31 k44 l0 l1 l2 l3 l4 M = some q) : G E p l e (rmOf 3 0 0) s m args below meth c 6 (QZ E below args s (rmOf 3 0 0) none q.2) 0 0 M 44 [(0, vR l0), (1, vR l1), (2, vI l2), (3, vI l3), (4, vI l4)] [] := by
  unfold bX4_findPossible_44 at h
  refine r_iload (j := 4) F rfl dX4_findPossible_44 ?_
  refine r_aload_n (j := 1) F rfl rfl dX4_findPossible_46 ?_
  replace h := bind_so h
  obtain ⟨a47, h47, h⟩ := h
  refine r_getT (t := 2) rfl clok_3 F (by decide) h47 tw_174 dX4_findPossible_47 ?_
  refine r_iload_n (j := 2) F rfl rfl dX4_findPossible_50 ?_
  replace h := bind_so h
  obtain ⟨a51, h51, h⟩ := h
  refine r_iald F h51 dX4_findPossible_51 ?_
  refine r_icmp_ge (tgt := 110) F (by decide) dX4_findPossible_52 (fun hc => ?_) (fun hc => ?_)
  · replace h := ite_p h hc
    refine r_iinc (j := 3) (ls' := [(3, vI (wI (l3 + 1))), (0, vR l0), (1, vR l1), (2, vI l2), (4, vI l4)]) F rfl (by decide) rfl dX4_findPossible_110 ?_
    refine r_goto (tgt := 31) F (by decide) dX4_findPossible_113 ?_
    refine r_sub [1, 2, 3, 0] (ls' := [(0, vR l0), (1, vR l1), (2, vI l2), (3, vI (wI (l3 + 1)))]) rfl ?_
    exact hk31 h
  · replace h := ite_n h hc
    refine r_aload_n (j := 0) F rfl rfl dX4_findPossible_55 ?_
    replace h := bind_so h
    obtain ⟨a56, h56, h⟩ := h
    refine r_getT (t := 2) rfl clok_4 F (by decide) h56 tw_366 dX4_findPossible_56 ?_
    refine r_iload_n (j := 2) F rfl rfl dX4_findPossible_59 ?_
    refine r_iload_n (j := 3) F rfl rfl dX4_findPossible_60 ?_
    refine r_iload (j := 4) F rfl dX4_findPossible_61 ?_
    replace h := bind_so h
    obtain ⟨_, g63, h⟩ := h
    replace h := bind_so h
    obtain ⟨q63, h63, h⟩ := h
    refine r_callV (as := [vI l2, vI l3, vI l4]) (rv := (some (vI q63.1))) (kc := 0) (nc := 0) (tX6_knownOf h63) clok_6 F (gK_so g63) tw_984 tw_985 tw_986 tw_987 tw_114 ⟨by decide, by decide, show (parseMethodDescriptor yX6_knownOf.desc).map (fun d => d.parameters.length) = some 3 by decide +kernel⟩ ⟨by decide, by decide⟩ (Nat.le_of_ble_eq_true rfl) dX4_findPossible_63 ?_
    refine r_istore (ls' := [(5, vI q63.1), (0, vR l0), (1, vR l1), (2, vI l2), (3, vI l3), (4, vI l4)]) F (by decide) rfl dX4_findPossible_66 ?_
    refine r_iload (j := 0) F rfl dX4_findPossible_68 ?_
    refine r_iconst F rfl dX4_findPossible_70 ?_
    refine r_icmp_eq (tgt := 104) F (by decide) dX4_findPossible_71 (fun hc => ?_) (fun hc => ?_)
    · replace h := ite_p h hc
      refine r_sub [1, 2, 3, 4, 5] (ls' := [(0, vR l0), (1, vR l1), (2, vI l2), (3, vI l3), (4, vI l4)]) rfl ?_
      exact tX4_findPossible_104 (fun h => hk21 h) (fun h => hk31 h) (fun h => hk44 h) F h
    · replace h := ite_n h hc
      refine r_aload_n (j := 1) F rfl rfl dX4_findPossible_74 ?_
      replace h := bind_so h
      obtain ⟨a75, h75, h⟩ := h
      refine r_getT (t := 2) rfl clok_4 F (by decide) h75 tw_373 dX4_findPossible_75 ?_
      refine r_aload_n (j := 2) F rfl rfl dX4_findPossible_78 ?_
      refine r_aload_n (j := 2) F rfl rfl dX4_findPossible_79 ?_
      refine r_iload_n (j := 3) F rfl rfl dX4_findPossible_80 ?_
      refine r_iload_n (j := 4) F rfl rfl dX4_findPossible_81 ?_
      refine r_iload (j := 5) F rfl dX4_findPossible_82 ?_
      replace h := bind_so h
      obtain ⟨_, g84, h⟩ := h
      replace h := bind_so h
      obtain ⟨q84, h84, h⟩ := h
      refine r_callV (as := [vI l2, vI l3, vI l4]) (rv := (some (vI q84.1))) (kc := 0) (nc := 0) (tX3_place h84) clok_3 F (gK_so g84) tw_992 tw_547 tw_548 tw_549 tw_115 ⟨by decide, by decide, show (parseMethodDescriptor yX3_place.desc).map (fun d => d.parameters.length) = some 3 by decide +kernel⟩ ⟨by decide, by decide⟩ (Nat.le_of_ble_eq_true rfl) dX4_findPossible_84 ?_
      replace h := bind_so h
      obtain ⟨_, g87, h⟩ := h
      replace h := bind_so h
      obtain ⟨q87, h87, h⟩ := h
      refine r_callV (as := [vI q84.1]) (rv := (some (vI q87.1))) (kc := 0) (nc := 0) (tX3_bit h87) clok_3 F (gK_so g87) tw_993 tw_555 tw_556 tw_557 tw_115 ⟨by decide, by decide, show (parseMethodDescriptor yX3_bit.desc).map (fun d => d.parameters.length) = some 1 by decide +kernel⟩ ⟨by decide, by decide⟩ (Nat.le_of_ble_eq_true rfl) dX4_findPossible_87 ?_
      refine r_iload (j := 0) F rfl dX4_findPossible_90 ?_
      refine r_iconst F rfl dX4_findPossible_92 ?_
      refine r_icmp_ne (tgt := 100) F (by decide) dX4_findPossible_93 (fun hc => ?_) (fun hc => ?_)
      · replace h := ite_n h hc
        refine r_iconst F rfl dX4_findPossible_100 ?_
        refine r_sub [1, 2, 3, 4, 5] (ls' := [(0, vR l0), (1, vR l1), (2, vI l2), (3, vI l3), (4, vI l4)]) rfl ?_
        exact tX4_findPossible_101 (fun h => hk21 h) (fun h => hk31 h) (fun h => hk44 h) F h
      · replace h := ite_p h hc
        refine r_iconst F rfl dX4_findPossible_96 ?_
        refine r_goto (tgt := 101) F (by decide) dX4_findPossible_97 ?_
        refine r_sub [1, 2, 3, 4, 5] (ls' := [(0, vR l0), (1, vR l1), (2, vI l2), (3, vI l3), (4, vI l4)]) rfl ?_
        exact tX4_findPossible_101 (fun h => hk21 h) (fun h => hk31 h) (fun h => hk44 h) F h
theorem tX4_findPossible_44 {E : En} {p : Program} {l : Launch} {e : Env} {s : State} {m : MethodId} {args : Array Value} {below : List Frame} {meth : Method} {c : Code} {q : Int × Mem} {k21 : Int → Int → Int → Mem → Option (Int × Mem)} {k31 : Int → Int → Int → Int → Mem → Option (Int × Mem)} (hk21 : ∀ {l0 l1 l2 : Int} {M : Mem}, k21 l0 l1 l2 M = some q → G E p l e (rmOf 3 0 0) s m args below meth c 6 (QZ E below args s (rmOf 3 0 0) none q.2) 0 0 M 21 [(0, vR l0), (1, vR l1), (2, vI l2)] []) (hk31 : ∀ {l0 l1 l2 l3 : Int} {M : Mem}, k31 l0 l1 l2 l3 M = some q → G E p l e (rmOf 3 0 0) s m args below meth c 6 (QZ E below args s (rmOf 3 0 0) none q.2) 0 0 M 31 [(0, vR l0), (1, vR l1), (2, vI l2), (3, vI l3)] []) (F : Fx E p s m args meth c cX4_findPossible 6 yX4_findPossible.cls none yX4_findPossible.name) : ∀ {fu : Nat} {l0 l1 l2 l3 l4 : Int} {M : Mem}, mX4_findPossible_44 k21 k31 fu l0 l1 l2 l3 l4 M = some q → G E p l e (rmOf 3 0 0) s m args below meth c 6 (QZ E below args s (rmOf 3 0 0) none q.2) 0 0 M 44 [(0, vR l0), (1, vR l1), (2, vI l2), (3, vI l3), (4, vI l4)] [] := by
  intro fu
  induction fu with
  | zero => intro l0 l1 l2 l3 l4 M h; exact nomatch (show (none : Option (Int × Mem)) = some q from h)
  | succ fu ih => intro l0 l1 l2 l3 l4 M h; exact tbX4_findPossible_44 (fun h => hk21 h) (fun h => hk31 h) (fun h => ih h) F h
theorem tbX4_findPossible_31 {E : En} {p : Program} {l : Launch} {e : Env} {s : State} {m : MethodId} {args : Array Value} {below : List Frame} {meth : Method} {c : Code} {q : Int × Mem} {k21 : Int → Int → Int → Mem → Option (Int × Mem)} (hk21 : ∀ {l0 l1 l2 : Int} {M : Mem}, k21 l0 l1 l2 M = some q → G E p l e (rmOf 3 0 0) s m args below meth c 6 (QZ E below args s (rmOf 3 0 0) none q.2) 0 0 M 21 [(0, vR l0), (1, vR l1), (2, vI l2)] []) {k31 : Int → Int → Int → Int → Mem → Option (Int × Mem)} (hk31 : ∀ {l0 l1 l2 l3 : Int} {M : Mem}, k31 l0 l1 l2 l3 M = some q → G E p l e (rmOf 3 0 0) s m args below meth c 6 (QZ E below args s (rmOf 3 0 0) none q.2) 0 0 M 31 [(0, vR l0), (1, vR l1), (2, vI l2), (3, vI l3)] []) {l0 l1 l2 l3 : Int} {M : Mem} (F : Fx E p s m args meth c cX4_findPossible 6 yX4_findPossible.cls none yX4_findPossible.name) (h : bX4_findPossible_31 k21 k31 l0 l1 l2 l3 M = some q) : G E p l e (rmOf 3 0 0) s m args below meth c 6 (QZ E below args s (rmOf 3 0 0) none q.2) 0 0 M 31 [(0, vR l0), (1, vR l1), (2, vI l2), (3, vI l3)] [] := by
  unfold bX4_findPossible_31 at h
  refine r_iload_n (j := 3) F rfl rfl dX4_findPossible_31 ?_
  refine r_aload_n (j := 1) F rfl rfl dX4_findPossible_32 ?_
  replace h := bind_so h
  obtain ⟨a33, h33, h⟩ := h
  refine r_getT (t := 2) rfl clok_3 F (by decide) h33 tw_171 dX4_findPossible_33 ?_
  refine r_iload_n (j := 2) F rfl rfl dX4_findPossible_36 ?_
  replace h := bind_so h
  obtain ⟨a37, h37, h⟩ := h
  refine r_iald F h37 dX4_findPossible_37 ?_
  refine r_icmp_ge (tgt := 116) F (by decide) dX4_findPossible_38 (fun hc => ?_) (fun hc => ?_)
  · replace h := ite_p h hc
    refine r_iinc (j := 2) (ls' := [(2, vI (wI (l2 + 1))), (0, vR l0), (1, vR l1), (3, vI l3)]) F rfl (by decide) rfl dX4_findPossible_116 ?_
    refine r_goto (tgt := 21) F (by decide) dX4_findPossible_119 ?_
    refine r_sub [1, 2, 0] (ls' := [(0, vR l0), (1, vR l1), (2, vI (wI (l2 + 1)))]) rfl ?_
    exact hk21 h
  · replace h := ite_n h hc
    refine r_iconst F rfl dX4_findPossible_41 ?_
    refine r_istore (ls' := [(4, vI 0), (0, vR l0), (1, vR l1), (2, vI l2), (3, vI l3)]) F (by decide) rfl dX4_findPossible_42 ?_
    refine r_sub [1, 2, 3, 4, 0] (ls' := [(0, vR l0), (1, vR l1), (2, vI l2), (3, vI l3), (4, vI 0)]) rfl ?_
    exact tX4_findPossible_44 (fun h => hk21 h) (fun h => hk31 h) F h
theorem tX4_findPossible_31 {E : En} {p : Program} {l : Launch} {e : Env} {s : State} {m : MethodId} {args : Array Value} {below : List Frame} {meth : Method} {c : Code} {q : Int × Mem} {k21 : Int → Int → Int → Mem → Option (Int × Mem)} (hk21 : ∀ {l0 l1 l2 : Int} {M : Mem}, k21 l0 l1 l2 M = some q → G E p l e (rmOf 3 0 0) s m args below meth c 6 (QZ E below args s (rmOf 3 0 0) none q.2) 0 0 M 21 [(0, vR l0), (1, vR l1), (2, vI l2)] []) (F : Fx E p s m args meth c cX4_findPossible 6 yX4_findPossible.cls none yX4_findPossible.name) : ∀ {fu : Nat} {l0 l1 l2 l3 : Int} {M : Mem}, mX4_findPossible_31 k21 fu l0 l1 l2 l3 M = some q → G E p l e (rmOf 3 0 0) s m args below meth c 6 (QZ E below args s (rmOf 3 0 0) none q.2) 0 0 M 31 [(0, vR l0), (1, vR l1), (2, vI l2), (3, vI l3)] [] := by
  intro fu
  induction fu with
  | zero => intro l0 l1 l2 l3 M h; exact nomatch (show (none : Option (Int × Mem)) = some q from h)
  | succ fu ih => intro l0 l1 l2 l3 M h; exact tbX4_findPossible_31 (fun h => hk21 h) (fun h => ih h) F h
theorem tbX4_findPossible_21 {E : En} {p : Program} {l : Launch} {e : Env} {s : State} {m : MethodId} {args : Array Value} {below : List Frame} {meth : Method} {c : Code} {q : Int × Mem} {k21 : Int → Int → Int → Mem → Option (Int × Mem)} (hk21 : ∀ {l0 l1 l2 : Int} {M : Mem}, k21 l0 l1 l2 M = some q → G E p l e (rmOf 3 0 0) s m args below meth c 6 (QZ E below args s (rmOf 3 0 0) none q.2) 0 0 M 21 [(0, vR l0), (1, vR l1), (2, vI l2)] []) {l0 l1 l2 : Int} {M : Mem} (F : Fx E p s m args meth c cX4_findPossible 6 yX4_findPossible.cls none yX4_findPossible.name) (h : bX4_findPossible_21 k21 l0 l1 l2 M = some q) : G E p l e (rmOf 3 0 0) s m args below meth c 6 (QZ E below args s (rmOf 3 0 0) none q.2) 0 0 M 21 [(0, vR l0), (1, vR l1), (2, vI l2)] [] := by
  unfold bX4_findPossible_21 at h
  refine r_iload_n (j := 2) F rfl rfl dX4_findPossible_21 ?_
  refine r_aload_n (j := 1) F rfl rfl dX4_findPossible_22 ?_
  replace h := bind_so h
  obtain ⟨a23, h23, h⟩ := h
  refine r_getT (t := 0) rfl clok_3 F (by decide) h23 tw_178 dX4_findPossible_23 ?_
  refine r_icmp_ge (tgt := 122) F (by decide) dX4_findPossible_26 (fun hc => ?_) (fun hc => ?_)
  · replace h := ite_p h hc
    obtain rfl := Option.some.inj h
    exact r_vret F dX4_findPossible_122
  · replace h := ite_n h hc
    refine r_iconst F rfl dX4_findPossible_29 ?_
    refine r_istore_n (ls' := [(3, vI 0), (0, vR l0), (1, vR l1), (2, vI l2)]) F rfl (by decide) rfl dX4_findPossible_30 ?_
    refine r_sub [1, 2, 3, 0] (ls' := [(0, vR l0), (1, vR l1), (2, vI l2), (3, vI 0)]) rfl ?_
    exact tX4_findPossible_31 (fun h => hk21 h) F h
theorem tX4_findPossible_21 {E : En} {p : Program} {l : Launch} {e : Env} {s : State} {m : MethodId} {args : Array Value} {below : List Frame} {meth : Method} {c : Code} {q : Int × Mem} (F : Fx E p s m args meth c cX4_findPossible 6 yX4_findPossible.cls none yX4_findPossible.name) : ∀ {fu : Nat} {l0 l1 l2 : Int} {M : Mem}, mX4_findPossible_21 fu l0 l1 l2 M = some q → G E p l e (rmOf 3 0 0) s m args below meth c 6 (QZ E below args s (rmOf 3 0 0) none q.2) 0 0 M 21 [(0, vR l0), (1, vR l1), (2, vI l2)] [] := by
  intro fu
  induction fu with
  | zero => intro l0 l1 l2 M h; exact nomatch (show (none : Option (Int × Mem)) = some q from h)
  | succ fu ih => intro l0 l1 l2 M h; exact tbX4_findPossible_21  (fun h => ih h) F h
theorem tX4_findPossible {l0 : Int} {M : Mem} {q : Int × Mem} (h : mX4_findPossible l0 M = some q) : Ct 3 0 0 yX4_findPossible cX4_findPossible 6 none [vR l0] M none q.2 := by
  unfold mX4_findPossible at h
  refine Ct.of (by decide) (Nat.le_of_ble_eq_true rfl) ?_
  intro E p l e s m args below meth c F
  refine r_sub [0] (ls' := [(0, vR l0)]) rfl ?_
  refine r_aload_n (j := 0) F rfl rfl dX4_findPossible_0 ?_
  replace h := bind_so h
  obtain ⟨a1, h1, h⟩ := h
  refine r_getT (t := 2) rfl clok_4 F (by decide) h1 tw_366 dX4_findPossible_1 ?_
  replace h := bind_so h
  obtain ⟨a4, h4, h⟩ := h
  refine r_getT (t := 2) rfl clok_6 F (by decide) h4 tw_209 dX4_findPossible_4 ?_
  refine r_astore_n (ls' := [(1, vR a4), (0, vR l0)]) F rfl (by decide) rfl dX4_findPossible_7 ?_
  refine r_aload_n (j := 1) F rfl rfl dX4_findPossible_8 ?_
  replace h := bind_so h
  obtain ⟨a9, h9, h⟩ := h
  refine r_getT (t := 2) rfl clok_4 F (by decide) h9 tw_373 dX4_findPossible_9 ?_
  refine r_aload_n (j := 0) F rfl rfl dX4_findPossible_12 ?_
  replace h := bind_so h
  obtain ⟨a13, h13, h⟩ := h
  refine r_getT (t := 0) rfl clok_3 F (by decide) h13 tw_184 dX4_findPossible_13 ?_
  replace h := bind_so h
  obtain ⟨_, g16, h⟩ := h
  replace h := bind_so h
  obtain ⟨q16, h16, h⟩ := h
  refine r_callV (as := [vI a13]) (rv := none) (kc := 0) (nc := 0) (tX7_takeAll h16) clok_7 F (gK_so g16) tw_973 tw_974 tw_975 tw_976 tw_118 ⟨by decide, by decide, show (parseMethodDescriptor yX7_takeAll.desc).map (fun d => d.parameters.length) = some 1 by decide +kernel⟩ ⟨by decide, by decide⟩ (Nat.le_of_ble_eq_true rfl) dX4_findPossible_16 ?_
  refine r_iconst F rfl dX4_findPossible_19 ?_
  refine r_istore_n (ls' := [(2, vI 0), (1, vR a4), (0, vR l0)]) F rfl (by decide) rfl dX4_findPossible_20 ?_
  refine r_sub [2, 1, 0] (ls' := [(0, vR l0), (1, vR a4), (2, vI 0)]) rfl ?_
  exact tX4_findPossible_21 F h
theorem tX7_copy {l0 l1 : Int} {M : Mem} {q : Int × Mem} (h : mX7_copy l0 l1 M = some q) : Ct 1 0 0 yX7_copy cX7_copy 2 none [vR l0, vR l1] M none q.2 := by
  unfold mX7_copy at h
  refine Ct.of (by decide) (Nat.le_of_ble_eq_true rfl) ?_
  intro E p l e s m args below meth c F
  refine r_sub [0, 1] (ls' := [(0, vR l0), (1, vR l1)]) rfl ?_
  refine r_aload_n (j := 0) F rfl rfl dX7_copy_0 ?_
  refine r_aload_n (j := 1) F rfl rfl dX7_copy_1 ?_
  replace h := bind_so h
  obtain ⟨a2, h2, h⟩ := h
  refine r_getT (t := 0) rfl clok_7 F (by decide) h2 tw_328 dX7_copy_2 ?_
  replace h := bind_so h
  obtain ⟨M5, h5, h⟩ := h
  refine r_put clok_7 F (by decide) rfl (by decide) (by decide) h5 tw_328 dX7_copy_5 ?_
  refine r_aload_n (j := 0) F rfl rfl dX7_copy_8 ?_
  refine r_aload_n (j := 1) F rfl rfl dX7_copy_9 ?_
  replace h := bind_so h
  obtain ⟨a10, h10, h⟩ := h
  refine r_getT (t := 0) rfl clok_7 F (by decide) h10 tw_327 dX7_copy_10 ?_
  replace h := bind_so h
  obtain ⟨M13, h13, h⟩ := h
  refine r_put clok_7 F (by decide) rfl (by decide) (by decide) h13 tw_327 dX7_copy_13 ?_
  refine r_aload_n (j := 1) F rfl rfl dX7_copy_16 ?_
  replace h := bind_so h
  obtain ⟨a17, h17, h⟩ := h
  refine r_getT (t := 2) rfl clok_7 F (by decide) h17 tw_325 dX7_copy_17 ?_
  refine r_iconst F rfl dX7_copy_20 ?_
  refine r_aload_n (j := 0) F rfl rfl dX7_copy_21 ?_
  replace h := bind_so h
  obtain ⟨a22, h22, h⟩ := h
  refine r_getT (t := 2) rfl clok_7 F (by decide) h22 tw_325 dX7_copy_22 ?_
  refine r_iconst F rfl dX7_copy_25 ?_
  refine r_aload_n (j := 0) F rfl rfl dX7_copy_26 ?_
  replace h := bind_so h
  obtain ⟨a27, h27, h⟩ := h
  refine r_getT (t := 0) rfl clok_7 F (by decide) h27 tw_327 dX7_copy_27 ?_
  replace h := bind_so h
  obtain ⟨M30, h30, h⟩ := h
  refine r_copyl F h30 tw_1007 tw_931 tw_930 tw_128 ⟨by decide, by decide⟩ (Nat.le_of_ble_eq_true rfl) dX7_copy_30 ?_
  obtain rfl := Option.some.inj h
  exact r_vret F dX7_copy_33
theorem tX6_viewedStories_64 {E : En} {p : Program} {l : Launch} {e : Env} {s : State} {m : MethodId} {args : Array Value} {below : List Frame} {meth : Method} {c : Code} {q : Int × Mem} {k4 : Int → Int → Int → Mem → Option (Int × Mem)} (hk4 : ∀ {l0 l1 l2 : Int} {M : Mem}, k4 l0 l1 l2 M = some q → G E p l e (rmOf 1 0 0) s m args below meth c 4 (QZ E below args s (rmOf 1 0 0) (some (vI q.1)) q.2) 0 0 M 4 [(0, vR l0), (1, vI l1), (2, vI l2)] []) {l0 l1 l2 : Int} {M : Mem} (F : Fx E p s m args meth c cX6_viewedStories 4 yX6_viewedStories.cls (some FieldType.int) yX6_viewedStories.name) (h : mX6_viewedStories_64 k4 l0 l1 l2 M = some q) : G E p l e (rmOf 1 0 0) s m args below meth c 4 (QZ E below args s (rmOf 1 0 0) (some (vI q.1)) q.2) 0 0 M 64 [(0, vR l0), (1, vI l1), (2, vI l2)] [] := by
  unfold mX6_viewedStories_64 at h
  refine r_iinc (j := 2) (ls' := [(2, vI (wI (l2 + 1))), (0, vR l0), (1, vI l1)]) F rfl (by decide) rfl dX6_viewedStories_64 ?_
  refine r_goto (tgt := 4) F (by decide) dX6_viewedStories_67 ?_
  refine r_sub [1, 2, 0] (ls' := [(0, vR l0), (1, vI l1), (2, vI (wI (l2 + 1)))]) rfl ?_
  exact hk4 h
theorem tX6_viewedStories_40 {E : En} {p : Program} {l : Launch} {e : Env} {s : State} {m : MethodId} {args : Array Value} {below : List Frame} {meth : Method} {c : Code} {q : Int × Mem} {k4 : Int → Int → Int → Mem → Option (Int × Mem)} (hk4 : ∀ {l0 l1 l2 : Int} {M : Mem}, k4 l0 l1 l2 M = some q → G E p l e (rmOf 1 0 0) s m args below meth c 4 (QZ E below args s (rmOf 1 0 0) (some (vI q.1)) q.2) 0 0 M 4 [(0, vR l0), (1, vI l1), (2, vI l2)] []) {l0 l1 l2 s0 : Int} {M : Mem} (F : Fx E p s m args meth c cX6_viewedStories 4 yX6_viewedStories.cls (some FieldType.int) yX6_viewedStories.name) (h : mX6_viewedStories_40 k4 l0 l1 l2 s0 M = some q) : G E p l e (rmOf 1 0 0) s m args below meth c 4 (QZ E below args s (rmOf 1 0 0) (some (vI q.1)) q.2) 0 0 M 40 [(0, vR l0), (1, vI l1), (2, vI l2)] [vI s0] := by
  unfold mX6_viewedStories_40 at h
  refine r_istore_n (ls' := [(3, vI s0), (0, vR l0), (1, vI l1), (2, vI l2)]) F rfl (by decide) rfl dX6_viewedStories_40 ?_
  refine r_aload_n (j := 1) F rfl rfl dX6_viewedStories_41 ?_
  replace h := bind_so h
  obtain ⟨a42, h42, h⟩ := h
  refine r_getT (t := 2) rfl clok_6 F (by decide) h42 tw_230 dX6_viewedStories_42 ?_
  refine r_iload_n (j := 3) F rfl rfl dX6_viewedStories_45 ?_
  replace h := bind_so h
  obtain ⟨a46, h46, h⟩ := h
  refine r_iald F h46 dX6_viewedStories_46 ?_
  refine r_aload_n (j := 1) F rfl rfl dX6_viewedStories_47 ?_
  replace h := bind_so h
  obtain ⟨_, g48, h⟩ := h
  replace h := bind_so h
  obtain ⟨q48, h48, h⟩ := h
  refine r_callV (as := []) (rv := (some (vI q48.1))) (kc := 0) (nc := 0) (tX6_viewedDay h48) clok_6 F (gK_so g48) tw_988 tw_990 tw_42 tw_991 tw_114 ⟨by decide, by decide, show (parseMethodDescriptor yX6_viewedDay.desc).map (fun d => d.parameters.length) = some 0 by decide +kernel⟩ ⟨by decide, by decide⟩ (Nat.le_of_ble_eq_true rfl) dX6_viewedStories_48 ?_
  refine r_icmp_gt (tgt := 64) F (by decide) dX6_viewedStories_51 (fun hc => ?_) (fun hc => ?_)
  · replace h := ite_p h hc
    refine r_sub [1, 2, 3] (ls' := [(0, vR l0), (1, vI l1), (2, vI l2)]) rfl ?_
    exact tX6_viewedStories_64 (fun h => hk4 h) F h
  · replace h := ite_n h hc
    refine r_iload_n (j := 0) F rfl rfl dX6_viewedStories_54 ?_
    refine r_if_ne (tgt := 64) F (by decide) dX6_viewedStories_55 (fun hc => ?_) (fun hc => ?_)
    · replace h := ite_n h hc
      refine r_sub [1, 2, 3] (ls' := [(0, vR l0), (1, vI l1), (2, vI l2)]) rfl ?_
      exact tX6_viewedStories_64 (fun h => hk4 h) F h
    · replace h := ite_p h hc
      refine r_iload_n (j := 2) F rfl rfl dX6_viewedStories_58 ?_
      refine r_iconst F rfl dX6_viewedStories_59 ?_
      refine r_iload_n (j := 3) F rfl rfl dX6_viewedStories_60 ?_
      refine r_ishl F dX6_viewedStories_61 ?_
      refine r_ior F dX6_viewedStories_62 ?_
      refine r_istore_n (ls' := [(1, vI (ior l1 (ishl 1 l2))), (3, vI s0), (0, vR l0), (2, vI l2)]) F rfl (by decide) rfl dX6_viewedStories_63 ?_
      refine r_sub [2, 0, 3] (ls' := [(0, vR l0), (1, vI (ior l1 (ishl 1 l2))), (2, vI l2)]) rfl ?_
      exact tX6_viewedStories_64 (fun h => hk4 h) F h
theorem tX6_viewedStories_39 {E : En} {p : Program} {l : Launch} {e : Env} {s : State} {m : MethodId} {args : Array Value} {below : List Frame} {meth : Method} {c : Code} {q : Int × Mem} {k4 : Int → Int → Int → Mem → Option (Int × Mem)} (hk4 : ∀ {l0 l1 l2 : Int} {M : Mem}, k4 l0 l1 l2 M = some q → G E p l e (rmOf 1 0 0) s m args below meth c 4 (QZ E below args s (rmOf 1 0 0) (some (vI q.1)) q.2) 0 0 M 4 [(0, vR l0), (1, vI l1), (2, vI l2)] []) {l0 l1 l2 : Int} {M : Mem} (F : Fx E p s m args meth c cX6_viewedStories 4 yX6_viewedStories.cls (some FieldType.int) yX6_viewedStories.name) (h : mX6_viewedStories_39 k4 l0 l1 l2 M = some q) : G E p l e (rmOf 1 0 0) s m args below meth c 4 (QZ E below args s (rmOf 1 0 0) (some (vI q.1)) q.2) 0 0 M 39 [(0, vR l0), (1, vI l1), (2, vI l2)] [] := by
  unfold mX6_viewedStories_39 at h
  refine r_iconst F rfl dX6_viewedStories_39 ?_
  refine r_sub [0, 1, 2] (ls' := [(0, vR l0), (1, vI l1), (2, vI l2)]) rfl ?_
  exact tX6_viewedStories_40 (fun h => hk4 h) F h
theorem tbX6_viewedStories_4 {E : En} {p : Program} {l : Launch} {e : Env} {s : State} {m : MethodId} {args : Array Value} {below : List Frame} {meth : Method} {c : Code} {q : Int × Mem} {k4 : Int → Int → Int → Mem → Option (Int × Mem)} (hk4 : ∀ {l0 l1 l2 : Int} {M : Mem}, k4 l0 l1 l2 M = some q → G E p l e (rmOf 1 0 0) s m args below meth c 4 (QZ E below args s (rmOf 1 0 0) (some (vI q.1)) q.2) 0 0 M 4 [(0, vR l0), (1, vI l1), (2, vI l2)] []) {l0 l1 l2 : Int} {M : Mem} (F : Fx E p s m args meth c cX6_viewedStories 4 yX6_viewedStories.cls (some FieldType.int) yX6_viewedStories.name) (h : bX6_viewedStories_4 k4 l0 l1 l2 M = some q) : G E p l e (rmOf 1 0 0) s m args below meth c 4 (QZ E below args s (rmOf 1 0 0) (some (vI q.1)) q.2) 0 0 M 4 [(0, vR l0), (1, vI l1), (2, vI l2)] [] := by
  unfold bX6_viewedStories_4 at h
  refine r_iload_n (j := 2) F rfl rfl dX6_viewedStories_4 ?_
  refine r_aload_n (j := 0) F rfl rfl dX6_viewedStories_5 ?_
  replace h := bind_so h
  obtain ⟨a6, h6, h⟩ := h
  refine r_getT (t := 0) rfl clok_6 F (by decide) h6 tw_233 dX6_viewedStories_6 ?_
  refine r_icmp_ge (tgt := 70) F (by decide) dX6_viewedStories_9 (fun hc => ?_) (fun hc => ?_)
  · replace h := ite_p h hc
    refine r_iload_n (j := 1) F rfl rfl dX6_viewedStories_70 ?_
    obtain rfl := Option.some.inj h
    exact r_iret F dX6_viewedStories_71
  · replace h := ite_n h hc
    refine r_aload_n (j := 0) F rfl rfl dX6_viewedStories_12 ?_
    replace h := bind_so h
    obtain ⟨a13, h13, h⟩ := h
    refine r_getT (t := 2) rfl clok_6 F (by decide) h13 tw_231 dX6_viewedStories_13 ?_
    refine r_iload_n (j := 2) F rfl rfl dX6_viewedStories_16 ?_
    replace h := bind_so h
    obtain ⟨a17, h17, h⟩ := h
    refine r_iald F h17 dX6_viewedStories_17 ?_
    refine r_iconst F rfl dX6_viewedStories_18 ?_
    refine r_icmp_eq (tgt := 39) F (by decide) dX6_viewedStories_19 (fun hc => ?_) (fun hc => ?_)
    · replace h := ite_p h hc
      refine r_sub [0, 1, 2] (ls' := [(0, vR l0), (1, vI l1), (2, vI l2)]) rfl ?_
      exact tX6_viewedStories_39 (fun h => hk4 h) F h
    · replace h := ite_n h hc
      refine r_aload_n (j := 0) F rfl rfl dX6_viewedStories_22 ?_
      replace h := bind_so h
      obtain ⟨a23, h23, h⟩ := h
      refine r_getT (t := 2) rfl clok_6 F (by decide) h23 tw_231 dX6_viewedStories_23 ?_
      refine r_iload_n (j := 2) F rfl rfl dX6_viewedStories_26 ?_
      replace h := bind_so h
      obtain ⟨a27, h27, h⟩ := h
      refine r_iald F h27 dX6_viewedStories_27 ?_
      refine r_aload_n (j := 0) F rfl rfl dX6_viewedStories_28 ?_
      replace h := bind_so h
      obtain ⟨_, g29, h⟩ := h
      replace h := bind_so h
      obtain ⟨q29, h29, h⟩ := h
      refine r_callV (as := []) (rv := (some (vI q29.1))) (kc := 0) (nc := 0) (tX6_viewedDay h29) clok_6 F (gK_so g29) tw_988 tw_990 tw_42 tw_991 tw_114 ⟨by decide, by decide, show (parseMethodDescriptor yX6_viewedDay.desc).map (fun d => d.parameters.length) = some 0 by decide +kernel⟩ ⟨by decide, by decide⟩ (Nat.le_of_ble_eq_true rfl) dX6_viewedStories_29 ?_
      refine r_icmp_gt (tgt := 39) F (by decide) dX6_viewedStories_32 (fun hc => ?_) (fun hc => ?_)
      · replace h := ite_p h hc
        refine r_sub [0, 1, 2] (ls' := [(0, vR l0), (1, vI l1), (2, vI l2)]) rfl ?_
        exact tX6_viewedStories_39 (fun h => hk4 h) F h
      · replace h := ite_n h hc
        refine r_iconst F rfl dX6_viewedStories_35 ?_
        refine r_goto (tgt := 40) F (by decide) dX6_viewedStories_36 ?_
        refine r_sub [0, 1, 2] (ls' := [(0, vR l0), (1, vI l1), (2, vI l2)]) rfl ?_
        exact tX6_viewedStories_40 (fun h => hk4 h) F h
theorem tX6_viewedStories_4 {E : En} {p : Program} {l : Launch} {e : Env} {s : State} {m : MethodId} {args : Array Value} {below : List Frame} {meth : Method} {c : Code} {q : Int × Mem} (F : Fx E p s m args meth c cX6_viewedStories 4 yX6_viewedStories.cls (some FieldType.int) yX6_viewedStories.name) : ∀ {fu : Nat} {l0 l1 l2 : Int} {M : Mem}, mX6_viewedStories_4 fu l0 l1 l2 M = some q → G E p l e (rmOf 1 0 0) s m args below meth c 4 (QZ E below args s (rmOf 1 0 0) (some (vI q.1)) q.2) 0 0 M 4 [(0, vR l0), (1, vI l1), (2, vI l2)] [] := by
  intro fu
  induction fu with
  | zero => intro l0 l1 l2 M h; exact nomatch (show (none : Option (Int × Mem)) = some q from h)
  | succ fu ih => intro l0 l1 l2 M h; exact tbX6_viewedStories_4  (fun h => ih h) F h
theorem tX6_viewedStories {l0 : Int} {M : Mem} {q : Int × Mem} (h : mX6_viewedStories l0 M = some q) : Ct 1 0 0 yX6_viewedStories cX6_viewedStories 4 (some FieldType.int) [vR l0] M (some (vI q.1)) q.2 := by
  unfold mX6_viewedStories at h
  refine Ct.of (by decide) (Nat.le_of_ble_eq_true rfl) ?_
  intro E p l e s m args below meth c F
  refine r_sub [0] (ls' := [(0, vR l0)]) rfl ?_
  refine r_iconst F rfl dX6_viewedStories_0 ?_
  refine r_istore_n (ls' := [(1, vI 0), (0, vR l0)]) F rfl (by decide) rfl dX6_viewedStories_1 ?_
  refine r_iconst F rfl dX6_viewedStories_2 ?_
  refine r_istore_n (ls' := [(2, vI 0), (1, vI 0), (0, vR l0)]) F rfl (by decide) rfl dX6_viewedStories_3 ?_
  refine r_sub [2, 1, 0] (ls' := [(0, vR l0), (1, vI 0), (2, vI 0)]) rfl ?_
  exact tX6_viewedStories_4 F h
theorem tX7_usedWords {l0 : Int} {M : Mem} {q : Int × Mem} (h : mX7_usedWords l0 M = some q) : Ct 0 0 0 yX7_usedWords cX7_usedWords 1 (some FieldType.int) [vR l0] M (some (vI q.1)) q.2 := by
  unfold mX7_usedWords at h
  refine Ct.of (by decide) (Nat.le_of_ble_eq_true rfl) ?_
  intro E p l e s m args below meth c F
  refine r_sub [0] (ls' := [(0, vR l0)]) rfl ?_
  refine r_aload_n (j := 0) F rfl rfl dX7_usedWords_0 ?_
  replace h := bind_so h
  obtain ⟨a1, h1, h⟩ := h
  refine r_getT (t := 0) rfl clok_7 F (by decide) h1 tw_327 dX7_usedWords_1 ?_
  obtain rfl := Option.some.inj h
  exact r_iret F dX7_usedWords_4
theorem tX4_truth_90 {E : En} {p : Program} {l : Launch} {e : Env} {s : State} {m : MethodId} {args : Array Value} {below : List Frame} {meth : Method} {c : Code} {q : Int × Mem} {l3 : Int} {M : Mem} (F : Fx E p s m args meth c cX4_truth 5 yX4_truth.cls (some (FieldType.object "VillageStories$WorldSet")) yX4_truth.name) (h : mX4_truth_90 l3 M = some q) : G E p l e (rmOf 100 0 0) s m args below meth c 5 (QZ E below args s (rmOf 100 0 0) (some (vR q.1)) q.2) 0 0 M 90 [(3, vR l3)] [] := by
  unfold mX4_truth_90 at h
  refine r_aload_n (j := 0) F rfl rfl dX4_truth_90 ?_
  obtain rfl := Option.some.inj h
  exact r_aret (Or.inl ⟨_, rfl⟩) F dX4_truth_91
theorem tbX4_truth_39 {E : En} {p : Program} {l : Launch} {e : Env} {s : State} {m : MethodId} {args : Array Value} {below : List Frame} {meth : Method} {c : Code} {q : Int × Mem} {k39 : Int → Int → Int → Int → Int → Mem → Option (Int × Mem)} (hk39 : ∀ {l0 l1 l2 l3 l4 : Int} {M : Mem}, k39 l0 l1 l2 l3 l4 M = some q → G E p l e (rmOf 100 0 0) s m args below meth c 5 (QZ E below args s (rmOf 100 0 0) (some (vR q.1)) q.2) 0 0 M 39 [(0, vR l0), (1, vI l1), (2, vR l2), (3, vR l3), (4, vI l4)] []) {l0 l1 l2 l3 l4 : Int} {M : Mem} (F : Fx E p s m args meth c cX4_truth 5 yX4_truth.cls (some (FieldType.object "VillageStories$WorldSet")) yX4_truth.name) (h : bX4_truth_39 k39 l0 l1 l2 l3 l4 M = some q) : G E p l e (rmOf 100 0 0) s m args below meth c 5 (QZ E below args s (rmOf 100 0 0) (some (vR q.1)) q.2) 0 0 M 39 [(0, vR l0), (1, vI l1), (2, vR l2), (3, vR l3), (4, vI l4)] [] := by
  unfold bX4_truth_39 at h
  refine r_iload (j := 4) F rfl dX4_truth_39 ?_
  refine r_aload_n (j := 3) F rfl rfl dX4_truth_41 ?_
  replace h := bind_so h
  obtain ⟨_, g42, h⟩ := h
  replace h := bind_so h
  obtain ⟨q42, h42, h⟩ := h
  refine r_callV (as := []) (rv := (some (vI q42.1))) (kc := 0) (nc := 0) (tX7_usedWords h42) clok_7 F (gK_so g42) tw_1017 tw_1018 tw_1019 tw_1020 tw_118 ⟨by decide, by decide, show (parseMethodDescriptor yX7_usedWords.desc).map (fun d => d.parameters.length) = some 0 by decide +kernel⟩ ⟨by decide, by decide⟩ (Nat.le_of_ble_eq_true rfl) dX4_truth_42 ?_
  refine r_icmp_ge (tgt := 78) F (by decide) dX4_truth_45 (fun hc => ?_) (fun hc => ?_)
  · replace h := ite_p h hc
    refine r_aload_n (j := 0) F rfl rfl dX4_truth_78 ?_
    refine r_dup1 F rfl dX4_truth_79 ?_
    replace h := bind_so h
    obtain ⟨a80, h80, h⟩ := h
    refine r_getT (t := 0) rfl clok_4 F (by decide) h80 tw_372 dX4_truth_80 ?_
    refine r_iconst F rfl dX4_truth_83 ?_
    refine r_iload_n (j := 1) F rfl rfl dX4_truth_84 ?_
    refine r_ishl F dX4_truth_85 ?_
    refine r_ior F dX4_truth_86 ?_
    replace h := bind_so h
    obtain ⟨M87, h87, h⟩ := h
    refine r_put clok_4 F (by decide) rfl (by decide) (by decide) h87 tw_372 dX4_truth_87 ?_
    refine r_sub [3] (ls' := [(3, vR l3)]) rfl ?_
    exact tX4_truth_90 F h
  · replace h := ite_n h hc
    refine r_aload_n (j := 3) F rfl rfl dX4_truth_48 ?_
    replace h := bind_so h
    obtain ⟨a49, h49, h⟩ := h
    refine r_getT (t := 2) rfl clok_7 F (by decide) h49 tw_326 dX4_truth_49 ?_
    refine r_iload (j := 4) F rfl dX4_truth_52 ?_
    refine r_aload_n (j := 0) F rfl rfl dX4_truth_54 ?_
    replace h := bind_so h
    obtain ⟨a55, h55, h⟩ := h
    refine r_getT (t := 2) rfl clok_4 F (by decide) h55 tw_368 dX4_truth_55 ?_
    refine r_aload_n (j := 0) F rfl rfl dX4_truth_58 ?_
    replace h := bind_so h
    obtain ⟨a59, h59, h⟩ := h
    refine r_getT (t := 2) rfl clok_4 F (by decide) h59 tw_366 dX4_truth_59 ?_
    replace h := bind_so h
    obtain ⟨a62, h62, h⟩ := h
    refine r_getT (t := 2) rfl clok_6 F (by decide) h62 tw_209 dX4_truth_62 ?_
    refine r_aload_n (j := 2) F rfl rfl dX4_truth_65 ?_
    refine r_iload (j := 4) F rfl dX4_truth_66 ?_
    replace h := bind_so h
    obtain ⟨_, g68, h⟩ := h
    replace h := bind_so h
    obtain ⟨q68, h68, h⟩ := h
    refine r_callV (as := [vR a62, vR l2, vI l4]) (rv := (some (vL q68.1))) (kc := 0) (nc := 0) (tX0_soInWord h68) clok_0 F (gK_so g68) tw_1021 tw_1022 tw_1023 tw_1024 tw_116 ⟨by decide, by decide, show (parseMethodDescriptor yX0_soInWord.desc).map (fun d => d.parameters.length) = some 3 by decide +kernel⟩ ⟨by decide, by decide⟩ (Nat.le_of_ble_eq_true rfl) dX4_truth_68 ?_
    replace h := bind_so h
    obtain ⟨M71, h71, h⟩ := h
    refine r_last F h71 dX4_truth_71 ?_
    refine r_iinc (j := 4) (ls' := [(4, vI (wI (l4 + 1))), (0, vR l0), (1, vI l1), (2, vR l2), (3, vR l3)]) F rfl (by decide) rfl dX4_truth_72 ?_
    refine r_goto (tgt := 39) F (by decide) dX4_truth_75 ?_
    refine r_sub [1, 2, 3, 4, 0] (ls' := [(0, vR l0), (1, vI l1), (2, vR l2), (3, vR l3), (4, vI (wI (l4 + 1)))]) rfl ?_
    exact hk39 h
theorem tX4_truth_39 {E : En} {p : Program} {l : Launch} {e : Env} {s : State} {m : MethodId} {args : Array Value} {below : List Frame} {meth : Method} {c : Code} {q : Int × Mem} (F : Fx E p s m args meth c cX4_truth 5 yX4_truth.cls (some (FieldType.object "VillageStories$WorldSet")) yX4_truth.name) : ∀ {fu : Nat} {l0 l1 l2 l3 l4 : Int} {M : Mem}, mX4_truth_39 fu l0 l1 l2 l3 l4 M = some q → G E p l e (rmOf 100 0 0) s m args below meth c 5 (QZ E below args s (rmOf 100 0 0) (some (vR q.1)) q.2) 0 0 M 39 [(0, vR l0), (1, vI l1), (2, vR l2), (3, vR l3), (4, vI l4)] [] := by
  intro fu
  induction fu with
  | zero => intro l0 l1 l2 l3 l4 M h; exact nomatch (show (none : Option (Int × Mem)) = some q from h)
  | succ fu ih => intro l0 l1 l2 l3 l4 M h; exact tbX4_truth_39  (fun h => ih h) F h
theorem tX4_truth {l0 l1 l2 : Int} {M : Mem} {q : Int × Mem} (h : mX4_truth l0 l1 l2 M = some q) : Ct 100 0 0 yX4_truth cX4_truth 5 (some (FieldType.object "VillageStories$WorldSet")) [vR l0, vI l1, vR l2] M (some (vR q.1)) q.2 := by
  unfold mX4_truth at h
  refine Ct.of (by decide) (Nat.le_of_ble_eq_true rfl) ?_
  intro E p l e s m args below meth c F
  refine r_sub [0, 1, 2] (ls' := [(0, vR l0), (1, vI l1), (2, vR l2)]) rfl ?_
  refine r_aload_n (j := 0) F rfl rfl dX4_truth_0 ?_
  replace h := bind_so h
  obtain ⟨a1, h1, h⟩ := h
  refine r_getT (t := 2) rfl clok_4 F (by decide) h1 tw_371 dX4_truth_1 ?_
  refine r_iload_n (j := 1) F rfl rfl dX4_truth_4 ?_
  replace h := bind_so h
  obtain ⟨a5, h5, h⟩ := h
  refine r_aald16 F h5 dX4_truth_5 ?_
  refine r_astore_n (ls' := [(3, vR a5), (0, vR l0), (1, vI l1), (2, vR l2)]) F rfl (by decide) rfl dX4_truth_6 ?_
  refine r_aload_n (j := 3) F rfl rfl dX4_truth_7 ?_
  refine r_ifnull (tgt := 90) F (by decide) dX4_truth_8 (fun hc => ?_) (fun hc => ?_)
  · replace h := ite_p h hc
    refine r_sub [0] (ls' := [(3, vR a5)]) rfl ?_
    exact tX4_truth_90 F h
  · replace h := ite_n h hc
    refine r_aload_n (j := 1) F rfl rfl dX4_truth_11 ?_
    replace h := bind_so h
    obtain ⟨a12, h12, h⟩ := h
    refine r_getT (t := 0) rfl clok_4 F (by decide) h12 tw_372 dX4_truth_12 ?_
    refine r_iload_n (j := 2) F rfl rfl dX4_truth_15 ?_
    refine r_ishr F dX4_truth_16 ?_
    refine r_iconst F rfl dX4_truth_17 ?_
    refine r_iand F dX4_truth_18 ?_
    refine r_if_ne (tgt := 90) F (by decide) dX4_truth_19 (fun hc => ?_) (fun hc => ?_)
    · replace h := ite_n h hc
      refine r_sub [0] (ls' := [(3, vR a5)]) rfl ?_
      exact tX4_truth_90 F h
    · replace h := ite_p h hc
      refine r_aload_n (j := 0) F rfl rfl dX4_truth_22 ?_
      refine r_aload_n (j := 1) F rfl rfl dX4_truth_23 ?_
      replace h := bind_so h
      obtain ⟨a24, h24, h⟩ := h
      refine r_getT (t := 2) rfl clok_4 F (by decide) h24 tw_366 dX4_truth_24 ?_
      replace h := bind_so h
      obtain ⟨a27, h27, h⟩ := h
      refine r_getT (t := 2) rfl clok_6 F (by decide) h27 tw_209 dX4_truth_27 ?_
      replace h := bind_so h
      obtain ⟨a30, h30, h⟩ := h
      refine r_getT (t := 0) rfl clok_3 F (by decide) h30 tw_184 dX4_truth_30 ?_
      replace h := bind_so h
      obtain ⟨_, g33, h⟩ := h
      replace h := bind_so h
      obtain ⟨q33, h33, h⟩ := h
      refine r_callV (as := [vI a30]) (rv := none) (kc := 0) (nc := 0) (tX7_takeNone h33) clok_7 F (gK_so g33) tw_1016 tw_978 tw_979 tw_980 tw_118 ⟨by decide, by decide, show (parseMethodDescriptor yX7_takeNone.desc).map (fun d => d.parameters.length) = some 1 by decide +kernel⟩ ⟨by decide, by decide⟩ (Nat.le_of_ble_eq_true rfl) dX4_truth_33 ?_
      refine r_iconst F rfl dX4_truth_36 ?_
      refine r_istore (ls' := [(4, vI 0), (3, vR a5), (0, vR l0), (1, vI l1), (2, vR l2)]) F (by decide) rfl dX4_truth_37 ?_
      refine r_sub [2, 3, 4, 1, 0] (ls' := [(0, vR l0), (1, vI l1), (2, vR l2), (3, vR a5), (4, vI 0)]) rfl ?_
      exact tX4_truth_39 F h
theorem tbX7_keepOnly_2 {E : En} {p : Program} {l : Launch} {e : Env} {s : State} {m : MethodId} {args : Array Value} {below : List Frame} {meth : Method} {c : Code} {q : Int × Mem} {k2 : Int → Int → Int → Mem → Option (Int × Mem)} (hk2 : ∀ {l0 l1 l2 : Int} {M : Mem}, k2 l0 l1 l2 M = some q → G E p l e (rmOf 0 0 0) s m args below meth c 3 (QZ E below args s (rmOf 0 0 0) none q.2) 0 0 M 2 [(0, vR l0), (1, vR l1), (2, vI l2)] []) {l0 l1 l2 : Int} {M : Mem} (F : Fx E p s m args meth c cX7_keepOnly 3 yX7_keepOnly.cls none yX7_keepOnly.name) (h : bX7_keepOnly_2 k2 l0 l1 l2 M = some q) : G E p l e (rmOf 0 0 0) s m args below meth c 3 (QZ E below args s (rmOf 0 0 0) none q.2) 0 0 M 2 [(0, vR l0), (1, vR l1), (2, vI l2)] [] := by
  unfold bX7_keepOnly_2 at h
  refine r_iload_n (j := 2) F rfl rfl dX7_keepOnly_2 ?_
  refine r_aload_n (j := 0) F rfl rfl dX7_keepOnly_3 ?_
  replace h := bind_so h
  obtain ⟨a4, h4, h⟩ := h
  refine r_getT (t := 0) rfl clok_7 F (by decide) h4 tw_327 dX7_keepOnly_4 ?_
  refine r_icmp_ge (tgt := 31) F (by decide) dX7_keepOnly_7 (fun hc => ?_) (fun hc => ?_)
  · replace h := ite_p h hc
    obtain rfl := Option.some.inj h
    exact r_vret F dX7_keepOnly_31
  · replace h := ite_n h hc
    refine r_aload_n (j := 0) F rfl rfl dX7_keepOnly_10 ?_
    replace h := bind_so h
    obtain ⟨a11, h11, h⟩ := h
    refine r_getT (t := 2) rfl clok_7 F (by decide) h11 tw_325 dX7_keepOnly_11 ?_
    refine r_iload_n (j := 2) F rfl rfl dX7_keepOnly_14 ?_
    refine r_dup2 F rfl rfl dX7_keepOnly_15 ?_
    replace h := bind_so h
    obtain ⟨a16, h16, h⟩ := h
    refine r_lald F h16 dX7_keepOnly_16 ?_
    refine r_aload_n (j := 1) F rfl rfl dX7_keepOnly_17 ?_
    replace h := bind_so h
    obtain ⟨a18, h18, h⟩ := h
    refine r_getT (t := 2) rfl clok_7 F (by decide) h18 tw_325 dX7_keepOnly_18 ?_
    refine r_iload_n (j := 2) F rfl rfl dX7_keepOnly_21 ?_
    replace h := bind_so h
    obtain ⟨a22, h22, h⟩ := h
    refine r_lald F h22 dX7_keepOnly_22 ?_
    refine r_land F dX7_keepOnly_23 ?_
    replace h := bind_so h
    obtain ⟨M24, h24, h⟩ := h
    refine r_last F h24 dX7_keepOnly_24 ?_
    refine r_iinc (j := 2) (ls' := [(2, vI (wI (l2 + 1))), (0, vR l0), (1, vR l1)]) F rfl (by decide) rfl dX7_keepOnly_25 ?_
    refine r_goto (tgt := 2) F (by decide) dX7_keepOnly_28 ?_
    refine r_sub [1, 2, 0] (ls' := [(0, vR l0), (1, vR l1), (2, vI (wI (l2 + 1)))]) rfl ?_
    exact hk2 h
theorem tX7_keepOnly_2 {E : En} {p : Program} {l : Launch} {e : Env} {s : State} {m : MethodId} {args : Array Value} {below : List Frame} {meth : Method} {c : Code} {q : Int × Mem} (F : Fx E p s m args meth c cX7_keepOnly 3 yX7_keepOnly.cls none yX7_keepOnly.name) : ∀ {fu : Nat} {l0 l1 l2 : Int} {M : Mem}, mX7_keepOnly_2 fu l0 l1 l2 M = some q → G E p l e (rmOf 0 0 0) s m args below meth c 3 (QZ E below args s (rmOf 0 0 0) none q.2) 0 0 M 2 [(0, vR l0), (1, vR l1), (2, vI l2)] [] := by
  intro fu
  induction fu with
  | zero => intro l0 l1 l2 M h; exact nomatch (show (none : Option (Int × Mem)) = some q from h)
  | succ fu ih => intro l0 l1 l2 M h; exact tbX7_keepOnly_2  (fun h => ih h) F h
theorem tX7_keepOnly {l0 l1 : Int} {M : Mem} {q : Int × Mem} (h : mX7_keepOnly l0 l1 M = some q) : Ct 0 0 0 yX7_keepOnly cX7_keepOnly 3 none [vR l0, vR l1] M none q.2 := by
  unfold mX7_keepOnly at h
  refine Ct.of (by decide) (Nat.le_of_ble_eq_true rfl) ?_
  intro E p l e s m args below meth c F
  refine r_sub [0, 1] (ls' := [(0, vR l0), (1, vR l1)]) rfl ?_
  refine r_iconst F rfl dX7_keepOnly_0 ?_
  refine r_istore_n (ls' := [(2, vI 0), (0, vR l0), (1, vR l1)]) F rfl (by decide) rfl dX7_keepOnly_1 ?_
  refine r_sub [1, 2, 0] (ls' := [(0, vR l0), (1, vR l1), (2, vI 0)]) rfl ?_
  exact tX7_keepOnly_2 F h
theorem tX4_lookUp_69 {E : En} {p : Program} {l : Launch} {e : Env} {s : State} {m : MethodId} {args : Array Value} {below : List Frame} {meth : Method} {c : Code} {q : Int × Mem} {k34 : Int → Int → Int → Mem → Option (Int × Mem)} (hk34 : ∀ {l0 l1 l2 : Int} {M : Mem}, k34 l0 l1 l2 M = some q → G E p l e (rmOf 101 0 0) s m args below meth c 3 (QZ E below args s (rmOf 101 0 0) (some (vI q.1)) q.2) 0 0 M 34 [(0, vR l0), (1, vI l1), (2, vI l2)] []) {l0 l1 l2 : Int} {M : Mem} (F : Fx E p s m args meth c cX4_lookUp 3 yX4_lookUp.cls (some FieldType.boolean) yX4_lookUp.name) (h : mX4_lookUp_69 k34 l0 l1 l2 M = some q) : G E p l e (rmOf 101 0 0) s m args below meth c 3 (QZ E below args s (rmOf 101 0 0) (some (vI q.1)) q.2) 0 0 M 69 [(0, vR l0), (1, vI l1), (2, vI l2)] [] := by
  unfold mX4_lookUp_69 at h
  refine r_iinc (j := 2) (ls' := [(2, vI (wI (l2 + 1))), (0, vR l0), (1, vI l1)]) F rfl (by decide) rfl dX4_lookUp_69 ?_
  refine r_goto (tgt := 34) F (by decide) dX4_lookUp_72 ?_
  refine r_sub [1, 2, 0] (ls' := [(0, vR l0), (1, vI l1), (2, vI (wI (l2 + 1)))]) rfl ?_
  exact hk34 h
theorem tbX4_lookUp_34 {E : En} {p : Program} {l : Launch} {e : Env} {s : State} {m : MethodId} {args : Array Value} {below : List Frame} {meth : Method} {c : Code} {q : Int × Mem} {k34 : Int → Int → Int → Mem → Option (Int × Mem)} (hk34 : ∀ {l0 l1 l2 : Int} {M : Mem}, k34 l0 l1 l2 M = some q → G E p l e (rmOf 101 0 0) s m args below meth c 3 (QZ E below args s (rmOf 101 0 0) (some (vI q.1)) q.2) 0 0 M 34 [(0, vR l0), (1, vI l1), (2, vI l2)] []) {l0 l1 l2 : Int} {M : Mem} (F : Fx E p s m args meth c cX4_lookUp 3 yX4_lookUp.cls (some FieldType.boolean) yX4_lookUp.name) (h : bX4_lookUp_34 k34 l0 l1 l2 M = some q) : G E p l e (rmOf 101 0 0) s m args below meth c 3 (QZ E below args s (rmOf 101 0 0) (some (vI q.1)) q.2) 0 0 M 34 [(0, vR l0), (1, vI l1), (2, vI l2)] [] := by
  unfold bX4_lookUp_34 at h
  refine r_iload_n (j := 2) F rfl rfl dX4_lookUp_34 ?_
  refine r_bipush F rfl (by decide) dX4_lookUp_35 ?_
  refine r_icmp_ge (tgt := 75) F (by decide) dX4_lookUp_37 (fun hc => ?_) (fun hc => ?_)
  · replace h := ite_p h hc
    refine r_iconst F rfl dX4_lookUp_75 ?_
    obtain rfl := Option.some.inj h
    exact r_zret (Or.inr rfl) F dX4_lookUp_76
  · replace h := ite_n h hc
    refine r_iload_n (j := 1) F rfl rfl dX4_lookUp_40 ?_
    refine r_iload_n (j := 2) F rfl rfl dX4_lookUp_41 ?_
    refine r_ishr F dX4_lookUp_42 ?_
    refine r_iconst F rfl dX4_lookUp_43 ?_
    refine r_iand F dX4_lookUp_44 ?_
    refine r_if_eq (tgt := 69) F (by decide) dX4_lookUp_45 (fun hc => ?_) (fun hc => ?_)
    · replace h := ite_p h hc
      refine r_sub [0, 1, 2] (ls' := [(0, vR l0), (1, vI l1), (2, vI l2)]) rfl ?_
      exact tX4_lookUp_69 (fun h => hk34 h) F h
    · replace h := ite_n h hc
      refine r_aload_n (j := 0) F rfl rfl dX4_lookUp_48 ?_
      replace h := bind_so h
      obtain ⟨a49, h49, h⟩ := h
      refine r_getT (t := 2) rfl clok_4 F (by decide) h49 tw_374 dX4_lookUp_49 ?_
      refine r_aload_n (j := 0) F rfl rfl dX4_lookUp_52 ?_
      refine r_iload_n (j := 2) F rfl rfl dX4_lookUp_53 ?_
      refine r_aload_n (j := 0) F rfl rfl dX4_lookUp_54 ?_
      replace h := bind_so h
      obtain ⟨a55, h55, h⟩ := h
      refine r_getT (t := 2) rfl clok_4 F (by decide) h55 tw_366 dX4_lookUp_55 ?_
      replace h := bind_so h
      obtain ⟨a58, h58, h⟩ := h
      refine r_getT (t := 2) rfl clok_6 F (by decide) h58 tw_229 dX4_lookUp_58 ?_
      refine r_iload_n (j := 2) F rfl rfl dX4_lookUp_61 ?_
      replace h := bind_so h
      obtain ⟨a62, h62, h⟩ := h
      refine r_aald14 F h62 dX4_lookUp_62 ?_
      replace h := bind_so h
      obtain ⟨_, g63, h⟩ := h
      replace h := bind_so h
      obtain ⟨q63, h63, h⟩ := h
      refine r_callV (as := [vI l2, vR a62]) (rv := (some (vR q63.1))) (kc := 0) (nc := 0) (tX4_truth h63) clok_4 F (gK_so g63) tw_1012 tw_1014 tw_43 tw_1015 tw_113 ⟨by decide, by decide, show (parseMethodDescriptor yX4_truth.desc).map (fun d => d.parameters.length) = some 2 by decide +kernel⟩ ⟨by decide, by decide⟩ (Nat.le_of_ble_eq_true rfl) dX4_lookUp_63 ?_
      replace h := bind_so h
      obtain ⟨_, g66, h⟩ := h
      replace h := bind_so h
      obtain ⟨q66, h66, h⟩ := h
      refine r_callV (as := [vR q63.1]) (rv := none) (kc := 0) (nc := 0) (tX7_keepOnly h66) clok_7 F (gK_so g66) tw_1026 tw_1027 tw_1028 tw_1029 tw_118 ⟨by decide, by decide, show (parseMethodDescriptor yX7_keepOnly.desc).map (fun d => d.parameters.length) = some 1 by decide +kernel⟩ ⟨by decide, by decide⟩ (Nat.le_of_ble_eq_true rfl) dX4_lookUp_66 ?_
      refine r_sub [0, 1, 2] (ls' := [(0, vR l0), (1, vI l1), (2, vI l2)]) rfl ?_
      exact tX4_lookUp_69 (fun h => hk34 h) F h
theorem tX4_lookUp_34 {E : En} {p : Program} {l : Launch} {e : Env} {s : State} {m : MethodId} {args : Array Value} {below : List Frame} {meth : Method} {c : Code} {q : Int × Mem} (F : Fx E p s m args meth c cX4_lookUp 3 yX4_lookUp.cls (some FieldType.boolean) yX4_lookUp.name) : ∀ {fu : Nat} {l0 l1 l2 : Int} {M : Mem}, mX4_lookUp_34 fu l0 l1 l2 M = some q → G E p l e (rmOf 101 0 0) s m args below meth c 3 (QZ E below args s (rmOf 101 0 0) (some (vI q.1)) q.2) 0 0 M 34 [(0, vR l0), (1, vI l1), (2, vI l2)] [] := by
  intro fu
  induction fu with
  | zero => intro l0 l1 l2 M h; exact nomatch (show (none : Option (Int × Mem)) = some q from h)
  | succ fu ih => intro l0 l1 l2 M h; exact tbX4_lookUp_34  (fun h => ih h) F h
theorem tX4_lookUp {l0 : Int} {M : Mem} {q : Int × Mem} (h : mX4_lookUp l0 M = some q) : Ct 101 0 0 yX4_lookUp cX4_lookUp 3 (some FieldType.boolean) [vR l0] M (some (vI q.1)) q.2 := by
  unfold mX4_lookUp at h
  refine Ct.of (by decide) (Nat.le_of_ble_eq_true rfl) ?_
  intro E p l e s m args below meth c F
  refine r_sub [0] (ls' := [(0, vR l0)]) rfl ?_
  refine r_aload_n (j := 0) F rfl rfl dX4_lookUp_0 ?_
  replace h := bind_so h
  obtain ⟨_, g1, h⟩ := h
  replace h := bind_so h
  obtain ⟨q1, h1, h⟩ := h
  refine r_callV (as := []) (rv := (some (vI q1.1))) (kc := 0) (nc := 0) (tX4_canTell h1) clok_4 F (gK_so g1) tw_591 tw_593 tw_1 tw_594 tw_113 ⟨by decide, by decide, show (parseMethodDescriptor yX4_canTell.desc).map (fun d => d.parameters.length) = some 0 by decide +kernel⟩ ⟨by decide, by decide⟩ (Nat.le_of_ble_eq_true rfl) dX4_lookUp_1 ?_
  refine r_if_ne (tgt := 9) F (by decide) dX4_lookUp_4 (fun hc => ?_) (fun hc => ?_)
  · replace h := ite_n h hc
    refine r_aload_n (j := 0) F rfl rfl dX4_lookUp_9 ?_
    replace h := bind_so h
    obtain ⟨_, g10, h⟩ := h
    replace h := bind_so h
    obtain ⟨q10, h10, h⟩ := h
    refine r_callV (as := []) (rv := none) (kc := 0) (nc := 0) (tX4_findPossible h10) clok_4 F (gK_so g10) tw_969 tw_971 tw_41 tw_972 tw_113 ⟨by decide, by decide, show (parseMethodDescriptor yX4_findPossible.desc).map (fun d => d.parameters.length) = some 0 by decide +kernel⟩ ⟨by decide, by decide⟩ (Nat.le_of_ble_eq_true rfl) dX4_lookUp_10 ?_
    refine r_aload_n (j := 0) F rfl rfl dX4_lookUp_13 ?_
    replace h := bind_so h
    obtain ⟨a14, h14, h⟩ := h
    refine r_getT (t := 2) rfl clok_4 F (by decide) h14 tw_374 dX4_lookUp_14 ?_
    refine r_aload_n (j := 0) F rfl rfl dX4_lookUp_17 ?_
    replace h := bind_so h
    obtain ⟨a18, h18, h⟩ := h
    refine r_getT (t := 2) rfl clok_4 F (by decide) h18 tw_373 dX4_lookUp_18 ?_
    replace h := bind_so h
    obtain ⟨_, g21, h⟩ := h
    replace h := bind_so h
    obtain ⟨q21, h21, h⟩ := h
    refine r_callV (as := [vR a18]) (rv := none) (kc := 0) (nc := 0) (tX7_copy h21) clok_7 F (gK_so g21) tw_1003 tw_1004 tw_1005 tw_1006 tw_118 ⟨by decide, by decide, show (parseMethodDescriptor yX7_copy.desc).map (fun d => d.parameters.length) = some 1 by decide +kernel⟩ ⟨by decide, by decide⟩ (Nat.le_of_ble_eq_true rfl) dX4_lookUp_21 ?_
    refine r_aload_n (j := 0) F rfl rfl dX4_lookUp_24 ?_
    replace h := bind_so h
    obtain ⟨a25, h25, h⟩ := h
    refine r_getT (t := 2) rfl clok_4 F (by decide) h25 tw_366 dX4_lookUp_25 ?_
    replace h := bind_so h
    obtain ⟨_, g28, h⟩ := h
    replace h := bind_so h
    obtain ⟨q28, h28, h⟩ := h
    refine r_callV (as := []) (rv := (some (vI q28.1))) (kc := 0) (nc := 0) (tX6_viewedStories h28) clok_6 F (gK_so g28) tw_1008 tw_1009 tw_1010 tw_1011 tw_114 ⟨by decide, by decide, show (parseMethodDescriptor yX6_viewedStories.desc).map (fun d => d.parameters.length) = some 0 by decide +kernel⟩ ⟨by decide, by decide⟩ (Nat.le_of_ble_eq_true rfl) dX4_lookUp_28 ?_
    refine r_istore_n (ls' := [(1, vI q28.1), (0, vR l0)]) F rfl (by decide) rfl dX4_lookUp_31 ?_
    refine r_iconst F rfl dX4_lookUp_32 ?_
    refine r_istore_n (ls' := [(2, vI 0), (1, vI q28.1), (0, vR l0)]) F rfl (by decide) rfl dX4_lookUp_33 ?_
    refine r_sub [2, 1, 0] (ls' := [(0, vR l0), (1, vI q28.1), (2, vI 0)]) rfl ?_
    exact tX4_lookUp_34 F h
  · replace h := ite_p h hc
    refine r_iconst F rfl dX4_lookUp_7 ?_
    obtain rfl := Option.some.inj h
    exact r_zret (Or.inl rfl) F dX4_lookUp_8
theorem tJ13_bitCount_95d88 {l0 : Int} {M : Mem} {q : Int × Mem} (h : mJ13_bitCount_95d88 l0 M = some q) : Ct 0 0 0 yJ13_bitCount_95d88 cJ13_bitCount_95d88 2 (some FieldType.int) [vL l0] M (some (vI q.1)) q.2 := by
  unfold mJ13_bitCount_95d88 at h
  refine Ct.of (by decide) (Nat.le_of_ble_eq_true rfl) ?_
  intro E p l e s m args below meth c F
  refine r_sub [0] (ls' := [(0, vL l0)]) rfl ?_
  refine r_lload_n (j := 0) F rfl rfl dJ13_bitCount_95d88_0 ?_
  refine r_lload_n (j := 0) F rfl rfl dJ13_bitCount_95d88_1 ?_
  refine r_iconst F rfl dJ13_bitCount_95d88_2 ?_
  refine r_lushr F dJ13_bitCount_95d88_3 ?_
  refine r_ldc2v (x := 6148914691236517205) F (by unfold InL; omega) (by decide) tw_1037 dJ13_bitCount_95d88_4 ?_
  refine r_land F dJ13_bitCount_95d88_7 ?_
  refine r_lsub F dJ13_bitCount_95d88_8 ?_
  replace h := bind_so h
  obtain ⟨b9, e9, h⟩ := h
  refine r_eq (y := b9) (Option.some.inj e9) ?_
  refine r_lstore_n (ls' := [(0, vL b9)]) F rfl (by decide) rfl dJ13_bitCount_95d88_9 ?_
  refine r_lload_n (j := 0) F rfl rfl dJ13_bitCount_95d88_10 ?_
  refine r_ldc2v (x := 3689348814741910323) F (by unfold InL; omega) (by decide) tw_1038 dJ13_bitCount_95d88_11 ?_
  refine r_land F dJ13_bitCount_95d88_14 ?_
  refine r_lload_n (j := 0) F rfl rfl dJ13_bitCount_95d88_15 ?_
  refine r_iconst F rfl dJ13_bitCount_95d88_16 ?_
  refine r_lushr F dJ13_bitCount_95d88_17 ?_
  refine r_ldc2v (x := 3689348814741910323) F (by unfold InL; omega) (by decide) tw_1038 dJ13_bitCount_95d88_18 ?_
  refine r_land F dJ13_bitCount_95d88_21 ?_
  refine r_ladd F dJ13_bitCount_95d88_22 ?_
  replace h := bind_so h
  obtain ⟨b23, e23, h⟩ := h
  refine r_eq (y := b23) (Option.some.inj e23) ?_
  refine r_lstore_n (ls' := [(0, vL b23)]) F rfl (by decide) rfl dJ13_bitCount_95d88_23 ?_
  refine r_lload_n (j := 0) F rfl rfl dJ13_bitCount_95d88_24 ?_
  refine r_lload_n (j := 0) F rfl rfl dJ13_bitCount_95d88_25 ?_
  refine r_iconst F rfl dJ13_bitCount_95d88_26 ?_
  refine r_lushr F dJ13_bitCount_95d88_27 ?_
  refine r_ladd F dJ13_bitCount_95d88_28 ?_
  refine r_ldc2v (x := 1085102592571150095) F (by unfold InL; omega) (by decide) tw_1039 dJ13_bitCount_95d88_29 ?_
  refine r_land F dJ13_bitCount_95d88_32 ?_
  replace h := bind_so h
  obtain ⟨b33, e33, h⟩ := h
  refine r_eq (y := b33) (Option.some.inj e33) ?_
  refine r_lstore_n (ls' := [(0, vL b33)]) F rfl (by decide) rfl dJ13_bitCount_95d88_33 ?_
  refine r_lload_n (j := 0) F rfl rfl dJ13_bitCount_95d88_34 ?_
  refine r_lload_n (j := 0) F rfl rfl dJ13_bitCount_95d88_35 ?_
  refine r_bipush F rfl (by decide) dJ13_bitCount_95d88_36 ?_
  refine r_lushr F dJ13_bitCount_95d88_38 ?_
  refine r_ladd F dJ13_bitCount_95d88_39 ?_
  refine r_lstore_n (ls' := [(0, vL (wL (b33 + (lus b33 8))))]) F rfl (by decide) rfl dJ13_bitCount_95d88_40 ?_
  refine r_lload_n (j := 0) F rfl rfl dJ13_bitCount_95d88_41 ?_
  refine r_lload_n (j := 0) F rfl rfl dJ13_bitCount_95d88_42 ?_
  refine r_bipush F rfl (by decide) dJ13_bitCount_95d88_43 ?_
  refine r_lushr F dJ13_bitCount_95d88_45 ?_
  refine r_ladd F dJ13_bitCount_95d88_46 ?_
  replace h := bind_so h
  obtain ⟨b47, e47, h⟩ := h
  refine r_eq (y := b47) (Option.some.inj e47) ?_
  refine r_lstore_n (ls' := [(0, vL b47)]) F rfl (by decide) rfl dJ13_bitCount_95d88_47 ?_
  refine r_lload_n (j := 0) F rfl rfl dJ13_bitCount_95d88_48 ?_
  refine r_lload_n (j := 0) F rfl rfl dJ13_bitCount_95d88_49 ?_
  refine r_bipush F rfl (by decide) dJ13_bitCount_95d88_50 ?_
  refine r_lushr F dJ13_bitCount_95d88_52 ?_
  refine r_ladd F dJ13_bitCount_95d88_53 ?_
  replace h := bind_so h
  obtain ⟨b54, e54, h⟩ := h
  refine r_eq (y := b54) (Option.some.inj e54) ?_
  refine r_lstore_n (ls' := [(0, vL b54)]) F rfl (by decide) rfl dJ13_bitCount_95d88_54 ?_
  refine r_lload_n (j := 0) F rfl rfl dJ13_bitCount_95d88_55 ?_
  refine r_l2i F dJ13_bitCount_95d88_56 ?_
  refine r_bipush F rfl (by decide) dJ13_bitCount_95d88_57 ?_
  refine r_iand F dJ13_bitCount_95d88_59 ?_
  obtain rfl := Option.some.inj h
  exact r_iret F dJ13_bitCount_95d88_60
theorem tbX7_count_4 {E : En} {p : Program} {l : Launch} {e : Env} {s : State} {m : MethodId} {args : Array Value} {below : List Frame} {meth : Method} {c : Code} {q : Int × Mem} {k4 : Int → Int → Int → Mem → Option (Int × Mem)} (hk4 : ∀ {l0 l1 l2 : Int} {M : Mem}, k4 l0 l1 l2 M = some q → G E p l e (rmOf 1 0 0) s m args below meth c 3 (QZ E below args s (rmOf 1 0 0) (some (vI q.1)) q.2) 0 0 M 4 [(0, vR l0), (1, vI l1), (2, vI l2)] []) {l0 l1 l2 : Int} {M : Mem} (F : Fx E p s m args meth c cX7_count 3 yX7_count.cls (some FieldType.int) yX7_count.name) (h : bX7_count_4 k4 l0 l1 l2 M = some q) : G E p l e (rmOf 1 0 0) s m args below meth c 3 (QZ E below args s (rmOf 1 0 0) (some (vI q.1)) q.2) 0 0 M 4 [(0, vR l0), (1, vI l1), (2, vI l2)] [] := by
  unfold bX7_count_4 at h
  refine r_iload_n (j := 2) F rfl rfl dX7_count_4 ?_
  refine r_aload_n (j := 0) F rfl rfl dX7_count_5 ?_
  replace h := bind_so h
  obtain ⟨a6, h6, h⟩ := h
  refine r_getT (t := 0) rfl clok_7 F (by decide) h6 tw_327 dX7_count_6 ?_
  refine r_icmp_ge (tgt := 30) F (by decide) dX7_count_9 (fun hc => ?_) (fun hc => ?_)
  · replace h := ite_p h hc
    refine r_iload_n (j := 1) F rfl rfl dX7_count_30 ?_
    obtain rfl := Option.some.inj h
    exact r_iret F dX7_count_31
  · replace h := ite_n h hc
    refine r_iload_n (j := 1) F rfl rfl dX7_count_12 ?_
    refine r_aload_n (j := 0) F rfl rfl dX7_count_13 ?_
    replace h := bind_so h
    obtain ⟨a14, h14, h⟩ := h
    refine r_getT (t := 2) rfl clok_7 F (by decide) h14 tw_325 dX7_count_14 ?_
    refine r_iload_n (j := 2) F rfl rfl dX7_count_17 ?_
    replace h := bind_so h
    obtain ⟨a18, h18, h⟩ := h
    refine r_lald F h18 dX7_count_18 ?_
    replace h := bind_so h
    obtain ⟨q19, h19, h⟩ := h
    refine r_callS (as := [vL a18]) (rv := (some (vI q19.1))) (kc := 0) (nc := 0) (tJ13_bitCount_95d88 h19) F tw_1034 tw_1035 tw_1036 tw_129 ⟨by decide, by decide, show (parseMethodDescriptor yJ13_bitCount_95d88.desc).map (fun d => d.parameters.length) = some 1 by decide +kernel⟩ ⟨by decide, by decide⟩ (Nat.le_of_ble_eq_true rfl) dX7_count_19 ?_
    refine r_iadd F dX7_count_22 ?_
    refine r_istore_n (ls' := [(1, vI (wI (l1 + q19.1))), (0, vR l0), (2, vI l2)]) F rfl (by decide) rfl dX7_count_23 ?_
    refine r_iinc (j := 2) (ls' := [(2, vI (wI (l2 + 1))), (1, vI (wI (l1 + q19.1))), (0, vR l0)]) F rfl (by decide) rfl dX7_count_24 ?_
    refine r_goto (tgt := 4) F (by decide) dX7_count_27 ?_
    refine r_sub [2, 1, 0] (ls' := [(0, vR l0), (1, vI (wI (l1 + q19.1))), (2, vI (wI (l2 + 1)))]) rfl ?_
    exact hk4 h
theorem tX7_count_4 {E : En} {p : Program} {l : Launch} {e : Env} {s : State} {m : MethodId} {args : Array Value} {below : List Frame} {meth : Method} {c : Code} {q : Int × Mem} (F : Fx E p s m args meth c cX7_count 3 yX7_count.cls (some FieldType.int) yX7_count.name) : ∀ {fu : Nat} {l0 l1 l2 : Int} {M : Mem}, mX7_count_4 fu l0 l1 l2 M = some q → G E p l e (rmOf 1 0 0) s m args below meth c 3 (QZ E below args s (rmOf 1 0 0) (some (vI q.1)) q.2) 0 0 M 4 [(0, vR l0), (1, vI l1), (2, vI l2)] [] := by
  intro fu
  induction fu with
  | zero => intro l0 l1 l2 M h; exact nomatch (show (none : Option (Int × Mem)) = some q from h)
  | succ fu ih => intro l0 l1 l2 M h; exact tbX7_count_4  (fun h => ih h) F h
theorem tX7_count {l0 : Int} {M : Mem} {q : Int × Mem} (h : mX7_count l0 M = some q) : Ct 1 0 0 yX7_count cX7_count 3 (some FieldType.int) [vR l0] M (some (vI q.1)) q.2 := by
  unfold mX7_count at h
  refine Ct.of (by decide) (Nat.le_of_ble_eq_true rfl) ?_
  intro E p l e s m args below meth c F
  refine r_sub [0] (ls' := [(0, vR l0)]) rfl ?_
  refine r_iconst F rfl dX7_count_0 ?_
  refine r_istore_n (ls' := [(1, vI 0), (0, vR l0)]) F rfl (by decide) rfl dX7_count_1 ?_
  refine r_iconst F rfl dX7_count_2 ?_
  refine r_istore_n (ls' := [(2, vI 0), (1, vI 0), (0, vR l0)]) F rfl (by decide) rfl dX7_count_3 ?_
  refine r_sub [2, 1, 0] (ls' := [(0, vR l0), (1, vI 0), (2, vI 0)]) rfl ?_
  exact tX7_count_4 F h
theorem tX4_countWorlds {l0 : Int} {M : Mem} {q : Int × Mem} (h : mX4_countWorlds l0 M = some q) : Ct 102 0 0 yX4_countWorlds cX4_countWorlds 1 (some FieldType.int) [vR l0] M (some (vI q.1)) q.2 := by
  unfold mX4_countWorlds at h
  refine Ct.of (by decide) (Nat.le_of_ble_eq_true rfl) ?_
  intro E p l e s m args below meth c F
  refine r_sub [0] (ls' := [(0, vR l0)]) rfl ?_
  refine r_aload_n (j := 0) F rfl rfl dX4_countWorlds_0 ?_
  replace h := bind_so h
  obtain ⟨_, g1, h⟩ := h
  replace h := bind_so h
  obtain ⟨q1, h1, h⟩ := h
  refine r_callV (as := []) (rv := (some (vI q1.1))) (kc := 0) (nc := 0) (tX4_lookUp h1) clok_4 F (gK_so g1) tw_965 tw_967 tw_40 tw_968 tw_113 ⟨by decide, by decide, show (parseMethodDescriptor yX4_lookUp.desc).map (fun d => d.parameters.length) = some 0 by decide +kernel⟩ ⟨by decide, by decide⟩ (Nat.le_of_ble_eq_true rfl) dX4_countWorlds_1 ?_
  refine r_if_eq (tgt := 17) F (by decide) dX4_countWorlds_4 (fun hc => ?_) (fun hc => ?_)
  · replace h := ite_p h hc
    refine r_iconst F rfl dX4_countWorlds_17 ?_
    obtain rfl := Option.some.inj h
    exact r_iret F dX4_countWorlds_18
  · replace h := ite_n h hc
    refine r_aload_n (j := 0) F rfl rfl dX4_countWorlds_7 ?_
    replace h := bind_so h
    obtain ⟨a8, h8, h⟩ := h
    refine r_getT (t := 2) rfl clok_4 F (by decide) h8 tw_374 dX4_countWorlds_8 ?_
    replace h := bind_so h
    obtain ⟨_, g11, h⟩ := h
    replace h := bind_so h
    obtain ⟨q11, h11, h⟩ := h
    refine r_callV (as := []) (rv := (some (vI q11.1))) (kc := 0) (nc := 0) (tX7_count h11) clok_7 F (gK_so g11) tw_1030 tw_1031 tw_1032 tw_1033 tw_118 ⟨by decide, by decide, show (parseMethodDescriptor yX7_count.desc).map (fun d => d.parameters.length) = some 0 by decide +kernel⟩ ⟨by decide, by decide⟩ (Nat.le_of_ble_eq_true rfl) dX4_countWorlds_11 ?_
    refine r_goto (tgt := 18) F (by decide) dX4_countWorlds_14 ?_
    obtain rfl := Option.some.inj h
    exact r_iret F dX4_countWorlds_18
theorem tX4_pickForms {l0 : Int} {M : Mem} {q : Int × Mem} (h : mX4_pickForms l0 M = some q) : Ct 4 0 0 yX4_pickForms cX4_pickForms 1 none [vR l0] M none q.2 := by
  unfold mX4_pickForms at h
  refine Ct.of (by decide) (Nat.le_of_ble_eq_true rfl) ?_
  intro E p l e s m args below meth c F
  refine r_sub [0] (ls' := [(0, vR l0)]) rfl ?_
  refine r_aload_n (j := 0) F rfl rfl dX4_pickForms_0 ?_
  replace h := bind_so h
  obtain ⟨a1, h1, h⟩ := h
  refine r_getT (t := 2) rfl clok_4 F (by decide) h1 tw_375 dX4_pickForms_1 ?_
  refine r_aload_n (j := 0) F rfl rfl dX4_pickForms_4 ?_
  replace h := bind_so h
  obtain ⟨a5, h5, h⟩ := h
  refine r_getT (t := 2) rfl clok_4 F (by decide) h5 tw_374 dX4_pickForms_5 ?_
  replace h := bind_so h
  obtain ⟨_, g8, h⟩ := h
  replace h := bind_so h
  obtain ⟨q8, h8, h⟩ := h
  refine r_callV (as := [vR a5]) (rv := none) (kc := 0) (nc := 0) (tX7_copy h8) clok_7 F (gK_so g8) tw_1003 tw_1004 tw_1005 tw_1006 tw_118 ⟨by decide, by decide, show (parseMethodDescriptor yX7_copy.desc).map (fun d => d.parameters.length) = some 1 by decide +kernel⟩ ⟨by decide, by decide⟩ (Nat.le_of_ble_eq_true rfl) dX4_pickForms_8 ?_
  refine r_aload_n (j := 0) F rfl rfl dX4_pickForms_11 ?_
  replace h := bind_so h
  obtain ⟨a12, h12, h⟩ := h
  refine r_getT (t := 2) rfl clok_4 F (by decide) h12 tw_375 dX4_pickForms_12 ?_
  refine r_aload_n (j := 0) F rfl rfl dX4_pickForms_15 ?_
  replace h := bind_so h
  obtain ⟨a16, h16, h⟩ := h
  refine r_getT (t := 2) rfl clok_4 F (by decide) h16 tw_370 dX4_pickForms_16 ?_
  refine r_aload_n (j := 0) F rfl rfl dX4_pickForms_19 ?_
  replace h := bind_so h
  obtain ⟨a20, h20, h⟩ := h
  refine r_getT (t := 2) rfl clok_4 F (by decide) h20 tw_366 dX4_pickForms_20 ?_
  replace h := bind_so h
  obtain ⟨a23, h23, h⟩ := h
  refine r_getT (t := 2) rfl clok_6 F (by decide) h23 tw_209 dX4_pickForms_23 ?_
  replace h := bind_so h
  obtain ⟨_, g26, h⟩ := h
  replace h := bind_so h
  obtain ⟨q26, h26, h⟩ := h
  refine r_callV (as := [vR a23]) (rv := (some (vR q26.1))) (kc := 0) (nc := 0) (tX1_leastOnes h26) clok_1 F (gK_so g26) tw_1052 tw_1053 tw_1054 tw_1055 tw_117 ⟨by decide, by decide, show (parseMethodDescriptor yX1_leastOnes.desc).map (fun d => d.parameters.length) = some 1 by decide +kernel⟩ ⟨by decide, by decide⟩ (Nat.le_of_ble_eq_true rfl) dX4_pickForms_26 ?_
  replace h := bind_so h
  obtain ⟨_, g29, h⟩ := h
  replace h := bind_so h
  obtain ⟨q29, h29, h⟩ := h
  refine r_callV (as := [vR q26.1]) (rv := none) (kc := 0) (nc := 0) (tX7_keepOnly h29) clok_7 F (gK_so g29) tw_1026 tw_1027 tw_1028 tw_1029 tw_118 ⟨by decide, by decide, show (parseMethodDescriptor yX7_keepOnly.desc).map (fun d => d.parameters.length) = some 1 by decide +kernel⟩ ⟨by decide, by decide⟩ (Nat.le_of_ble_eq_true rfl) dX4_pickForms_29 ?_
  obtain rfl := Option.some.inj h
  exact r_vret F dX4_pickForms_32
theorem tX4_countForms {l0 : Int} {M : Mem} {q : Int × Mem} (h : mX4_countForms l0 M = some q) : Ct 102 0 0 yX4_countForms cX4_countForms 1 (some FieldType.int) [vR l0] M (some (vI q.1)) q.2 := by
  unfold mX4_countForms at h
  refine Ct.of (by decide) (Nat.le_of_ble_eq_true rfl) ?_
  intro E p l e s m args below meth c F
  refine r_sub [0] (ls' := [(0, vR l0)]) rfl ?_
  refine r_aload_n (j := 0) F rfl rfl dX4_countForms_0 ?_
  replace h := bind_so h
  obtain ⟨_, g1, h⟩ := h
  replace h := bind_so h
  obtain ⟨q1, h1, h⟩ := h
  refine r_callV (as := []) (rv := (some (vI q1.1))) (kc := 0) (nc := 0) (tX4_lookUp h1) clok_4 F (gK_so g1) tw_965 tw_967 tw_40 tw_968 tw_113 ⟨by decide, by decide, show (parseMethodDescriptor yX4_lookUp.desc).map (fun d => d.parameters.length) = some 0 by decide +kernel⟩ ⟨by decide, by decide⟩ (Nat.le_of_ble_eq_true rfl) dX4_countForms_1 ?_
  refine r_if_ne (tgt := 9) F (by decide) dX4_countForms_4 (fun hc => ?_) (fun hc => ?_)
  · replace h := ite_n h hc
    refine r_aload_n (j := 0) F rfl rfl dX4_countForms_9 ?_
    replace h := bind_so h
    obtain ⟨_, g10, h⟩ := h
    replace h := bind_so h
    obtain ⟨q10, h10, h⟩ := h
    refine r_callV (as := []) (rv := none) (kc := 0) (nc := 0) (tX4_pickForms h10) clok_4 F (gK_so g10) tw_1048 tw_1050 tw_44 tw_1051 tw_113 ⟨by decide, by decide, show (parseMethodDescriptor yX4_pickForms.desc).map (fun d => d.parameters.length) = some 0 by decide +kernel⟩ ⟨by decide, by decide⟩ (Nat.le_of_ble_eq_true rfl) dX4_countForms_10 ?_
    refine r_aload_n (j := 0) F rfl rfl dX4_countForms_13 ?_
    replace h := bind_so h
    obtain ⟨a14, h14, h⟩ := h
    refine r_getT (t := 2) rfl clok_4 F (by decide) h14 tw_375 dX4_countForms_14 ?_
    replace h := bind_so h
    obtain ⟨_, g17, h⟩ := h
    replace h := bind_so h
    obtain ⟨q17, h17, h⟩ := h
    refine r_callV (as := []) (rv := (some (vI q17.1))) (kc := 0) (nc := 0) (tX7_count h17) clok_7 F (gK_so g17) tw_1030 tw_1031 tw_1032 tw_1033 tw_118 ⟨by decide, by decide, show (parseMethodDescriptor yX7_count.desc).map (fun d => d.parameters.length) = some 0 by decide +kernel⟩ ⟨by decide, by decide⟩ (Nat.le_of_ble_eq_true rfl) dX4_countForms_17 ?_
    obtain rfl := Option.some.inj h
    exact r_iret F dX4_countForms_20
  · replace h := ite_p h hc
    refine r_iconst F rfl dX4_countForms_7 ?_
    obtain rfl := Option.some.inj h
    exact r_iret F dX4_countForms_8
theorem tX7_nth_33 {E : En} {p : Program} {l : Launch} {e : Env} {s : State} {m : MethodId} {args : Array Value} {below : List Frame} {meth : Method} {c : Code} {q : Int × Mem} {k4 : Int → Int → Int → Mem → Option (Int × Mem)} (hk4 : ∀ {l0 l2 l3 : Int} {M : Mem}, k4 l0 l2 l3 M = some q → G E p l e (rmOf 2 0 0) s m args below meth c 4 (QZ E below args s (rmOf 2 0 0) (some (vI q.1)) q.2) 0 0 M 4 [(0, vR l0), (2, vI l2), (3, vI l3)] []) {l0 l2 l3 : Int} {M : Mem} (F : Fx E p s m args meth c cX7_nth 4 yX7_nth.cls (some FieldType.int) yX7_nth.name) (h : mX7_nth_33 k4 l0 l2 l3 M = some q) : G E p l e (rmOf 2 0 0) s m args below meth c 4 (QZ E below args s (rmOf 2 0 0) (some (vI q.1)) q.2) 0 0 M 33 [(0, vR l0), (2, vI l2), (3, vI l3)] [] := by
  unfold mX7_nth_33 at h
  refine r_iinc (j := 2) (ls' := [(3, vI (wI (l3 + 1))), (0, vR l0), (2, vI l2)]) F rfl (by decide) rfl dX7_nth_33 ?_
  refine r_goto (tgt := 4) F (by decide) dX7_nth_36 ?_
  refine r_sub [1, 2, 0] (ls' := [(0, vR l0), (2, vI l2), (3, vI (wI (l3 + 1)))]) rfl ?_
  exact hk4 h
theorem tbX7_nth_4 {E : En} {p : Program} {l : Launch} {e : Env} {s : State} {m : MethodId} {args : Array Value} {below : List Frame} {meth : Method} {c : Code} {q : Int × Mem} {k4 : Int → Int → Int → Mem → Option (Int × Mem)} (hk4 : ∀ {l0 l2 l3 : Int} {M : Mem}, k4 l0 l2 l3 M = some q → G E p l e (rmOf 2 0 0) s m args below meth c 4 (QZ E below args s (rmOf 2 0 0) (some (vI q.1)) q.2) 0 0 M 4 [(0, vR l0), (2, vI l2), (3, vI l3)] []) {l0 l2 l3 : Int} {M : Mem} (F : Fx E p s m args meth c cX7_nth 4 yX7_nth.cls (some FieldType.int) yX7_nth.name) (h : bX7_nth_4 k4 l0 l2 l3 M = some q) : G E p l e (rmOf 2 0 0) s m args below meth c 4 (QZ E below args s (rmOf 2 0 0) (some (vI q.1)) q.2) 0 0 M 4 [(0, vR l0), (2, vI l2), (3, vI l3)] [] := by
  unfold bX7_nth_4 at h
  refine r_iload_n (j := 2) F rfl rfl dX7_nth_4 ?_
  refine r_aload_n (j := 0) F rfl rfl dX7_nth_5 ?_
  replace h := bind_so h
  obtain ⟨_, g6, h⟩ := h
  replace h := bind_so h
  obtain ⟨q6, h6, h⟩ := h
  refine r_callV (as := []) (rv := (some (vI q6.1))) (kc := 0) (nc := 0) (tX7_most h6) clok_7 F (gK_so g6) tw_1069 tw_1062 tw_1063 tw_1064 tw_118 ⟨by decide, by decide, show (parseMethodDescriptor yX7_most.desc).map (fun d => d.parameters.length) = some 0 by decide +kernel⟩ ⟨by decide, by decide⟩ (Nat.le_of_ble_eq_true rfl) dX7_nth_6 ?_
  refine r_icmp_ge (tgt := 39) F (by decide) dX7_nth_9 (fun hc => ?_) (fun hc => ?_)
  · replace h := ite_p h hc
    refine r_iconst F rfl dX7_nth_39 ?_
    obtain rfl := Option.some.inj h
    exact r_iret F dX7_nth_40
  · replace h := ite_n h hc
    refine r_iload_n (j := 1) F rfl rfl dX7_nth_12 ?_
    refine r_if_lt (tgt := 39) F (by decide) dX7_nth_13 (fun hc => ?_) (fun hc => ?_)
    · replace h := ite_p h hc
      refine r_iconst F rfl dX7_nth_39 ?_
      obtain rfl := Option.some.inj h
      exact r_iret F dX7_nth_40
    · replace h := ite_n h hc
      refine r_aload_n (j := 0) F rfl rfl dX7_nth_16 ?_
      refine r_iload_n (j := 2) F rfl rfl dX7_nth_17 ?_
      replace h := bind_so h
      obtain ⟨_, g18, h⟩ := h
      replace h := bind_so h
      obtain ⟨q18, h18, h⟩ := h
      refine r_callV (as := [vI l3]) (rv := (some (vI q18.1))) (kc := 0) (nc := 0) (tX7_has h18) clok_7 F (gK_so g18) tw_1086 tw_1066 tw_1067 tw_1068 tw_118 ⟨by decide, by decide, show (parseMethodDescriptor yX7_has.desc).map (fun d => d.parameters.length) = some 1 by decide +kernel⟩ ⟨by decide, by decide⟩ (Nat.le_of_ble_eq_true rfl) dX7_nth_18 ?_
      refine r_if_eq (tgt := 33) F (by decide) dX7_nth_21 (fun hc => ?_) (fun hc => ?_)
      · replace h := ite_p h hc
        refine r_sub [0, 1, 2] (ls' := [(0, vR l0), (2, vI l2), (3, vI l3)]) rfl ?_
        exact tX7_nth_33 (fun h => hk4 h) F h
      · replace h := ite_n h hc
        refine r_iload_n (j := 1) F rfl rfl dX7_nth_24 ?_
        refine r_if_ne (tgt := 30) F (by decide) dX7_nth_25 (fun hc => ?_) (fun hc => ?_)
        · replace h := ite_n h hc
          refine r_iinc (j := 1) (ls' := [(2, vI (wI (l2 + (-1)))), (0, vR l0), (3, vI l3)]) F rfl (by decide) rfl dX7_nth_30 ?_
          refine r_sub [1, 0, 2] (ls' := [(0, vR l0), (2, vI (wI (l2 + (-1)))), (3, vI l3)]) rfl ?_
          exact tX7_nth_33 (fun h => hk4 h) F h
        · replace h := ite_p h hc
          refine r_iload_n (j := 2) F rfl rfl dX7_nth_28 ?_
          obtain rfl := Option.some.inj h
          exact r_iret F dX7_nth_29
theorem tX7_nth_4 {E : En} {p : Program} {l : Launch} {e : Env} {s : State} {m : MethodId} {args : Array Value} {below : List Frame} {meth : Method} {c : Code} {q : Int × Mem} (F : Fx E p s m args meth c cX7_nth 4 yX7_nth.cls (some FieldType.int) yX7_nth.name) : ∀ {fu : Nat} {l0 l2 l3 : Int} {M : Mem}, mX7_nth_4 fu l0 l2 l3 M = some q → G E p l e (rmOf 2 0 0) s m args below meth c 4 (QZ E below args s (rmOf 2 0 0) (some (vI q.1)) q.2) 0 0 M 4 [(0, vR l0), (2, vI l2), (3, vI l3)] [] := by
  intro fu
  induction fu with
  | zero => intro l0 l2 l3 M h; exact nomatch (show (none : Option (Int × Mem)) = some q from h)
  | succ fu ih => intro l0 l2 l3 M h; exact tbX7_nth_4  (fun h => ih h) F h
theorem tX7_nth {l0 l1 : Int} {M : Mem} {q : Int × Mem} (h : mX7_nth l0 l1 M = some q) : Ct 2 0 0 yX7_nth cX7_nth 4 (some FieldType.int) [vR l0, vI l1] M (some (vI q.1)) q.2 := by
  unfold mX7_nth at h
  refine Ct.of (by decide) (Nat.le_of_ble_eq_true rfl) ?_
  intro E p l e s m args below meth c F
  refine r_sub [0, 1] (ls' := [(0, vR l0), (1, vI l1)]) rfl ?_
  refine r_iload_n (j := 1) F rfl rfl dX7_nth_0 ?_
  refine r_istore_n (ls' := [(2, vI l1), (0, vR l0), (1, vI l1)]) F rfl (by decide) rfl dX7_nth_1 ?_
  refine r_iconst F rfl dX7_nth_2 ?_
  refine r_istore_n (ls' := [(3, vI 0), (2, vI l1), (0, vR l0), (1, vI l1)]) F rfl (by decide) rfl dX7_nth_3 ?_
  refine r_sub [2, 1, 0] (ls' := [(0, vR l0), (2, vI l1), (3, vI 0)]) rfl ?_
  exact tX7_nth_4 F h
theorem tX4_nthForm {l0 l1 : Int} {M : Mem} {q : Int × Mem} (h : mX4_nthForm l0 l1 M = some q) : Ct 102 0 0 yX4_nthForm cX4_nthForm 2 (some FieldType.int) [vR l0, vI l1] M (some (vI q.1)) q.2 := by
  unfold mX4_nthForm at h
  refine Ct.of (by decide) (Nat.le_of_ble_eq_true rfl) ?_
  intro E p l e s m args below meth c F
  refine r_sub [0, 1] (ls' := [(0, vR l0), (1, vI l1)]) rfl ?_
  refine r_aload_n (j := 0) F rfl rfl dX4_nthForm_0 ?_
  replace h := bind_so h
  obtain ⟨_, g1, h⟩ := h
  replace h := bind_so h
  obtain ⟨q1, h1, h⟩ := h
  refine r_callV (as := []) (rv := (some (vI q1.1))) (kc := 0) (nc := 0) (tX4_lookUp h1) clok_4 F (gK_so g1) tw_965 tw_967 tw_40 tw_968 tw_113 ⟨by decide, by decide, show (parseMethodDescriptor yX4_lookUp.desc).map (fun d => d.parameters.length) = some 0 by decide +kernel⟩ ⟨by decide, by decide⟩ (Nat.le_of_ble_eq_true rfl) dX4_nthForm_1 ?_
  refine r_if_ne (tgt := 9) F (by decide) dX4_nthForm_4 (fun hc => ?_) (fun hc => ?_)
  · replace h := ite_n h hc
    refine r_aload_n (j := 0) F rfl rfl dX4_nthForm_9 ?_
    replace h := bind_so h
    obtain ⟨_, g10, h⟩ := h
    replace h := bind_so h
    obtain ⟨q10, h10, h⟩ := h
    refine r_callV (as := []) (rv := none) (kc := 0) (nc := 0) (tX4_pickForms h10) clok_4 F (gK_so g10) tw_1048 tw_1050 tw_44 tw_1051 tw_113 ⟨by decide, by decide, show (parseMethodDescriptor yX4_pickForms.desc).map (fun d => d.parameters.length) = some 0 by decide +kernel⟩ ⟨by decide, by decide⟩ (Nat.le_of_ble_eq_true rfl) dX4_nthForm_10 ?_
    refine r_aload_n (j := 0) F rfl rfl dX4_nthForm_13 ?_
    replace h := bind_so h
    obtain ⟨a14, h14, h⟩ := h
    refine r_getT (t := 2) rfl clok_4 F (by decide) h14 tw_375 dX4_nthForm_14 ?_
    refine r_iload_n (j := 1) F rfl rfl dX4_nthForm_17 ?_
    replace h := bind_so h
    obtain ⟨_, g18, h⟩ := h
    replace h := bind_so h
    obtain ⟨q18, h18, h⟩ := h
    refine r_callV (as := [vI l1]) (rv := (some (vI q18.1))) (kc := 0) (nc := 0) (tX7_nth h18) clok_7 F (gK_so g18) tw_1082 tw_1083 tw_1084 tw_1085 tw_118 ⟨by decide, by decide, show (parseMethodDescriptor yX7_nth.desc).map (fun d => d.parameters.length) = some 1 by decide +kernel⟩ ⟨by decide, by decide⟩ (Nat.le_of_ble_eq_true rfl) dX4_nthForm_18 ?_
    obtain rfl := Option.some.inj h
    exact r_iret F dX4_nthForm_21
  · replace h := ite_p h hc
    refine r_iconst F rfl dX4_nthForm_7 ?_
    obtain rfl := Option.some.inj h
    exact r_iret F dX4_nthForm_8
theorem tX4_leastRow {l0 : Int} {M : Mem} {q : Int × Mem} (h : mX4_leastRow l0 M = some q) : Ct 4 0 0 yX4_leastRow cX4_leastRow 1 (some FieldType.int) [vR l0] M (some (vI q.1)) q.2 := by
  unfold mX4_leastRow at h
  refine Ct.of (by decide) (Nat.le_of_ble_eq_true rfl) ?_
  intro E p l e s m args below meth c F
  refine r_sub [0] (ls' := [(0, vR l0)]) rfl ?_
  refine r_aload_n (j := 0) F rfl rfl dX4_leastRow_0 ?_
  replace h := bind_so h
  obtain ⟨_, g1, h⟩ := h
  replace h := bind_so h
  obtain ⟨q1, h1, h⟩ := h
  refine r_callV (as := []) (rv := (some (vI q1.1))) (kc := 0) (nc := 0) (tX4_canTell h1) clok_4 F (gK_so g1) tw_591 tw_593 tw_1 tw_594 tw_113 ⟨by decide, by decide, show (parseMethodDescriptor yX4_canTell.desc).map (fun d => d.parameters.length) = some 0 by decide +kernel⟩ ⟨by decide, by decide⟩ (Nat.le_of_ble_eq_true rfl) dX4_leastRow_1 ?_
  refine r_if_eq (tgt := 32) F (by decide) dX4_leastRow_4 (fun hc => ?_) (fun hc => ?_)
  · replace h := ite_p h hc
    refine r_iconst F rfl dX4_leastRow_32 ?_
    obtain rfl := Option.some.inj h
    exact r_iret F dX4_leastRow_33
  · replace h := ite_n h hc
    refine r_aload_n (j := 0) F rfl rfl dX4_leastRow_7 ?_
    replace h := bind_so h
    obtain ⟨a8, h8, h⟩ := h
    refine r_getT (t := 2) rfl clok_4 F (by decide) h8 tw_370 dX4_leastRow_8 ?_
    refine r_aload_n (j := 0) F rfl rfl dX4_leastRow_11 ?_
    replace h := bind_so h
    obtain ⟨a12, h12, h⟩ := h
    refine r_getT (t := 2) rfl clok_4 F (by decide) h12 tw_366 dX4_leastRow_12 ?_
    replace h := bind_so h
    obtain ⟨a15, h15, h⟩ := h
    refine r_getT (t := 2) rfl clok_6 F (by decide) h15 tw_209 dX4_leastRow_15 ?_
    refine r_aload_n (j := 0) F rfl rfl dX4_leastRow_18 ?_
    replace h := bind_so h
    obtain ⟨a19, h19, h⟩ := h
    refine r_getT (t := 2) rfl clok_4 F (by decide) h19 tw_366 dX4_leastRow_19 ?_
    replace h := bind_so h
    obtain ⟨a22, h22, h⟩ := h
    refine r_getT (t := 1) rfl clok_6 F (by decide) h22 tw_212 dX4_leastRow_22 ?_
    refine r_l2i F dX4_leastRow_25 ?_
    replace h := bind_so h
    obtain ⟨_, g26, h⟩ := h
    replace h := bind_so h
    obtain ⟨q26, h26, h⟩ := h
    refine r_callV (as := [vR a15, vI (l2i a22)]) (rv := (some (vI q26.1))) (kc := 0) (nc := 0) (tX1_leastOf h26) clok_1 F (gK_so g26) tw_1099 tw_1100 tw_1101 tw_1102 tw_117 ⟨by decide, by decide, show (parseMethodDescriptor yX1_leastOf.desc).map (fun d => d.parameters.length) = some 2 by decide +kernel⟩ ⟨by decide, by decide⟩ (Nat.le_of_ble_eq_true rfl) dX4_leastRow_26 ?_
    refine r_goto (tgt := 33) F (by decide) dX4_leastRow_29 ?_
    obtain rfl := Option.some.inj h
    exact r_iret F dX4_leastRow_33
theorem tX4_fewestApart {l0 l1 : Int} {M : Mem} {q : Int × Mem} (h : mX4_fewestApart l0 l1 M = some q) : Ct 4 0 0 yX4_fewestApart cX4_fewestApart 3 (some FieldType.int) [vR l0, vL l1] M (some (vI q.1)) q.2 := by
  unfold mX4_fewestApart at h
  refine Ct.of (by decide) (Nat.le_of_ble_eq_true rfl) ?_
  intro E p l e s m args below meth c F
  refine r_sub [0, 1] (ls' := [(0, vR l0), (1, vL l1)]) rfl ?_
  refine r_aload_n (j := 0) F rfl rfl dX4_fewestApart_0 ?_
  replace h := bind_so h
  obtain ⟨_, g1, h⟩ := h
  replace h := bind_so h
  obtain ⟨q1, h1, h⟩ := h
  refine r_callV (as := []) (rv := (some (vI q1.1))) (kc := 0) (nc := 0) (tX4_canTell h1) clok_4 F (gK_so g1) tw_591 tw_593 tw_1 tw_594 tw_113 ⟨by decide, by decide, show (parseMethodDescriptor yX4_canTell.desc).map (fun d => d.parameters.length) = some 0 by decide +kernel⟩ ⟨by decide, by decide⟩ (Nat.le_of_ble_eq_true rfl) dX4_fewestApart_1 ?_
  refine r_if_ne (tgt := 9) F (by decide) dX4_fewestApart_4 (fun hc => ?_) (fun hc => ?_)
  · replace h := ite_n h hc
    refine r_aload_n (j := 0) F rfl rfl dX4_fewestApart_9 ?_
    replace h := bind_so h
    obtain ⟨a10, h10, h⟩ := h
    refine r_getT (t := 2) rfl clok_4 F (by decide) h10 tw_370 dX4_fewestApart_10 ?_
    refine r_aload_n (j := 0) F rfl rfl dX4_fewestApart_13 ?_
    replace h := bind_so h
    obtain ⟨a14, h14, h⟩ := h
    refine r_getT (t := 2) rfl clok_4 F (by decide) h14 tw_366 dX4_fewestApart_14 ?_
    replace h := bind_so h
    obtain ⟨a17, h17, h⟩ := h
    refine r_getT (t := 2) rfl clok_6 F (by decide) h17 tw_209 dX4_fewestApart_17 ?_
    refine r_aload_n (j := 0) F rfl rfl dX4_fewestApart_20 ?_
    replace h := bind_so h
    obtain ⟨a21, h21, h⟩ := h
    refine r_getT (t := 2) rfl clok_4 F (by decide) h21 tw_366 dX4_fewestApart_21 ?_
    replace h := bind_so h
    obtain ⟨a24, h24, h⟩ := h
    refine r_getT (t := 1) rfl clok_6 F (by decide) h24 tw_212 dX4_fewestApart_24 ?_
    refine r_l2i F dX4_fewestApart_27 ?_
    refine r_lload_n (j := 1) F rfl rfl dX4_fewestApart_28 ?_
    refine r_l2i F dX4_fewestApart_29 ?_
    replace h := bind_so h
    obtain ⟨_, g30, h⟩ := h
    replace h := bind_so h
    obtain ⟨q30, h30, h⟩ := h
    refine r_callV (as := [vR a17, vI (l2i a24), vI (l2i l1)]) (rv := (some (vI q30.1))) (kc := 0) (nc := 0) (tX1_fewestApart h30) clok_1 F (gK_so g30) tw_595 tw_596 tw_597 tw_598 tw_117 ⟨by decide, by decide, show (parseMethodDescriptor yX1_fewestApart.desc).map (fun d => d.parameters.length) = some 3 by decide +kernel⟩ ⟨by decide, by decide⟩ (Nat.le_of_ble_eq_true rfl) dX4_fewestApart_30 ?_
    obtain rfl := Option.some.inj h
    exact r_iret F dX4_fewestApart_33
  · replace h := ite_p h hc
    refine r_iconst F rfl dX4_fewestApart_7 ?_
    obtain rfl := Option.some.inj h
    exact r_iret F dX4_fewestApart_8
theorem tX4_fits_167 {E : En} {p : Program} {l : Launch} {e : Env} {s : State} {m : MethodId} {args : Array Value} {below : List Frame} {meth : Method} {c : Code} {q : Int × Mem} {k73 : Int → Int → Int → Mem → Option (Int × Mem)} (hk73 : ∀ {l0 l4 l5 : Int} {M : Mem}, k73 l0 l4 l5 M = some q → G E p l e (rmOf 100 0 0) s m args below meth c 10 (QZ E below args s (rmOf 100 0 0) (some (vI q.1)) q.2) 0 0 M 73 [(0, vR l0), (4, vI l4), (5, vI l5)] []) {l0 l4 l5 l6 : Int} {M : Mem} (F : Fx E p s m args meth c cX4_fits 10 yX4_fits.cls (some FieldType.boolean) yX4_fits.name) (h : mX4_fits_167 k73 l0 l4 l5 l6 M = some q) : G E p l e (rmOf 100 0 0) s m args below meth c 10 (QZ E below args s (rmOf 100 0 0) (some (vI q.1)) q.2) 0 0 M 167 [(0, vR l0), (4, vI l4), (5, vI l5), (6, vL l6)] [] := by
  unfold mX4_fits_167 at h
  refine r_lload (j := 3) F rfl dX4_fits_167 ?_
  refine r_lconst F dX4_fits_169 ?_
  refine r_eq (y := 0) rfl ?_
  refine r_lcmp F dX4_fits_170 ?_
  refine r_if_eq (tgt := 176) F (by decide) dX4_fits_171 (fun hc => ?_) (fun hc => ?_)
  · replace h := ite_p h hc
    refine r_iinc (j := 2) (ls' := [(5, vI (wI (l5 + 1))), (0, vR l0), (4, vI l4), (6, vL l6)]) F rfl (by decide) rfl dX4_fits_176 ?_
    refine r_goto (tgt := 73) F (by decide) dX4_fits_179 ?_
    refine r_sub [1, 2, 0] (ls' := [(0, vR l0), (4, vI l4), (5, vI (wI (l5 + 1)))]) rfl ?_
    exact hk73 h
  · replace h := ite_n h hc
    refine r_iconst F rfl dX4_fits_174 ?_
    obtain rfl := Option.some.inj h
    exact r_zret (Or.inr rfl) F dX4_fits_175
theorem tX4_fits_161 {E : En} {p : Program} {l : Launch} {e : Env} {s : State} {m : MethodId} {args : Array Value} {below : List Frame} {meth : Method} {c : Code} {q : Int × Mem} {k73 : Int → Int → Int → Mem → Option (Int × Mem)} {k100 : Int → Int → Int → Int → Int → Mem → Option (Int × Mem)} (hk73 : ∀ {l0 l4 l5 : Int} {M : Mem}, k73 l0 l4 l5 M = some q → G E p l e (rmOf 100 0 0) s m args below meth c 10 (QZ E below args s (rmOf 100 0 0) (some (vI q.1)) q.2) 0 0 M 73 [(0, vR l0), (4, vI l4), (5, vI l5)] []) (hk100 : ∀ {l0 l4 l5 l6 l8 : Int} {M : Mem}, k100 l0 l4 l5 l6 l8 M = some q → G E p l e (rmOf 100 0 0) s m args below meth c 10 (QZ E below args s (rmOf 100 0 0) (some (vI q.1)) q.2) 0 0 M 100 [(0, vR l0), (4, vI l4), (5, vI l5), (6, vL l6), (8, vI l8)] []) {l0 l4 l5 l6 l8 : Int} {M : Mem} (F : Fx E p s m args meth c cX4_fits 10 yX4_fits.cls (some FieldType.boolean) yX4_fits.name) (h : mX4_fits_161 k73 k100 l0 l4 l5 l6 l8 M = some q) : G E p l e (rmOf 100 0 0) s m args below meth c 10 (QZ E below args s (rmOf 100 0 0) (some (vI q.1)) q.2) 0 0 M 161 [(0, vR l0), (4, vI l4), (5, vI l5), (6, vL l6), (8, vI l8)] [] := by
  unfold mX4_fits_161 at h
  refine r_iinc (j := 4) (ls' := [(8, vI (wI (l8 + 1))), (0, vR l0), (4, vI l4), (5, vI l5), (6, vL l6)]) F rfl (by decide) rfl dX4_fits_161 ?_
  refine r_goto (tgt := 100) F (by decide) dX4_fits_164 ?_
  refine r_sub [1, 2, 3, 4, 0] (ls' := [(0, vR l0), (4, vI l4), (5, vI l5), (6, vL l6), (8, vI (wI (l8 + 1)))]) rfl ?_
  exact hk100 h
theorem tbX4_fits_100 {E : En} {p : Program} {l : Launch} {e : Env} {s : State} {m : MethodId} {args : Array Value} {below : List Frame} {meth : Method} {c : Code} {q : Int × Mem} {k73 : Int → Int → Int → Mem → Option (Int × Mem)} (hk73 : ∀ {l0 l4 l5 : Int} {M : Mem}, k73 l0 l4 l5 M = some q → G E p l e (rmOf 100 0 0) s m args below meth c 10 (QZ E below args s (rmOf 100 0 0) (some (vI q.1)) q.2) 0 0 M 73 [(0, vR l0), (4, vI l4), (5, vI l5)] []) {k100 : Int → Int → Int → Int → Int → Mem → Option (Int × Mem)} (hk100 : ∀ {l0 l4 l5 l6 l8 : Int} {M : Mem}, k100 l0 l4 l5 l6 l8 M = some q → G E p l e (rmOf 100 0 0) s m args below meth c 10 (QZ E below args s (rmOf 100 0 0) (some (vI q.1)) q.2) 0 0 M 100 [(0, vR l0), (4, vI l4), (5, vI l5), (6, vL l6), (8, vI l8)] []) {l0 l4 l5 l6 l8 : Int} {M : Mem} (F : Fx E p s m args meth c cX4_fits 10 yX4_fits.cls (some FieldType.boolean) yX4_fits.name) (h : bX4_fits_100 k73 k100 l0 l4 l5 l6 l8 M = some q) : G E p l e (rmOf 100 0 0) s m args below meth c 10 (QZ E below args s (rmOf 100 0 0) (some (vI q.1)) q.2) 0 0 M 100 [(0, vR l0), (4, vI l4), (5, vI l5), (6, vL l6), (8, vI l8)] [] := by
  unfold bX4_fits_100 at h
  refine r_iload (j := 4) F rfl dX4_fits_100 ?_
  refine r_bipush F rfl (by decide) dX4_fits_102 ?_
  refine r_icmp_ge (tgt := 167) F (by decide) dX4_fits_104 (fun hc => ?_) (fun hc => ?_)
  · replace h := ite_p h hc
    refine r_sub [0, 1, 2, 3] (ls' := [(0, vR l0), (4, vI l4), (5, vI l5), (6, vL l6)]) rfl ?_
    exact tX4_fits_167 (fun h => hk73 h) F h
  · replace h := ite_n h hc
    refine r_lload (j := 3) F rfl dX4_fits_107 ?_
    refine r_lconst F dX4_fits_109 ?_
    refine r_eq (y := 0) rfl ?_
    refine r_lcmp F dX4_fits_110 ?_
    refine r_if_eq (tgt := 167) F (by decide) dX4_fits_111 (fun hc => ?_) (fun hc => ?_)
    · replace h := ite_p h hc
      refine r_sub [0, 1, 2, 3] (ls' := [(0, vR l0), (4, vI l4), (5, vI l5), (6, vL l6)]) rfl ?_
      exact tX4_fits_167 (fun h => hk73 h) F h
    · replace h := ite_n h hc
      refine r_aload_n (j := 0) F rfl rfl dX4_fits_114 ?_
      replace h := bind_so h
      obtain ⟨a115, h115, h⟩ := h
      refine r_getT (t := 2) rfl clok_4 F (by decide) h115 tw_366 dX4_fits_115 ?_
      replace h := bind_so h
      obtain ⟨a118, h118, h⟩ := h
      refine r_getT (t := 2) rfl clok_6 F (by decide) h118 tw_229 dX4_fits_118 ?_
      refine r_iload (j := 4) F rfl dX4_fits_121 ?_
      replace h := bind_so h
      obtain ⟨a123, h123, h⟩ := h
      refine r_aald14 F h123 dX4_fits_123 ?_
      refine r_astore (ls' := [(9, vR a123), (0, vR l0), (4, vI l4), (5, vI l5), (6, vL l6), (8, vI l8)]) F (by decide) rfl dX4_fits_124 ?_
      refine r_iload (j := 2) F rfl dX4_fits_126 ?_
      refine r_iload (j := 5) F rfl dX4_fits_128 ?_
      refine r_ishr F dX4_fits_130 ?_
      refine r_iconst F rfl dX4_fits_131 ?_
      refine r_iand F dX4_fits_132 ?_
      refine r_if_eq (tgt := 161) F (by decide) dX4_fits_133 (fun hc => ?_) (fun hc => ?_)
      · replace h := ite_p h hc
        refine r_sub [1, 2, 3, 4, 5] (ls' := [(0, vR l0), (4, vI l4), (5, vI l5), (6, vL l6), (8, vI l8)]) rfl ?_
        exact tX4_fits_161 (fun h => hk73 h) (fun h => hk100 h) F h
      · replace h := ite_n h hc
        refine r_aload (j := 0) F rfl dX4_fits_136 ?_
        refine r_ifnull (tgt := 161) F (by decide) dX4_fits_138 (fun hc => ?_) (fun hc => ?_)
        · replace h := ite_p h hc
          refine r_sub [1, 2, 3, 4, 5] (ls' := [(0, vR l0), (4, vI l4), (5, vI l5), (6, vL l6), (8, vI l8)]) rfl ?_
          exact tX4_fits_161 (fun h => hk73 h) (fun h => hk100 h) F h
        · replace h := ite_n h hc
          refine r_lload (j := 4) F rfl dX4_fits_141 ?_
          refine r_aload_n (j := 1) F rfl rfl dX4_fits_143 ?_
          replace h := bind_so h
          obtain ⟨a144, h144, h⟩ := h
          refine r_getT (t := 2) rfl clok_4 F (by decide) h144 tw_368 dX4_fits_144 ?_
          refine r_aload_n (j := 1) F rfl rfl dX4_fits_147 ?_
          replace h := bind_so h
          obtain ⟨a148, h148, h⟩ := h
          refine r_getT (t := 2) rfl clok_4 F (by decide) h148 tw_376 dX4_fits_148 ?_
          refine r_aload (j := 0) F rfl dX4_fits_151 ?_
          refine r_iload (j := 3) F rfl dX4_fits_153 ?_
          replace h := bind_so h
          obtain ⟨_, g155, h⟩ := h
          replace h := bind_so h
          obtain ⟨q155, h155, h⟩ := h
          refine r_callV (as := [vR a148, vR a123, vI l5]) (rv := (some (vL q155.1))) (kc := 0) (nc := 0) (tX0_soInWord h155) clok_0 F (gK_so g155) tw_1021 tw_1022 tw_1023 tw_1024 tw_116 ⟨by decide, by decide, show (parseMethodDescriptor yX0_soInWord.desc).map (fun d => d.parameters.length) = some 3 by decide +kernel⟩ ⟨by decide, by decide⟩ (Nat.le_of_ble_eq_true rfl) dX4_fits_155 ?_
          refine r_land F dX4_fits_158 ?_
          refine r_lstore (ls' := [(6, vL (land l6 q155.1)), (9, vR a123), (0, vR l0), (4, vI l4), (5, vI l5), (8, vI l8)]) F (by decide) rfl dX4_fits_159 ?_
          refine r_sub [2, 3, 4, 0, 5] (ls' := [(0, vR l0), (4, vI l4), (5, vI l5), (6, vL (land l6 q155.1)), (8, vI l8)]) rfl ?_
          exact tX4_fits_161 (fun h => hk73 h) (fun h => hk100 h) F h
theorem tX4_fits_100 {E : En} {p : Program} {l : Launch} {e : Env} {s : State} {m : MethodId} {args : Array Value} {below : List Frame} {meth : Method} {c : Code} {q : Int × Mem} {k73 : Int → Int → Int → Mem → Option (Int × Mem)} (hk73 : ∀ {l0 l4 l5 : Int} {M : Mem}, k73 l0 l4 l5 M = some q → G E p l e (rmOf 100 0 0) s m args below meth c 10 (QZ E below args s (rmOf 100 0 0) (some (vI q.1)) q.2) 0 0 M 73 [(0, vR l0), (4, vI l4), (5, vI l5)] []) (F : Fx E p s m args meth c cX4_fits 10 yX4_fits.cls (some FieldType.boolean) yX4_fits.name) : ∀ {fu : Nat} {l0 l4 l5 l6 l8 : Int} {M : Mem}, mX4_fits_100 k73 fu l0 l4 l5 l6 l8 M = some q → G E p l e (rmOf 100 0 0) s m args below meth c 10 (QZ E below args s (rmOf 100 0 0) (some (vI q.1)) q.2) 0 0 M 100 [(0, vR l0), (4, vI l4), (5, vI l5), (6, vL l6), (8, vI l8)] [] := by
  intro fu
  induction fu with
  | zero => intro l0 l4 l5 l6 l8 M h; exact nomatch (show (none : Option (Int × Mem)) = some q from h)
  | succ fu ih => intro l0 l4 l5 l6 l8 M h; exact tbX4_fits_100 (fun h => hk73 h) (fun h => ih h) F h
theorem tbX4_fits_73 {E : En} {p : Program} {l : Launch} {e : Env} {s : State} {m : MethodId} {args : Array Value} {below : List Frame} {meth : Method} {c : Code} {q : Int × Mem} {k73 : Int → Int → Int → Mem → Option (Int × Mem)} (hk73 : ∀ {l0 l4 l5 : Int} {M : Mem}, k73 l0 l4 l5 M = some q → G E p l e (rmOf 100 0 0) s m args below meth c 10 (QZ E below args s (rmOf 100 0 0) (some (vI q.1)) q.2) 0 0 M 73 [(0, vR l0), (4, vI l4), (5, vI l5)] []) {l0 l4 l5 : Int} {M : Mem} (F : Fx E p s m args meth c cX4_fits 10 yX4_fits.cls (some FieldType.boolean) yX4_fits.name) (h : bX4_fits_73 k73 l0 l4 l5 M = some q) : G E p l e (rmOf 100 0 0) s m args below meth c 10 (QZ E below args s (rmOf 100 0 0) (some (vI q.1)) q.2) 0 0 M 73 [(0, vR l0), (4, vI l4), (5, vI l5)] [] := by
  unfold bX4_fits_73 at h
  refine r_iload (j := 2) F rfl dX4_fits_73 ?_
  refine r_aload_n (j := 0) F rfl rfl dX4_fits_75 ?_
  replace h := bind_so h
  obtain ⟨a76, h76, h⟩ := h
  refine r_getT (t := 2) rfl clok_4 F (by decide) h76 tw_375 dX4_fits_76 ?_
  replace h := bind_so h
  obtain ⟨_, g79, h⟩ := h
  replace h := bind_so h
  obtain ⟨q79, h79, h⟩ := h
  refine r_callV (as := []) (rv := (some (vI q79.1))) (kc := 0) (nc := 0) (tX7_usedWords h79) clok_7 F (gK_so g79) tw_1017 tw_1018 tw_1019 tw_1020 tw_118 ⟨by decide, by decide, show (parseMethodDescriptor yX7_usedWords.desc).map (fun d => d.parameters.length) = some 0 by decide +kernel⟩ ⟨by decide, by decide⟩ (Nat.le_of_ble_eq_true rfl) dX4_fits_79 ?_
  refine r_icmp_ge (tgt := 182) F (by decide) dX4_fits_82 (fun hc => ?_) (fun hc => ?_)
  · replace h := ite_p h hc
    refine r_iconst F rfl dX4_fits_182 ?_
    obtain rfl := Option.some.inj h
    exact r_zret (Or.inl rfl) F dX4_fits_183
  · replace h := ite_n h hc
    refine r_aload_n (j := 0) F rfl rfl dX4_fits_85 ?_
    replace h := bind_so h
    obtain ⟨a86, h86, h⟩ := h
    refine r_getT (t := 2) rfl clok_4 F (by decide) h86 tw_375 dX4_fits_86 ?_
    replace h := bind_so h
    obtain ⟨a89, h89, h⟩ := h
    refine r_getT (t := 2) rfl clok_7 F (by decide) h89 tw_326 dX4_fits_89 ?_
    refine r_iload (j := 2) F rfl dX4_fits_92 ?_
    replace h := bind_so h
    obtain ⟨a94, h94, h⟩ := h
    refine r_lald F h94 dX4_fits_94 ?_
    refine r_lstore (ls' := [(6, vL a94), (0, vR l0), (4, vI l4), (5, vI l5)]) F (by decide) rfl dX4_fits_95 ?_
    refine r_iconst F rfl dX4_fits_97 ?_
    refine r_istore (ls' := [(8, vI 0), (6, vL a94), (0, vR l0), (4, vI l4), (5, vI l5)]) F (by decide) rfl dX4_fits_98 ?_
    refine r_sub [2, 3, 4, 1, 0] (ls' := [(0, vR l0), (4, vI l4), (5, vI l5), (6, vL a94), (8, vI 0)]) rfl ?_
    exact tX4_fits_100 (fun h => hk73 h) F h
theorem tX4_fits_73 {E : En} {p : Program} {l : Launch} {e : Env} {s : State} {m : MethodId} {args : Array Value} {below : List Frame} {meth : Method} {c : Code} {q : Int × Mem} (F : Fx E p s m args meth c cX4_fits 10 yX4_fits.cls (some FieldType.boolean) yX4_fits.name) : ∀ {fu : Nat} {l0 l4 l5 : Int} {M : Mem}, mX4_fits_73 fu l0 l4 l5 M = some q → G E p l e (rmOf 100 0 0) s m args below meth c 10 (QZ E below args s (rmOf 100 0 0) (some (vI q.1)) q.2) 0 0 M 73 [(0, vR l0), (4, vI l4), (5, vI l5)] [] := by
  intro fu
  induction fu with
  | zero => intro l0 l4 l5 M h; exact nomatch (show (none : Option (Int × Mem)) = some q from h)
  | succ fu ih => intro l0 l4 l5 M h; exact tbX4_fits_73  (fun h => ih h) F h
theorem tX4_fits {l0 l1 l2 l3 l4 : Int} {M : Mem} {q : Int × Mem} (h : mX4_fits l0 l1 l2 l3 l4 M = some q) : Ct 100 0 0 yX4_fits cX4_fits 10 (some FieldType.boolean) [vR l0, vI l1, vI l2, vI l3, vI l4] M (some (vI q.1)) q.2 := by
  unfold mX4_fits at h
  refine Ct.of (by decide) (Nat.le_of_ble_eq_true rfl) ?_
  intro E p l e s m args below meth c F
  refine r_sub [0, 1, 2, 3, 4] (ls' := [(0, vR l0), (1, vI l1), (2, vI l2), (3, vI l3), (4, vI l4)]) rfl ?_
  refine r_iload_n (j := 3) F rfl rfl dX4_fits_0 ?_
  refine r_iconst F rfl dX4_fits_1 ?_
  refine r_icmp_lt (tgt := 10) F (by decide) dX4_fits_2 (fun hc => ?_) (fun hc => ?_)
  · replace h := ite_p h hc
    refine r_iconst F rfl dX4_fits_10 ?_
    obtain rfl := Option.some.inj h
    exact r_zret (Or.inl rfl) F dX4_fits_11
  · replace h := ite_n h hc
    refine r_iload_n (j := 3) F rfl rfl dX4_fits_5 ?_
    refine r_iconst F rfl dX4_fits_6 ?_
    refine r_icmp_le (tgt := 12) F (by decide) dX4_fits_7 (fun hc => ?_) (fun hc => ?_)
    · replace h := ite_p h hc
      refine r_aload_n (j := 0) F rfl rfl dX4_fits_12 ?_
      replace h := bind_so h
      obtain ⟨a13, h13, h⟩ := h
      refine r_getT (t := 2) rfl clok_4 F (by decide) h13 tw_376 dX4_fits_13 ?_
      refine r_iconst F rfl dX4_fits_16 ?_
      refine r_iload_n (j := 1) F rfl rfl dX4_fits_17 ?_
      replace h := bind_so h
      obtain ⟨_, g18, h⟩ := h
      replace h := bind_so h
      obtain ⟨q18, h18, h⟩ := h
      refine r_callV (as := [vI 0, vI l1]) (rv := (some (vI q18.1))) (kc := 0) (nc := 0) (tX3_resize h18) clok_3 F (gK_so g18) tw_1125 tw_508 tw_509 tw_510 tw_115 ⟨by decide, by decide, show (parseMethodDescriptor yX3_resize.desc).map (fun d => d.parameters.length) = some 2 by decide +kernel⟩ ⟨by decide, by decide⟩ (Nat.le_of_ble_eq_true rfl) dX4_fits_18 ?_
      refine r_pop F rfl dX4_fits_21 ?_
      refine r_aload_n (j := 0) F rfl rfl dX4_fits_22 ?_
      replace h := bind_so h
      obtain ⟨a23, h23, h⟩ := h
      refine r_getT (t := 2) rfl clok_4 F (by decide) h23 tw_376 dX4_fits_23 ?_
      refine r_iconst F rfl dX4_fits_26 ?_
      refine r_iload_n (j := 2) F rfl rfl dX4_fits_27 ?_
      replace h := bind_so h
      obtain ⟨_, g28, h⟩ := h
      replace h := bind_so h
      obtain ⟨q28, h28, h⟩ := h
      refine r_callV (as := [vI 1, vI l2]) (rv := (some (vI q28.1))) (kc := 0) (nc := 0) (tX3_resize h28) clok_3 F (gK_so g28) tw_1125 tw_508 tw_509 tw_510 tw_115 ⟨by decide, by decide, show (parseMethodDescriptor yX3_resize.desc).map (fun d => d.parameters.length) = some 2 by decide +kernel⟩ ⟨by decide, by decide⟩ (Nat.le_of_ble_eq_true rfl) dX4_fits_28 ?_
      refine r_pop F rfl dX4_fits_31 ?_
      refine r_aload_n (j := 0) F rfl rfl dX4_fits_32 ?_
      replace h := bind_so h
      obtain ⟨a33, h33, h⟩ := h
      refine r_getT (t := 2) rfl clok_4 F (by decide) h33 tw_376 dX4_fits_33 ?_
      refine r_iconst F rfl dX4_fits_36 ?_
      refine r_iload_n (j := 3) F rfl rfl dX4_fits_37 ?_
      replace h := bind_so h
      obtain ⟨_, g38, h⟩ := h
      replace h := bind_so h
      obtain ⟨q38, h38, h⟩ := h
      refine r_callV (as := [vI 2, vI l3]) (rv := (some (vI q38.1))) (kc := 0) (nc := 0) (tX3_resize h38) clok_3 F (gK_so g38) tw_1125 tw_508 tw_509 tw_510 tw_115 ⟨by decide, by decide, show (parseMethodDescriptor yX3_resize.desc).map (fun d => d.parameters.length) = some 2 by decide +kernel⟩ ⟨by decide, by decide⟩ (Nat.le_of_ble_eq_true rfl) dX4_fits_38 ?_
      refine r_pop F rfl dX4_fits_41 ?_
      refine r_aload_n (j := 0) F rfl rfl dX4_fits_42 ?_
      replace h := bind_so h
      obtain ⟨a43, h43, h⟩ := h
      refine r_getT (t := 2) rfl clok_4 F (by decide) h43 tw_376 dX4_fits_43 ?_
      replace h := bind_so h
      obtain ⟨a46, h46, h⟩ := h
      refine r_getT (t := 0) rfl clok_3 F (by decide) h46 tw_184 dX4_fits_46 ?_
      refine r_bipush F rfl (by decide) dX4_fits_49 ?_
      refine r_icmp_le (tgt := 56) F (by decide) dX4_fits_51 (fun hc => ?_) (fun hc => ?_)
      · replace h := ite_p h hc
        refine r_aload_n (j := 0) F rfl rfl dX4_fits_56 ?_
        replace h := bind_so h
        obtain ⟨a57, h57, h⟩ := h
        refine r_getT (t := 2) rfl clok_4 F (by decide) h57 tw_375 dX4_fits_57 ?_
        refine r_aload_n (j := 0) F rfl rfl dX4_fits_60 ?_
        replace h := bind_so h
        obtain ⟨a61, h61, h⟩ := h
        refine r_getT (t := 2) rfl clok_4 F (by decide) h61 tw_376 dX4_fits_61 ?_
        replace h := bind_so h
        obtain ⟨a64, h64, h⟩ := h
        refine r_getT (t := 0) rfl clok_3 F (by decide) h64 tw_184 dX4_fits_64 ?_
        replace h := bind_so h
        obtain ⟨_, g67, h⟩ := h
        replace h := bind_so h
        obtain ⟨q67, h67, h⟩ := h
        refine r_callV (as := [vI a64]) (rv := none) (kc := 0) (nc := 0) (tX7_takeAll h67) clok_7 F (gK_so g67) tw_973 tw_974 tw_975 tw_976 tw_118 ⟨by decide, by decide, show (parseMethodDescriptor yX7_takeAll.desc).map (fun d => d.parameters.length) = some 1 by decide +kernel⟩ ⟨by decide, by decide⟩ (Nat.le_of_ble_eq_true rfl) dX4_fits_67 ?_
        refine r_iconst F rfl dX4_fits_70 ?_
        refine r_istore (ls' := [(5, vI 0), (0, vR l0), (1, vI l1), (2, vI l2), (3, vI l3), (4, vI l4)]) F (by decide) rfl dX4_fits_71 ?_
        refine r_sub [1, 5, 0] (ls' := [(0, vR l0), (4, vI l4), (5, vI 0)]) rfl ?_
        exact tX4_fits_73 F h
      · replace h := ite_n h hc
        refine r_iconst F rfl dX4_fits_54 ?_
        obtain rfl := Option.some.inj h
        exact r_zret (Or.inl rfl) F dX4_fits_55
    · replace h := ite_n h hc
      refine r_iconst F rfl dX4_fits_10 ?_
      obtain rfl := Option.some.inj h
      exact r_zret (Or.inl rfl) F dX4_fits_11
