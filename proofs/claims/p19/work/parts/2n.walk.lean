theorem tX9_findYes_51 {E : En} {p : Program} {l : Launch} {e : Env} {s : State} {m : MethodId} {args : Array Value} {below : List Frame} {meth : Method} {c : Code} {q : Int × Mem} {k2 : Int → Int → Int → Mem → Option (Int × Mem)} {k19 : Int → Int → Int → Int → Mem → Option (Int × Mem)} (hk2 : ∀ {l0 l1 l2 : Int} {M : Mem}, k2 l0 l1 l2 M = some q → G E p l e (rmOf 1 0 0) s m args below meth c 4 (QZ E below args s (rmOf 1 0 0) none q.2) 0 0 M 2 [(0, vR l0), (1, vI l1), (2, vI l2)] []) (hk19 : ∀ {l0 l1 l2 l3 : Int} {M : Mem}, k19 l0 l1 l2 l3 M = some q → G E p l e (rmOf 1 0 0) s m args below meth c 4 (QZ E below args s (rmOf 1 0 0) none q.2) 0 0 M 19 [(0, vR l0), (1, vI l1), (2, vI l2), (3, vI l3)] []) {l0 l1 l2 l3 s0 s1 s2 s3 : Int} {M : Mem} (F : Fx E p s m args meth c cX9_findYes 4 yX9_findYes.cls none yX9_findYes.name) (h : mX9_findYes_51 k2 k19 l0 l1 l2 l3 s0 s1 s2 s3 M = some q) : G E p l e (rmOf 1 0 0) s m args below meth c 4 (QZ E below args s (rmOf 1 0 0) none q.2) 0 0 M 51 [(0, vR l0), (1, vI l1), (2, vI l2), (3, vI l3)] [vI s3, vI s2, vI s1, vR s0] := by
  unfold mX9_findYes_51 at h
  refine r_ior F dX9_findYes_51 ?_
  replace h := bind_so h
  obtain ⟨M52, h52, h⟩ := h
  refine r_iast F h52 dX9_findYes_52 ?_
  refine r_iinc (j := 3) (ls' := [(3, vI (wI (l3 + 1))), (0, vR l0), (1, vI l1), (2, vI l2)]) F rfl (by decide) rfl dX9_findYes_53 ?_
  refine r_goto (tgt := 19) F (by decide) dX9_findYes_56 ?_
  refine r_sub [1, 2, 3, 0] (ls' := [(0, vR l0), (1, vI l1), (2, vI l2), (3, vI (wI (l3 + 1)))]) rfl ?_
  exact hk19 h
theorem tbX9_findYes_19 {E : En} {p : Program} {l : Launch} {e : Env} {s : State} {m : MethodId} {args : Array Value} {below : List Frame} {meth : Method} {c : Code} {q : Int × Mem} {k2 : Int → Int → Int → Mem → Option (Int × Mem)} (hk2 : ∀ {l0 l1 l2 : Int} {M : Mem}, k2 l0 l1 l2 M = some q → G E p l e (rmOf 1 0 0) s m args below meth c 4 (QZ E below args s (rmOf 1 0 0) none q.2) 0 0 M 2 [(0, vR l0), (1, vI l1), (2, vI l2)] []) {k19 : Int → Int → Int → Int → Mem → Option (Int × Mem)} (hk19 : ∀ {l0 l1 l2 l3 : Int} {M : Mem}, k19 l0 l1 l2 l3 M = some q → G E p l e (rmOf 1 0 0) s m args below meth c 4 (QZ E below args s (rmOf 1 0 0) none q.2) 0 0 M 19 [(0, vR l0), (1, vI l1), (2, vI l2), (3, vI l3)] []) {l0 l1 l2 l3 : Int} {M : Mem} (F : Fx E p s m args meth c cX9_findYes 4 yX9_findYes.cls none yX9_findYes.name) (h : bX9_findYes_19 k2 k19 l0 l1 l2 l3 M = some q) : G E p l e (rmOf 1 0 0) s m args below meth c 4 (QZ E below args s (rmOf 1 0 0) none q.2) 0 0 M 19 [(0, vR l0), (1, vI l1), (2, vI l2), (3, vI l3)] [] := by
  unfold bX9_findYes_19 at h
  refine r_iload_n (j := 3) F rfl rfl dX9_findYes_19 ?_
  refine r_iload_n (j := 1) F rfl rfl dX9_findYes_20 ?_
  refine r_icmp_ge (tgt := 59) F (by decide) dX9_findYes_21 (fun hc => ?_) (fun hc => ?_)
  · replace h := ite_p h hc
    refine r_iinc (j := 2) (ls' := [(2, vI (wI (l2 + 1))), (0, vR l0), (1, vI l1), (3, vI l3)]) F rfl (by decide) rfl dX9_findYes_59 ?_
    refine r_goto (tgt := 2) F (by decide) dX9_findYes_62 ?_
    refine r_sub [1, 2, 0] (ls' := [(0, vR l0), (1, vI l1), (2, vI (wI (l2 + 1)))]) rfl ?_
    exact hk2 h
  · replace h := ite_n h hc
    refine r_aload_n (j := 0) F rfl rfl dX9_findYes_24 ?_
    replace h := bind_so h
    obtain ⟨a25, h25, h⟩ := h
    refine r_getT (t := 2) rfl clok_9 F (by decide) h25 tw_1358 dX9_findYes_25 ?_
    refine r_iload_n (j := 2) F rfl rfl dX9_findYes_28 ?_
    refine r_dup2 F rfl rfl dX9_findYes_29 ?_
    replace h := bind_so h
    obtain ⟨a30, h30, h⟩ := h
    refine r_iald F h30 dX9_findYes_30 ?_
    refine r_aload_n (j := 0) F rfl rfl dX9_findYes_31 ?_
    replace h := bind_so h
    obtain ⟨a32, h32, h⟩ := h
    refine r_getT (t := 2) rfl clok_9 F (by decide) h32 tw_1355 dX9_findYes_32 ?_
    refine r_iload_n (j := 3) F rfl rfl dX9_findYes_35 ?_
    replace h := bind_so h
    obtain ⟨a36, h36, h⟩ := h
    refine r_iald F h36 dX9_findYes_36 ?_
    refine r_iload_n (j := 2) F rfl rfl dX9_findYes_37 ?_
    refine r_ishr F dX9_findYes_38 ?_
    refine r_iconst F rfl dX9_findYes_39 ?_
    refine r_iand F dX9_findYes_40 ?_
    refine r_if_eq (tgt := 50) F (by decide) dX9_findYes_41 (fun hc => ?_) (fun hc => ?_)
    · replace h := ite_p h hc
      refine r_iconst F rfl dX9_findYes_50 ?_
      refine r_sub [0, 1, 2, 3] (ls' := [(0, vR l0), (1, vI l1), (2, vI l2), (3, vI l3)]) rfl ?_
      exact tX9_findYes_51 (fun h => hk2 h) (fun h => hk19 h) F h
    · replace h := ite_n h hc
      refine r_iconst F rfl dX9_findYes_44 ?_
      refine r_iload_n (j := 3) F rfl rfl dX9_findYes_45 ?_
      refine r_ishl F dX9_findYes_46 ?_
      refine r_goto (tgt := 51) F (by decide) dX9_findYes_47 ?_
      refine r_sub [0, 1, 2, 3] (ls' := [(0, vR l0), (1, vI l1), (2, vI l2), (3, vI l3)]) rfl ?_
      exact tX9_findYes_51 (fun h => hk2 h) (fun h => hk19 h) F h
theorem tX9_findYes_19 {E : En} {p : Program} {l : Launch} {e : Env} {s : State} {m : MethodId} {args : Array Value} {below : List Frame} {meth : Method} {c : Code} {q : Int × Mem} {k2 : Int → Int → Int → Mem → Option (Int × Mem)} (hk2 : ∀ {l0 l1 l2 : Int} {M : Mem}, k2 l0 l1 l2 M = some q → G E p l e (rmOf 1 0 0) s m args below meth c 4 (QZ E below args s (rmOf 1 0 0) none q.2) 0 0 M 2 [(0, vR l0), (1, vI l1), (2, vI l2)] []) (F : Fx E p s m args meth c cX9_findYes 4 yX9_findYes.cls none yX9_findYes.name) : ∀ {fu : Nat} {l0 l1 l2 l3 : Int} {M : Mem}, mX9_findYes_19 k2 fu l0 l1 l2 l3 M = some q → G E p l e (rmOf 1 0 0) s m args below meth c 4 (QZ E below args s (rmOf 1 0 0) none q.2) 0 0 M 19 [(0, vR l0), (1, vI l1), (2, vI l2), (3, vI l3)] [] := by
  intro fu
  induction fu with
  | zero => intro l0 l1 l2 l3 M h; exact nomatch (show (none : Option (Int × Mem)) = some q from h)
  | succ fu ih => intro l0 l1 l2 l3 M h; exact tbX9_findYes_19 (fun h => hk2 h) (fun h => ih h) F h
theorem tbX9_findYes_2 {E : En} {p : Program} {l : Launch} {e : Env} {s : State} {m : MethodId} {args : Array Value} {below : List Frame} {meth : Method} {c : Code} {q : Int × Mem} {k2 : Int → Int → Int → Mem → Option (Int × Mem)} (hk2 : ∀ {l0 l1 l2 : Int} {M : Mem}, k2 l0 l1 l2 M = some q → G E p l e (rmOf 1 0 0) s m args below meth c 4 (QZ E below args s (rmOf 1 0 0) none q.2) 0 0 M 2 [(0, vR l0), (1, vI l1), (2, vI l2)] []) {l0 l1 l2 : Int} {M : Mem} (F : Fx E p s m args meth c cX9_findYes 4 yX9_findYes.cls none yX9_findYes.name) (h : bX9_findYes_2 k2 l0 l1 l2 M = some q) : G E p l e (rmOf 1 0 0) s m args below meth c 4 (QZ E below args s (rmOf 1 0 0) none q.2) 0 0 M 2 [(0, vR l0), (1, vI l1), (2, vI l2)] [] := by
  unfold bX9_findYes_2 at h
  refine r_iload_n (j := 2) F rfl rfl dX9_findYes_2 ?_
  refine r_aload_n (j := 0) F rfl rfl dX9_findYes_3 ?_
  replace h := bind_so h
  obtain ⟨_, g4, h⟩ := h
  replace h := bind_so h
  obtain ⟨q4, h4, h⟩ := h
  refine r_callV (as := []) (rv := (some (vI q4.1))) (kc := 0) (nc := 0) (tX9_manyFacts h4) clok_9 F (gK_so g4) tw_1518 tw_1520 tw_58 tw_1521 tw_122 ⟨by decide, by decide, show (parseMethodDescriptor yX9_manyFacts.desc).map (fun d => d.parameters.length) = some 0 by decide +kernel⟩ ⟨by decide, by decide⟩ (Nat.le_of_ble_eq_true rfl) dX9_findYes_4 ?_
  refine r_icmp_ge (tgt := 65) F (by decide) dX9_findYes_7 (fun hc => ?_) (fun hc => ?_)
  · replace h := ite_p h hc
    obtain rfl := Option.some.inj h
    exact r_vret F dX9_findYes_65
  · replace h := ite_n h hc
    refine r_aload_n (j := 0) F rfl rfl dX9_findYes_10 ?_
    replace h := bind_so h
    obtain ⟨a11, h11, h⟩ := h
    refine r_getT (t := 2) rfl clok_9 F (by decide) h11 tw_1358 dX9_findYes_11 ?_
    refine r_iload_n (j := 2) F rfl rfl dX9_findYes_14 ?_
    refine r_iconst F rfl dX9_findYes_15 ?_
    replace h := bind_so h
    obtain ⟨M16, h16, h⟩ := h
    refine r_iast F h16 dX9_findYes_16 ?_
    refine r_iconst F rfl dX9_findYes_17 ?_
    refine r_istore_n (ls' := [(3, vI 0), (0, vR l0), (1, vI l1), (2, vI l2)]) F rfl (by decide) rfl dX9_findYes_18 ?_
    refine r_sub [1, 2, 3, 0] (ls' := [(0, vR l0), (1, vI l1), (2, vI l2), (3, vI 0)]) rfl ?_
    exact tX9_findYes_19 (fun h => hk2 h) F h
theorem tX9_findYes_2 {E : En} {p : Program} {l : Launch} {e : Env} {s : State} {m : MethodId} {args : Array Value} {below : List Frame} {meth : Method} {c : Code} {q : Int × Mem} (F : Fx E p s m args meth c cX9_findYes 4 yX9_findYes.cls none yX9_findYes.name) : ∀ {fu : Nat} {l0 l1 l2 : Int} {M : Mem}, mX9_findYes_2 fu l0 l1 l2 M = some q → G E p l e (rmOf 1 0 0) s m args below meth c 4 (QZ E below args s (rmOf 1 0 0) none q.2) 0 0 M 2 [(0, vR l0), (1, vI l1), (2, vI l2)] [] := by
  intro fu
  induction fu with
  | zero => intro l0 l1 l2 M h; exact nomatch (show (none : Option (Int × Mem)) = some q from h)
  | succ fu ih => intro l0 l1 l2 M h; exact tbX9_findYes_2  (fun h => ih h) F h
theorem tX9_findYes {l0 l1 : Int} {M : Mem} {q : Int × Mem} (h : mX9_findYes l0 l1 M = some q) : Ct 1 0 0 yX9_findYes cX9_findYes 4 none [vR l0, vI l1] M none q.2 := by
  unfold mX9_findYes at h
  refine Ct.of (by decide) (Nat.le_of_ble_eq_true rfl) ?_
  intro E p l e s m args below meth c F
  refine r_sub [0, 1] (ls' := [(0, vR l0), (1, vI l1)]) rfl ?_
  refine r_iconst F rfl dX9_findYes_0 ?_
  refine r_istore_n (ls' := [(2, vI 0), (0, vR l0), (1, vI l1)]) F rfl (by decide) rfl dX9_findYes_1 ?_
  refine r_sub [1, 2, 0] (ls' := [(0, vR l0), (1, vI l1), (2, vI 0)]) rfl ?_
  exact tX9_findYes_2 F h
theorem tX9_asks_46 {E : En} {p : Program} {l : Launch} {e : Env} {s : State} {m : MethodId} {args : Array Value} {below : List Frame} {meth : Method} {c : Code} {q : Int × Mem} {k2 : Int → Int → Int → Mem → Option (Int × Mem)} (hk2 : ∀ {l0 l1 l2 : Int} {M : Mem}, k2 l0 l1 l2 M = some q → G E p l e (rmOf 1 0 0) s m args below meth c 3 (QZ E below args s (rmOf 1 0 0) (some (vI q.1)) q.2) 0 0 M 2 [(0, vR l0), (1, vI l1), (2, vI l2)] []) {l0 l1 l2 : Int} {M : Mem} (F : Fx E p s m args meth c cX9_asks 3 yX9_asks.cls (some FieldType.boolean) yX9_asks.name) (h : mX9_asks_46 k2 l0 l1 l2 M = some q) : G E p l e (rmOf 1 0 0) s m args below meth c 3 (QZ E below args s (rmOf 1 0 0) (some (vI q.1)) q.2) 0 0 M 46 [(0, vR l0), (1, vI l1), (2, vI l2)] [] := by
  unfold mX9_asks_46 at h
  refine r_iinc (j := 2) (ls' := [(2, vI (wI (l2 + 1))), (0, vR l0), (1, vI l1)]) F rfl (by decide) rfl dX9_asks_46 ?_
  refine r_goto (tgt := 2) F (by decide) dX9_asks_49 ?_
  refine r_sub [1, 2, 0] (ls' := [(0, vR l0), (1, vI l1), (2, vI (wI (l2 + 1)))]) rfl ?_
  exact hk2 h
theorem tbX9_asks_2 {E : En} {p : Program} {l : Launch} {e : Env} {s : State} {m : MethodId} {args : Array Value} {below : List Frame} {meth : Method} {c : Code} {q : Int × Mem} {k2 : Int → Int → Int → Mem → Option (Int × Mem)} (hk2 : ∀ {l0 l1 l2 : Int} {M : Mem}, k2 l0 l1 l2 M = some q → G E p l e (rmOf 1 0 0) s m args below meth c 3 (QZ E below args s (rmOf 1 0 0) (some (vI q.1)) q.2) 0 0 M 2 [(0, vR l0), (1, vI l1), (2, vI l2)] []) {l0 l1 l2 : Int} {M : Mem} (F : Fx E p s m args meth c cX9_asks 3 yX9_asks.cls (some FieldType.boolean) yX9_asks.name) (h : bX9_asks_2 k2 l0 l1 l2 M = some q) : G E p l e (rmOf 1 0 0) s m args below meth c 3 (QZ E below args s (rmOf 1 0 0) (some (vI q.1)) q.2) 0 0 M 2 [(0, vR l0), (1, vI l1), (2, vI l2)] [] := by
  unfold bX9_asks_2 at h
  refine r_iload_n (j := 2) F rfl rfl dX9_asks_2 ?_
  refine r_aload_n (j := 0) F rfl rfl dX9_asks_3 ?_
  replace h := bind_so h
  obtain ⟨_, g4, h⟩ := h
  replace h := bind_so h
  obtain ⟨q4, h4, h⟩ := h
  refine r_callV (as := []) (rv := (some (vI q4.1))) (kc := 0) (nc := 0) (tX9_manyFacts h4) clok_9 F (gK_so g4) tw_1518 tw_1520 tw_58 tw_1521 tw_122 ⟨by decide, by decide, show (parseMethodDescriptor yX9_manyFacts.desc).map (fun d => d.parameters.length) = some 0 by decide +kernel⟩ ⟨by decide, by decide⟩ (Nat.le_of_ble_eq_true rfl) dX9_asks_4 ?_
  refine r_icmp_ge (tgt := 52) F (by decide) dX9_asks_7 (fun hc => ?_) (fun hc => ?_)
  · replace h := ite_p h hc
    refine r_iconst F rfl dX9_asks_52 ?_
    obtain rfl := Option.some.inj h
    exact r_zret (Or.inl rfl) F dX9_asks_53
  · replace h := ite_n h hc
    refine r_aload_n (j := 0) F rfl rfl dX9_asks_10 ?_
    replace h := bind_so h
    obtain ⟨a11, h11, h⟩ := h
    refine r_getT (t := 2) rfl clok_9 F (by decide) h11 tw_1356 dX9_asks_11 ?_
    refine r_iload_n (j := 1) F rfl rfl dX9_asks_14 ?_
    refine r_aload_n (j := 0) F rfl rfl dX9_asks_15 ?_
    replace h := bind_so h
    obtain ⟨a16, h16, h⟩ := h
    refine r_getT (t := 2) rfl clok_9 F (by decide) h16 tw_1358 dX9_asks_16 ?_
    refine r_iload_n (j := 2) F rfl rfl dX9_asks_19 ?_
    replace h := bind_so h
    obtain ⟨a20, h20, h⟩ := h
    refine r_iald F h20 dX9_asks_20 ?_
    refine r_iand F dX9_asks_21 ?_
    replace h := bind_so h
    obtain ⟨a22, h22, h⟩ := h
    refine r_zald F h22 dX9_asks_22 ?_
    refine r_if_eq (tgt := 46) F (by decide) dX9_asks_23 (fun hc => ?_) (fun hc => ?_)
    · replace h := ite_p h hc
      refine r_sub [0, 1, 2] (ls' := [(0, vR l0), (1, vI l1), (2, vI l2)]) rfl ?_
      exact tX9_asks_46 (fun h => hk2 h) F h
    · replace h := ite_n h hc
      refine r_aload_n (j := 0) F rfl rfl dX9_asks_26 ?_
      replace h := bind_so h
      obtain ⟨a27, h27, h⟩ := h
      refine r_getT (t := 2) rfl clok_9 F (by decide) h27 tw_1356 dX9_asks_27 ?_
      refine r_iload_n (j := 1) F rfl rfl dX9_asks_30 ?_
      refine r_aload_n (j := 0) F rfl rfl dX9_asks_31 ?_
      replace h := bind_so h
      obtain ⟨a32, h32, h⟩ := h
      refine r_getT (t := 2) rfl clok_9 F (by decide) h32 tw_1358 dX9_asks_32 ?_
      refine r_iload_n (j := 2) F rfl rfl dX9_asks_35 ?_
      replace h := bind_so h
      obtain ⟨a36, h36, h⟩ := h
      refine r_iald F h36 dX9_asks_36 ?_
      refine r_iconst F rfl dX9_asks_37 ?_
      refine r_ixor F dX9_asks_38 ?_
      refine r_iand F dX9_asks_39 ?_
      replace h := bind_so h
      obtain ⟨a40, h40, h⟩ := h
      refine r_zald F h40 dX9_asks_40 ?_
      refine r_if_eq (tgt := 46) F (by decide) dX9_asks_41 (fun hc => ?_) (fun hc => ?_)
      · replace h := ite_p h hc
        refine r_sub [0, 1, 2] (ls' := [(0, vR l0), (1, vI l1), (2, vI l2)]) rfl ?_
        exact tX9_asks_46 (fun h => hk2 h) F h
      · replace h := ite_n h hc
        refine r_iconst F rfl dX9_asks_44 ?_
        obtain rfl := Option.some.inj h
        exact r_zret (Or.inr rfl) F dX9_asks_45
theorem tX9_asks_2 {E : En} {p : Program} {l : Launch} {e : Env} {s : State} {m : MethodId} {args : Array Value} {below : List Frame} {meth : Method} {c : Code} {q : Int × Mem} (F : Fx E p s m args meth c cX9_asks 3 yX9_asks.cls (some FieldType.boolean) yX9_asks.name) : ∀ {fu : Nat} {l0 l1 l2 : Int} {M : Mem}, mX9_asks_2 fu l0 l1 l2 M = some q → G E p l e (rmOf 1 0 0) s m args below meth c 3 (QZ E below args s (rmOf 1 0 0) (some (vI q.1)) q.2) 0 0 M 2 [(0, vR l0), (1, vI l1), (2, vI l2)] [] := by
  intro fu
  induction fu with
  | zero => intro l0 l1 l2 M h; exact nomatch (show (none : Option (Int × Mem)) = some q from h)
  | succ fu ih => intro l0 l1 l2 M h; exact tbX9_asks_2  (fun h => ih h) F h
theorem tX9_asks {l0 l1 : Int} {M : Mem} {q : Int × Mem} (h : mX9_asks l0 l1 M = some q) : Ct 1 0 0 yX9_asks cX9_asks 3 (some FieldType.boolean) [vR l0, vI l1] M (some (vI q.1)) q.2 := by
  unfold mX9_asks at h
  refine Ct.of (by decide) (Nat.le_of_ble_eq_true rfl) ?_
  intro E p l e s m args below meth c F
  refine r_sub [0, 1] (ls' := [(0, vR l0), (1, vI l1)]) rfl ?_
  refine r_iconst F rfl dX9_asks_0 ?_
  refine r_istore_n (ls' := [(2, vI 0), (0, vR l0), (1, vI l1)]) F rfl (by decide) rfl dX9_asks_1 ?_
  refine r_sub [1, 2, 0] (ls' := [(0, vR l0), (1, vI l1), (2, vI 0)]) rfl ?_
  exact tX9_asks_2 F h
theorem tbX9_questions_176 {E : En} {p : Program} {l : Launch} {e : Env} {s : State} {m : MethodId} {args : Array Value} {below : List Frame} {meth : Method} {c : Code} {q : Int × Mem} {k111 : Int → Int → Int → Mem → Option (Int × Mem)} (hk111 : ∀ {l0 l1 l2 : Int} {M : Mem}, k111 l0 l1 l2 M = some q → G E p l e (rmOf 9 0 0) s m args below meth c 4 (QZ E below args s (rmOf 9 0 0) (some (vI q.1)) q.2) 0 0 M 111 [(0, vR l0), (1, vI l1), (2, vI l2)] []) {k176 : Int → Int → Int → Int → Mem → Option (Int × Mem)} (hk176 : ∀ {l0 l1 l2 l3 : Int} {M : Mem}, k176 l0 l1 l2 l3 M = some q → G E p l e (rmOf 9 0 0) s m args below meth c 4 (QZ E below args s (rmOf 9 0 0) (some (vI q.1)) q.2) 0 0 M 176 [(0, vR l0), (1, vI l1), (2, vI l2), (3, vI l3)] []) {l0 l1 l2 l3 : Int} {M : Mem} (F : Fx E p s m args meth c cX9_questions 4 yX9_questions.cls (some FieldType.int) yX9_questions.name) (h : bX9_questions_176 k111 k176 l0 l1 l2 l3 M = some q) : G E p l e (rmOf 9 0 0) s m args below meth c 4 (QZ E below args s (rmOf 9 0 0) (some (vI q.1)) q.2) 0 0 M 176 [(0, vR l0), (1, vI l1), (2, vI l2), (3, vI l3)] [] := by
  unfold bX9_questions_176 at h
  refine r_iload_n (j := 3) F rfl rfl dX9_questions_176 ?_
  refine r_iconst F rfl dX9_questions_177 ?_
  refine r_iload_n (j := 1) F rfl rfl dX9_questions_178 ?_
  refine r_ishl F dX9_questions_179 ?_
  refine r_icmp_ge (tgt := 201) F (by decide) dX9_questions_180 (fun hc => ?_) (fun hc => ?_)
  · replace h := ite_p h hc
    refine r_iinc (j := 2) (ls' := [(2, vI (wI (l2 + 1))), (0, vR l0), (1, vI l1), (3, vI l3)]) F rfl (by decide) rfl dX9_questions_201 ?_
    refine r_goto (tgt := 111) F (by decide) dX9_questions_204 ?_
    refine r_sub [1, 2, 0] (ls' := [(0, vR l0), (1, vI l1), (2, vI (wI (l2 + 1)))]) rfl ?_
    exact hk111 h
  · replace h := ite_n h hc
    refine r_aload_n (j := 0) F rfl rfl dX9_questions_183 ?_
    replace h := bind_so h
    obtain ⟨a184, h184, h⟩ := h
    refine r_getT (t := 2) rfl clok_9 F (by decide) h184 tw_1356 dX9_questions_184 ?_
    refine r_iload_n (j := 3) F rfl rfl dX9_questions_187 ?_
    refine r_aload_n (j := 0) F rfl rfl dX9_questions_188 ?_
    replace h := bind_so h
    obtain ⟨a189, h189, h⟩ := h
    refine r_getT (t := 2) rfl clok_9 F (by decide) h189 tw_1357 dX9_questions_189 ?_
    refine r_iload_n (j := 3) F rfl rfl dX9_questions_192 ?_
    replace h := bind_so h
    obtain ⟨a193, h193, h⟩ := h
    refine r_zald F h193 dX9_questions_193 ?_
    replace h := bind_so h
    obtain ⟨M194, h194, h⟩ := h
    refine r_zast F h194 dX9_questions_194 ?_
    refine r_iinc (j := 3) (ls' := [(3, vI (wI (l3 + 1))), (0, vR l0), (1, vI l1), (2, vI l2)]) F rfl (by decide) rfl dX9_questions_195 ?_
    refine r_goto (tgt := 176) F (by decide) dX9_questions_198 ?_
    refine r_sub [1, 2, 3, 0] (ls' := [(0, vR l0), (1, vI l1), (2, vI l2), (3, vI (wI (l3 + 1)))]) rfl ?_
    exact hk176 h
theorem tX9_questions_176 {E : En} {p : Program} {l : Launch} {e : Env} {s : State} {m : MethodId} {args : Array Value} {below : List Frame} {meth : Method} {c : Code} {q : Int × Mem} {k111 : Int → Int → Int → Mem → Option (Int × Mem)} (hk111 : ∀ {l0 l1 l2 : Int} {M : Mem}, k111 l0 l1 l2 M = some q → G E p l e (rmOf 9 0 0) s m args below meth c 4 (QZ E below args s (rmOf 9 0 0) (some (vI q.1)) q.2) 0 0 M 111 [(0, vR l0), (1, vI l1), (2, vI l2)] []) (F : Fx E p s m args meth c cX9_questions 4 yX9_questions.cls (some FieldType.int) yX9_questions.name) : ∀ {fu : Nat} {l0 l1 l2 l3 : Int} {M : Mem}, mX9_questions_176 k111 fu l0 l1 l2 l3 M = some q → G E p l e (rmOf 9 0 0) s m args below meth c 4 (QZ E below args s (rmOf 9 0 0) (some (vI q.1)) q.2) 0 0 M 176 [(0, vR l0), (1, vI l1), (2, vI l2), (3, vI l3)] [] := by
  intro fu
  induction fu with
  | zero => intro l0 l1 l2 l3 M h; exact nomatch (show (none : Option (Int × Mem)) = some q from h)
  | succ fu ih => intro l0 l1 l2 l3 M h; exact tbX9_questions_176 (fun h => hk111 h) (fun h => ih h) F h
theorem tX9_questions_167 {E : En} {p : Program} {l : Launch} {e : Env} {s : State} {m : MethodId} {args : Array Value} {below : List Frame} {meth : Method} {c : Code} {q : Int × Mem} {k111 : Int → Int → Int → Mem → Option (Int × Mem)} {k133 : Int → Int → Int → Int → Mem → Option (Int × Mem)} (hk111 : ∀ {l0 l1 l2 : Int} {M : Mem}, k111 l0 l1 l2 M = some q → G E p l e (rmOf 9 0 0) s m args below meth c 4 (QZ E below args s (rmOf 9 0 0) (some (vI q.1)) q.2) 0 0 M 111 [(0, vR l0), (1, vI l1), (2, vI l2)] []) (hk133 : ∀ {l0 l1 l2 l3 : Int} {M : Mem}, k133 l0 l1 l2 l3 M = some q → G E p l e (rmOf 9 0 0) s m args below meth c 4 (QZ E below args s (rmOf 9 0 0) (some (vI q.1)) q.2) 0 0 M 133 [(0, vR l0), (1, vI l1), (2, vI l2), (3, vI l3)] []) {l0 l1 l2 l3 s0 s1 s2 : Int} {M : Mem} (F : Fx E p s m args meth c cX9_questions 4 yX9_questions.cls (some FieldType.int) yX9_questions.name) (h : mX9_questions_167 k111 k133 l0 l1 l2 l3 s0 s1 s2 M = some q) : G E p l e (rmOf 9 0 0) s m args below meth c 4 (QZ E below args s (rmOf 9 0 0) (some (vI q.1)) q.2) 0 0 M 167 [(0, vR l0), (1, vI l1), (2, vI l2), (3, vI l3)] [vI s2, vI s1, vR s0] := by
  unfold mX9_questions_167 at h
  replace h := bind_so h
  obtain ⟨M167, h167, h⟩ := h
  refine r_zast F h167 dX9_questions_167 ?_
  refine r_iinc (j := 3) (ls' := [(3, vI (wI (l3 + 1))), (0, vR l0), (1, vI l1), (2, vI l2)]) F rfl (by decide) rfl dX9_questions_168 ?_
  refine r_goto (tgt := 133) F (by decide) dX9_questions_171 ?_
  refine r_sub [1, 2, 3, 0] (ls' := [(0, vR l0), (1, vI l1), (2, vI l2), (3, vI (wI (l3 + 1)))]) rfl ?_
  exact hk133 h
theorem tX9_questions_162 {E : En} {p : Program} {l : Launch} {e : Env} {s : State} {m : MethodId} {args : Array Value} {below : List Frame} {meth : Method} {c : Code} {q : Int × Mem} {k111 : Int → Int → Int → Mem → Option (Int × Mem)} {k133 : Int → Int → Int → Int → Mem → Option (Int × Mem)} (hk111 : ∀ {l0 l1 l2 : Int} {M : Mem}, k111 l0 l1 l2 M = some q → G E p l e (rmOf 9 0 0) s m args below meth c 4 (QZ E below args s (rmOf 9 0 0) (some (vI q.1)) q.2) 0 0 M 111 [(0, vR l0), (1, vI l1), (2, vI l2)] []) (hk133 : ∀ {l0 l1 l2 l3 : Int} {M : Mem}, k133 l0 l1 l2 l3 M = some q → G E p l e (rmOf 9 0 0) s m args below meth c 4 (QZ E below args s (rmOf 9 0 0) (some (vI q.1)) q.2) 0 0 M 133 [(0, vR l0), (1, vI l1), (2, vI l2), (3, vI l3)] []) {l0 l1 l2 l3 s0 s1 : Int} {M : Mem} (F : Fx E p s m args meth c cX9_questions 4 yX9_questions.cls (some FieldType.int) yX9_questions.name) (h : mX9_questions_162 k111 k133 l0 l1 l2 l3 s0 s1 M = some q) : G E p l e (rmOf 9 0 0) s m args below meth c 4 (QZ E below args s (rmOf 9 0 0) (some (vI q.1)) q.2) 0 0 M 162 [(0, vR l0), (1, vI l1), (2, vI l2), (3, vI l3)] [vI s1, vR s0] := by
  unfold mX9_questions_162 at h
  refine r_iconst F rfl dX9_questions_162 ?_
  refine r_goto (tgt := 167) F (by decide) dX9_questions_163 ?_
  refine r_sub [0, 1, 2, 3] (ls' := [(0, vR l0), (1, vI l1), (2, vI l2), (3, vI l3)]) rfl ?_
  exact tX9_questions_167 (fun h => hk111 h) (fun h => hk133 h) F h
theorem tbX9_questions_133 {E : En} {p : Program} {l : Launch} {e : Env} {s : State} {m : MethodId} {args : Array Value} {below : List Frame} {meth : Method} {c : Code} {q : Int × Mem} {k111 : Int → Int → Int → Mem → Option (Int × Mem)} (hk111 : ∀ {l0 l1 l2 : Int} {M : Mem}, k111 l0 l1 l2 M = some q → G E p l e (rmOf 9 0 0) s m args below meth c 4 (QZ E below args s (rmOf 9 0 0) (some (vI q.1)) q.2) 0 0 M 111 [(0, vR l0), (1, vI l1), (2, vI l2)] []) {k133 : Int → Int → Int → Int → Mem → Option (Int × Mem)} (hk133 : ∀ {l0 l1 l2 l3 : Int} {M : Mem}, k133 l0 l1 l2 l3 M = some q → G E p l e (rmOf 9 0 0) s m args below meth c 4 (QZ E below args s (rmOf 9 0 0) (some (vI q.1)) q.2) 0 0 M 133 [(0, vR l0), (1, vI l1), (2, vI l2), (3, vI l3)] []) {l0 l1 l2 l3 : Int} {M : Mem} (F : Fx E p s m args meth c cX9_questions 4 yX9_questions.cls (some FieldType.int) yX9_questions.name) (h : bX9_questions_133 k111 k133 l0 l1 l2 l3 M = some q) : G E p l e (rmOf 9 0 0) s m args below meth c 4 (QZ E below args s (rmOf 9 0 0) (some (vI q.1)) q.2) 0 0 M 133 [(0, vR l0), (1, vI l1), (2, vI l2), (3, vI l3)] [] := by
  unfold bX9_questions_133 at h
  refine r_iload_n (j := 3) F rfl rfl dX9_questions_133 ?_
  refine r_iconst F rfl dX9_questions_134 ?_
  refine r_iload_n (j := 1) F rfl rfl dX9_questions_135 ?_
  refine r_ishl F dX9_questions_136 ?_
  refine r_icmp_ge (tgt := 174) F (by decide) dX9_questions_137 (fun hc => ?_) (fun hc => ?_)
  · replace h := ite_p h hc
    refine r_iconst F rfl dX9_questions_174 ?_
    refine r_istore_n (ls' := [(3, vI 0), (0, vR l0), (1, vI l1), (2, vI l2)]) F rfl (by decide) rfl dX9_questions_175 ?_
    refine r_sub [1, 2, 3, 0] (ls' := [(0, vR l0), (1, vI l1), (2, vI l2), (3, vI 0)]) rfl ?_
    exact tX9_questions_176 (fun h => hk111 h) F h
  · replace h := ite_n h hc
    refine r_aload_n (j := 0) F rfl rfl dX9_questions_140 ?_
    replace h := bind_so h
    obtain ⟨a141, h141, h⟩ := h
    refine r_getT (t := 2) rfl clok_9 F (by decide) h141 tw_1357 dX9_questions_141 ?_
    refine r_iload_n (j := 3) F rfl rfl dX9_questions_144 ?_
    refine r_aload_n (j := 0) F rfl rfl dX9_questions_145 ?_
    replace h := bind_so h
    obtain ⟨a146, h146, h⟩ := h
    refine r_getT (t := 2) rfl clok_9 F (by decide) h146 tw_1356 dX9_questions_146 ?_
    refine r_iload_n (j := 3) F rfl rfl dX9_questions_149 ?_
    replace h := bind_so h
    obtain ⟨a150, h150, h⟩ := h
    refine r_zald F h150 dX9_questions_150 ?_
    refine r_if_ne (tgt := 162) F (by decide) dX9_questions_151 (fun hc => ?_) (fun hc => ?_)
    · replace h := ite_n h hc
      refine r_sub [0, 1, 2, 3] (ls' := [(0, vR l0), (1, vI l1), (2, vI l2), (3, vI l3)]) rfl ?_
      exact tX9_questions_162 (fun h => hk111 h) (fun h => hk133 h) F h
    · replace h := ite_p h hc
      refine r_aload_n (j := 0) F rfl rfl dX9_questions_154 ?_
      refine r_iload_n (j := 3) F rfl rfl dX9_questions_155 ?_
      replace h := bind_so h
      obtain ⟨_, g156, h⟩ := h
      replace h := bind_so h
      obtain ⟨q156, h156, h⟩ := h
      refine r_callV (as := [vI l3]) (rv := (some (vI q156.1))) (kc := 0) (nc := 0) (tX9_asks h156) clok_9 F (gK_so g156) tw_1868 tw_1870 tw_109 tw_1871 tw_122 ⟨by decide, by decide, show (parseMethodDescriptor yX9_asks.desc).map (fun d => d.parameters.length) = some 1 by decide +kernel⟩ ⟨by decide, by decide⟩ (Nat.le_of_ble_eq_true rfl) dX9_questions_156 ?_
      refine r_if_eq (tgt := 166) F (by decide) dX9_questions_159 (fun hc => ?_) (fun hc => ?_)
      · replace h := ite_p h hc
        refine r_iconst F rfl dX9_questions_166 ?_
        refine r_sub [0, 1, 2, 3] (ls' := [(0, vR l0), (1, vI l1), (2, vI l2), (3, vI l3)]) rfl ?_
        exact tX9_questions_167 (fun h => hk111 h) (fun h => hk133 h) F h
      · replace h := ite_n h hc
        refine r_sub [0, 1, 2, 3] (ls' := [(0, vR l0), (1, vI l1), (2, vI l2), (3, vI l3)]) rfl ?_
        exact tX9_questions_162 (fun h => hk111 h) (fun h => hk133 h) F h
theorem tX9_questions_133 {E : En} {p : Program} {l : Launch} {e : Env} {s : State} {m : MethodId} {args : Array Value} {below : List Frame} {meth : Method} {c : Code} {q : Int × Mem} {k111 : Int → Int → Int → Mem → Option (Int × Mem)} (hk111 : ∀ {l0 l1 l2 : Int} {M : Mem}, k111 l0 l1 l2 M = some q → G E p l e (rmOf 9 0 0) s m args below meth c 4 (QZ E below args s (rmOf 9 0 0) (some (vI q.1)) q.2) 0 0 M 111 [(0, vR l0), (1, vI l1), (2, vI l2)] []) (F : Fx E p s m args meth c cX9_questions 4 yX9_questions.cls (some FieldType.int) yX9_questions.name) : ∀ {fu : Nat} {l0 l1 l2 l3 : Int} {M : Mem}, mX9_questions_133 k111 fu l0 l1 l2 l3 M = some q → G E p l e (rmOf 9 0 0) s m args below meth c 4 (QZ E below args s (rmOf 9 0 0) (some (vI q.1)) q.2) 0 0 M 133 [(0, vR l0), (1, vI l1), (2, vI l2), (3, vI l3)] [] := by
  intro fu
  induction fu with
  | zero => intro l0 l1 l2 l3 M h; exact nomatch (show (none : Option (Int × Mem)) = some q from h)
  | succ fu ih => intro l0 l1 l2 l3 M h; exact tbX9_questions_133 (fun h => hk111 h) (fun h => ih h) F h
theorem tbX9_questions_111 {E : En} {p : Program} {l : Launch} {e : Env} {s : State} {m : MethodId} {args : Array Value} {below : List Frame} {meth : Method} {c : Code} {q : Int × Mem} {k111 : Int → Int → Int → Mem → Option (Int × Mem)} (hk111 : ∀ {l0 l1 l2 : Int} {M : Mem}, k111 l0 l1 l2 M = some q → G E p l e (rmOf 9 0 0) s m args below meth c 4 (QZ E below args s (rmOf 9 0 0) (some (vI q.1)) q.2) 0 0 M 111 [(0, vR l0), (1, vI l1), (2, vI l2)] []) {l0 l1 l2 : Int} {M : Mem} (F : Fx E p s m args meth c cX9_questions 4 yX9_questions.cls (some FieldType.int) yX9_questions.name) (h : bX9_questions_111 k111 l0 l1 l2 M = some q) : G E p l e (rmOf 9 0 0) s m args below meth c 4 (QZ E below args s (rmOf 9 0 0) (some (vI q.1)) q.2) 0 0 M 111 [(0, vR l0), (1, vI l1), (2, vI l2)] [] := by
  unfold bX9_questions_111 at h
  refine r_iload_n (j := 2) F rfl rfl dX9_questions_111 ?_
  refine r_iconst F rfl dX9_questions_112 ?_
  refine r_icmp_gt (tgt := 207) F (by decide) dX9_questions_113 (fun hc => ?_) (fun hc => ?_)
  · replace h := ite_p h hc
    refine r_iconst F rfl dX9_questions_207 ?_
    obtain rfl := Option.some.inj h
    exact r_iret F dX9_questions_208
  · replace h := ite_n h hc
    refine r_aload_n (j := 0) F rfl rfl dX9_questions_116 ?_
    replace h := bind_so h
    obtain ⟨a117, h117, h⟩ := h
    refine r_getT (t := 2) rfl clok_9 F (by decide) h117 tw_1356 dX9_questions_117 ?_
    refine r_iconst F rfl dX9_questions_120 ?_
    refine r_iload_n (j := 1) F rfl rfl dX9_questions_121 ?_
    refine r_ishl F dX9_questions_122 ?_
    refine r_iconst F rfl dX9_questions_123 ?_
    refine r_isub F dX9_questions_124 ?_
    replace h := bind_so h
    obtain ⟨a125, h125, h⟩ := h
    refine r_zald F h125 dX9_questions_125 ?_
    refine r_if_eq (tgt := 131) F (by decide) dX9_questions_126 (fun hc => ?_) (fun hc => ?_)
    · replace h := ite_p h hc
      refine r_iconst F rfl dX9_questions_131 ?_
      refine r_istore_n (ls' := [(3, vI 0), (0, vR l0), (1, vI l1), (2, vI l2)]) F rfl (by decide) rfl dX9_questions_132 ?_
      refine r_sub [1, 2, 3, 0] (ls' := [(0, vR l0), (1, vI l1), (2, vI l2), (3, vI 0)]) rfl ?_
      exact tX9_questions_133 (fun h => hk111 h) F h
    · replace h := ite_n h hc
      refine r_iload_n (j := 2) F rfl rfl dX9_questions_129 ?_
      obtain rfl := Option.some.inj h
      exact r_iret F dX9_questions_130
theorem tX9_questions_111 {E : En} {p : Program} {l : Launch} {e : Env} {s : State} {m : MethodId} {args : Array Value} {below : List Frame} {meth : Method} {c : Code} {q : Int × Mem} (F : Fx E p s m args meth c cX9_questions 4 yX9_questions.cls (some FieldType.int) yX9_questions.name) : ∀ {fu : Nat} {l0 l1 l2 : Int} {M : Mem}, mX9_questions_111 fu l0 l1 l2 M = some q → G E p l e (rmOf 9 0 0) s m args below meth c 4 (QZ E below args s (rmOf 9 0 0) (some (vI q.1)) q.2) 0 0 M 111 [(0, vR l0), (1, vI l1), (2, vI l2)] [] := by
  intro fu
  induction fu with
  | zero => intro l0 l1 l2 M h; exact nomatch (show (none : Option (Int × Mem)) = some q from h)
  | succ fu ih => intro l0 l1 l2 M h; exact tbX9_questions_111  (fun h => ih h) F h
theorem tX9_questions_102 {E : En} {p : Program} {l : Launch} {e : Env} {s : State} {m : MethodId} {args : Array Value} {below : List Frame} {meth : Method} {c : Code} {q : Int × Mem} {k77 : Int → Int → Int → Mem → Option (Int × Mem)} (hk77 : ∀ {l0 l1 l2 : Int} {M : Mem}, k77 l0 l1 l2 M = some q → G E p l e (rmOf 9 0 0) s m args below meth c 4 (QZ E below args s (rmOf 9 0 0) (some (vI q.1)) q.2) 0 0 M 77 [(0, vR l0), (1, vI l1), (2, vI l2)] []) {l0 l1 l2 s0 s1 s2 : Int} {M : Mem} (F : Fx E p s m args meth c cX9_questions 4 yX9_questions.cls (some FieldType.int) yX9_questions.name) (h : mX9_questions_102 k77 l0 l1 l2 s0 s1 s2 M = some q) : G E p l e (rmOf 9 0 0) s m args below meth c 4 (QZ E below args s (rmOf 9 0 0) (some (vI q.1)) q.2) 0 0 M 102 [(0, vR l0), (1, vI l1), (2, vI l2)] [vI s2, vI s1, vR s0] := by
  unfold mX9_questions_102 at h
  replace h := bind_so h
  obtain ⟨M102, h102, h⟩ := h
  refine r_zast F h102 dX9_questions_102 ?_
  refine r_iinc (j := 2) (ls' := [(2, vI (wI (l2 + 1))), (0, vR l0), (1, vI l1)]) F rfl (by decide) rfl dX9_questions_103 ?_
  refine r_goto (tgt := 77) F (by decide) dX9_questions_106 ?_
  refine r_sub [1, 2, 0] (ls' := [(0, vR l0), (1, vI l1), (2, vI (wI (l2 + 1)))]) rfl ?_
  exact hk77 h
theorem tbX9_questions_77 {E : En} {p : Program} {l : Launch} {e : Env} {s : State} {m : MethodId} {args : Array Value} {below : List Frame} {meth : Method} {c : Code} {q : Int × Mem} {k77 : Int → Int → Int → Mem → Option (Int × Mem)} (hk77 : ∀ {l0 l1 l2 : Int} {M : Mem}, k77 l0 l1 l2 M = some q → G E p l e (rmOf 9 0 0) s m args below meth c 4 (QZ E below args s (rmOf 9 0 0) (some (vI q.1)) q.2) 0 0 M 77 [(0, vR l0), (1, vI l1), (2, vI l2)] []) {l0 l1 l2 : Int} {M : Mem} (F : Fx E p s m args meth c cX9_questions 4 yX9_questions.cls (some FieldType.int) yX9_questions.name) (h : bX9_questions_77 k77 l0 l1 l2 M = some q) : G E p l e (rmOf 9 0 0) s m args below meth c 4 (QZ E below args s (rmOf 9 0 0) (some (vI q.1)) q.2) 0 0 M 77 [(0, vR l0), (1, vI l1), (2, vI l2)] [] := by
  unfold bX9_questions_77 at h
  refine r_iload_n (j := 2) F rfl rfl dX9_questions_77 ?_
  refine r_iconst F rfl dX9_questions_78 ?_
  refine r_iload_n (j := 1) F rfl rfl dX9_questions_79 ?_
  refine r_ishl F dX9_questions_80 ?_
  refine r_icmp_ge (tgt := 109) F (by decide) dX9_questions_81 (fun hc => ?_) (fun hc => ?_)
  · replace h := ite_p h hc
    refine r_iconst F rfl dX9_questions_109 ?_
    refine r_istore_n (ls' := [(2, vI 0), (0, vR l0), (1, vI l1)]) F rfl (by decide) rfl dX9_questions_110 ?_
    refine r_sub [1, 2, 0] (ls' := [(0, vR l0), (1, vI l1), (2, vI 0)]) rfl ?_
    exact tX9_questions_111 F h
  · replace h := ite_n h hc
    refine r_aload_n (j := 0) F rfl rfl dX9_questions_84 ?_
    replace h := bind_so h
    obtain ⟨a85, h85, h⟩ := h
    refine r_getT (t := 2) rfl clok_9 F (by decide) h85 tw_1356 dX9_questions_85 ?_
    refine r_iload_n (j := 2) F rfl rfl dX9_questions_88 ?_
    refine r_iload_n (j := 2) F rfl rfl dX9_questions_89 ?_
    refine r_iload_n (j := 2) F rfl rfl dX9_questions_90 ?_
    refine r_iconst F rfl dX9_questions_91 ?_
    refine r_isub F dX9_questions_92 ?_
    refine r_iand F dX9_questions_93 ?_
    refine r_if_ne (tgt := 101) F (by decide) dX9_questions_94 (fun hc => ?_) (fun hc => ?_)
    · replace h := ite_n h hc
      refine r_iconst F rfl dX9_questions_101 ?_
      refine r_sub [0, 1, 2] (ls' := [(0, vR l0), (1, vI l1), (2, vI l2)]) rfl ?_
      exact tX9_questions_102 (fun h => hk77 h) F h
    · replace h := ite_p h hc
      refine r_iconst F rfl dX9_questions_97 ?_
      refine r_goto (tgt := 102) F (by decide) dX9_questions_98 ?_
      refine r_sub [0, 1, 2] (ls' := [(0, vR l0), (1, vI l1), (2, vI l2)]) rfl ?_
      exact tX9_questions_102 (fun h => hk77 h) F h
theorem tX9_questions_77 {E : En} {p : Program} {l : Launch} {e : Env} {s : State} {m : MethodId} {args : Array Value} {below : List Frame} {meth : Method} {c : Code} {q : Int × Mem} (F : Fx E p s m args meth c cX9_questions 4 yX9_questions.cls (some FieldType.int) yX9_questions.name) : ∀ {fu : Nat} {l0 l1 l2 : Int} {M : Mem}, mX9_questions_77 fu l0 l1 l2 M = some q → G E p l e (rmOf 9 0 0) s m args below meth c 4 (QZ E below args s (rmOf 9 0 0) (some (vI q.1)) q.2) 0 0 M 77 [(0, vR l0), (1, vI l1), (2, vI l2)] [] := by
  intro fu
  induction fu with
  | zero => intro l0 l1 l2 M h; exact nomatch (show (none : Option (Int × Mem)) = some q from h)
  | succ fu ih => intro l0 l1 l2 M h; exact tbX9_questions_77  (fun h => ih h) F h
theorem tX9_questions_58 {E : En} {p : Program} {l : Launch} {e : Env} {s : State} {m : MethodId} {args : Array Value} {below : List Frame} {meth : Method} {c : Code} {q : Int × Mem} {k22 : Int → Int → Int → Mem → Option (Int × Mem)} (hk22 : ∀ {l0 l1 l2 : Int} {M : Mem}, k22 l0 l1 l2 M = some q → G E p l e (rmOf 9 0 0) s m args below meth c 4 (QZ E below args s (rmOf 9 0 0) (some (vI q.1)) q.2) 0 0 M 22 [(0, vR l0), (1, vI l1), (2, vI l2)] []) {l0 l1 l2 : Int} {M : Mem} (F : Fx E p s m args meth c cX9_questions 4 yX9_questions.cls (some FieldType.int) yX9_questions.name) (h : mX9_questions_58 k22 l0 l1 l2 M = some q) : G E p l e (rmOf 9 0 0) s m args below meth c 4 (QZ E below args s (rmOf 9 0 0) (some (vI q.1)) q.2) 0 0 M 58 [(0, vR l0), (1, vI l1), (2, vI l2)] [] := by
  unfold mX9_questions_58 at h
  refine r_iinc (j := 2) (ls' := [(2, vI (wI (l2 + 1))), (0, vR l0), (1, vI l1)]) F rfl (by decide) rfl dX9_questions_58 ?_
  refine r_goto (tgt := 22) F (by decide) dX9_questions_61 ?_
  refine r_sub [1, 2, 0] (ls' := [(0, vR l0), (1, vI l1), (2, vI (wI (l2 + 1)))]) rfl ?_
  exact hk22 h
theorem tbX9_questions_22 {E : En} {p : Program} {l : Launch} {e : Env} {s : State} {m : MethodId} {args : Array Value} {below : List Frame} {meth : Method} {c : Code} {q : Int × Mem} {k22 : Int → Int → Int → Mem → Option (Int × Mem)} (hk22 : ∀ {l0 l1 l2 : Int} {M : Mem}, k22 l0 l1 l2 M = some q → G E p l e (rmOf 9 0 0) s m args below meth c 4 (QZ E below args s (rmOf 9 0 0) (some (vI q.1)) q.2) 0 0 M 22 [(0, vR l0), (1, vI l1), (2, vI l2)] []) {l0 l1 l2 : Int} {M : Mem} (F : Fx E p s m args meth c cX9_questions 4 yX9_questions.cls (some FieldType.int) yX9_questions.name) (h : bX9_questions_22 k22 l0 l1 l2 M = some q) : G E p l e (rmOf 9 0 0) s m args below meth c 4 (QZ E below args s (rmOf 9 0 0) (some (vI q.1)) q.2) 0 0 M 22 [(0, vR l0), (1, vI l1), (2, vI l2)] [] := by
  unfold bX9_questions_22 at h
  refine r_iload_n (j := 2) F rfl rfl dX9_questions_22 ?_
  refine r_iconst F rfl dX9_questions_23 ?_
  refine r_aload_n (j := 0) F rfl rfl dX9_questions_24 ?_
  replace h := bind_so h
  obtain ⟨_, g25, h⟩ := h
  replace h := bind_so h
  obtain ⟨q25, h25, h⟩ := h
  refine r_callV (as := []) (rv := (some (vI q25.1))) (kc := 0) (nc := 0) (tX9_manyFacts h25) clok_9 F (gK_so g25) tw_1518 tw_1520 tw_58 tw_1521 tw_122 ⟨by decide, by decide, show (parseMethodDescriptor yX9_manyFacts.desc).map (fun d => d.parameters.length) = some 0 by decide +kernel⟩ ⟨by decide, by decide⟩ (Nat.le_of_ble_eq_true rfl) dX9_questions_25 ?_
  refine r_ishl F dX9_questions_28 ?_
  refine r_icmp_ge (tgt := 64) F (by decide) dX9_questions_29 (fun hc => ?_) (fun hc => ?_)
  · replace h := ite_p h hc
    refine r_iload_n (j := 1) F rfl rfl dX9_questions_64 ?_
    refine r_if_ne (tgt := 70) F (by decide) dX9_questions_65 (fun hc => ?_) (fun hc => ?_)
    · replace h := ite_n h hc
      refine r_aload_n (j := 0) F rfl rfl dX9_questions_70 ?_
      refine r_iload_n (j := 1) F rfl rfl dX9_questions_71 ?_
      replace h := bind_so h
      obtain ⟨_, g72, h⟩ := h
      replace h := bind_so h
      obtain ⟨q72, h72, h⟩ := h
      refine r_callV (as := [vI l1]) (rv := none) (kc := 0) (nc := 0) (tX9_findYes h72) clok_9 F (gK_so g72) tw_1864 tw_1866 tw_108 tw_1867 tw_122 ⟨by decide, by decide, show (parseMethodDescriptor yX9_findYes.desc).map (fun d => d.parameters.length) = some 1 by decide +kernel⟩ ⟨by decide, by decide⟩ (Nat.le_of_ble_eq_true rfl) dX9_questions_72 ?_
      refine r_iconst F rfl dX9_questions_75 ?_
      refine r_istore_n (ls' := [(2, vI 0), (0, vR l0), (1, vI l1)]) F rfl (by decide) rfl dX9_questions_76 ?_
      refine r_sub [1, 2, 0] (ls' := [(0, vR l0), (1, vI l1), (2, vI 0)]) rfl ?_
      exact tX9_questions_77 F h
    · replace h := ite_p h hc
      refine r_iconst F rfl dX9_questions_68 ?_
      obtain rfl := Option.some.inj h
      exact r_iret F dX9_questions_69
  · replace h := ite_n h hc
    refine r_aload_n (j := 0) F rfl rfl dX9_questions_32 ?_
    refine r_iload_n (j := 2) F rfl rfl dX9_questions_33 ?_
    replace h := bind_so h
    obtain ⟨_, g34, h⟩ := h
    replace h := bind_so h
    obtain ⟨q34, h34, h⟩ := h
    refine r_callV (as := [vI l2]) (rv := (some (vI q34.1))) (kc := 0) (nc := 0) (tX9_isWorld h34) clok_9 F (gK_so g34) tw_1778 tw_1780 tw_97 tw_1781 tw_122 ⟨by decide, by decide, show (parseMethodDescriptor yX9_isWorld.desc).map (fun d => d.parameters.length) = some 1 by decide +kernel⟩ ⟨by decide, by decide⟩ (Nat.le_of_ble_eq_true rfl) dX9_questions_34 ?_
    refine r_if_eq (tgt := 58) F (by decide) dX9_questions_37 (fun hc => ?_) (fun hc => ?_)
    · replace h := ite_p h hc
      refine r_sub [0, 1, 2] (ls' := [(0, vR l0), (1, vI l1), (2, vI l2)]) rfl ?_
      exact tX9_questions_58 (fun h => hk22 h) F h
    · replace h := ite_n h hc
      refine r_iload_n (j := 1) F rfl rfl dX9_questions_40 ?_
      refine r_bipush F rfl (by decide) dX9_questions_41 ?_
      refine r_icmp_ne (tgt := 48) F (by decide) dX9_questions_43 (fun hc => ?_) (fun hc => ?_)
      · replace h := ite_n h hc
        refine r_aload_n (j := 0) F rfl rfl dX9_questions_48 ?_
        replace h := bind_so h
        obtain ⟨a49, h49, h⟩ := h
        refine r_getT (t := 2) rfl clok_9 F (by decide) h49 tw_1355 dX9_questions_49 ?_
        refine r_iload_n (j := 1) F rfl rfl dX9_questions_52 ?_
        refine r_iload_n (j := 2) F rfl rfl dX9_questions_53 ?_
        replace h := bind_so h
        obtain ⟨M54, h54, h⟩ := h
        refine r_iast F h54 dX9_questions_54 ?_
        refine r_iinc (j := 1) (ls' := [(1, vI (wI (l1 + 1))), (0, vR l0), (2, vI l2)]) F rfl (by decide) rfl dX9_questions_55 ?_
        refine r_sub [1, 0, 2] (ls' := [(0, vR l0), (1, vI (wI (l1 + 1))), (2, vI l2)]) rfl ?_
        exact tX9_questions_58 (fun h => hk22 h) F h
      · replace h := ite_p h hc
        refine r_iconst F rfl dX9_questions_46 ?_
        obtain rfl := Option.some.inj h
        exact r_iret F dX9_questions_47
theorem tX9_questions_22 {E : En} {p : Program} {l : Launch} {e : Env} {s : State} {m : MethodId} {args : Array Value} {below : List Frame} {meth : Method} {c : Code} {q : Int × Mem} (F : Fx E p s m args meth c cX9_questions 4 yX9_questions.cls (some FieldType.int) yX9_questions.name) : ∀ {fu : Nat} {l0 l1 l2 : Int} {M : Mem}, mX9_questions_22 fu l0 l1 l2 M = some q → G E p l e (rmOf 9 0 0) s m args below meth c 4 (QZ E below args s (rmOf 9 0 0) (some (vI q.1)) q.2) 0 0 M 22 [(0, vR l0), (1, vI l1), (2, vI l2)] [] := by
  intro fu
  induction fu with
  | zero => intro l0 l1 l2 M h; exact nomatch (show (none : Option (Int × Mem)) = some q from h)
  | succ fu ih => intro l0 l1 l2 M h; exact tbX9_questions_22  (fun h => ih h) F h
theorem tX9_questions {l0 : Int} {M : Mem} {q : Int × Mem} (h : mX9_questions l0 M = some q) : Ct 9 0 0 yX9_questions cX9_questions 4 (some FieldType.int) [vR l0] M (some (vI q.1)) q.2 := by
  unfold mX9_questions at h
  refine Ct.of (by decide) (Nat.le_of_ble_eq_true rfl) ?_
  intro E p l e s m args below meth c F
  refine r_sub [0] (ls' := [(0, vR l0)]) rfl ?_
  refine r_aload_n (j := 0) F rfl rfl dX9_questions_0 ?_
  refine r_iconst F rfl dX9_questions_1 ?_
  replace h := bind_so h
  obtain ⟨M2, h2, h⟩ := h
  refine r_put clok_9 F (by decide) rfl (by decide) (by decide) h2 tw_1297 dX9_questions_2 ?_
  refine r_aload_n (j := 0) F rfl rfl dX9_questions_5 ?_
  replace h := bind_so h
  obtain ⟨_, g6, h⟩ := h
  replace h := bind_so h
  obtain ⟨q6, h6, h⟩ := h
  refine r_callV (as := []) (rv := (some (vI q6.1))) (kc := 0) (nc := 0) (tX9_canTell h6) clok_9 F (gK_so g6) tw_1554 tw_1556 tw_62 tw_1557 tw_122 ⟨by decide, by decide, show (parseMethodDescriptor yX9_canTell.desc).map (fun d => d.parameters.length) = some 0 by decide +kernel⟩ ⟨by decide, by decide⟩ (Nat.le_of_ble_eq_true rfl) dX9_questions_6 ?_
  refine r_if_ne (tgt := 14) F (by decide) dX9_questions_9 (fun hc => ?_) (fun hc => ?_)
  · replace h := ite_n h hc
    refine r_aload_n (j := 0) F rfl rfl dX9_questions_14 ?_
    replace h := bind_so h
    obtain ⟨_, g15, h⟩ := h
    replace h := bind_so h
    obtain ⟨q15, h15, h⟩ := h
    refine r_callV (as := []) (rv := none) (kc := 0) (nc := 0) (tX9_prepare h15) clok_9 F (gK_so g15) tw_1766 tw_1768 tw_94 tw_1769 tw_122 ⟨by decide, by decide, show (parseMethodDescriptor yX9_prepare.desc).map (fun d => d.parameters.length) = some 0 by decide +kernel⟩ ⟨by decide, by decide⟩ (Nat.le_of_ble_eq_true rfl) dX9_questions_15 ?_
    refine r_iconst F rfl dX9_questions_18 ?_
    refine r_istore_n (ls' := [(1, vI 0), (0, vR l0)]) F rfl (by decide) rfl dX9_questions_19 ?_
    refine r_iconst F rfl dX9_questions_20 ?_
    refine r_istore_n (ls' := [(2, vI 0), (1, vI 0), (0, vR l0)]) F rfl (by decide) rfl dX9_questions_21 ?_
    refine r_sub [2, 1, 0] (ls' := [(0, vR l0), (1, vI 0), (2, vI 0)]) rfl ?_
    exact tX9_questions_22 F h
  · replace h := ite_p h hc
    refine r_iconst F rfl dX9_questions_12 ?_
    obtain rfl := Option.some.inj h
    exact r_iret F dX9_questions_13
theorem tbX9_settle_125 {E : En} {p : Program} {l : Launch} {e : Env} {s : State} {m : MethodId} {args : Array Value} {below : List Frame} {meth : Method} {c : Code} {q : Int × Mem} {k125 : Int → Int → Int → Int → Int → Mem → Option (Int × Mem)} (hk125 : ∀ {l0 l1 l2 l3 l4 : Int} {M : Mem}, k125 l0 l1 l2 l3 l4 M = some q → G E p l e (rmOf 10 0 0) s m args below meth c 6 (QZ E below args s (rmOf 10 0 0) (some (vI q.1)) q.2) 0 0 M 125 [(0, vR l0), (1, vI l1), (2, vI l2), (3, vI l3), (4, vI l4)] []) {l0 l1 l2 l3 l4 : Int} {M : Mem} (F : Fx E p s m args meth c cX9_settle 6 yX9_settle.cls (some FieldType.int) yX9_settle.name) (h : bX9_settle_125 k125 l0 l1 l2 l3 l4 M = some q) : G E p l e (rmOf 10 0 0) s m args below meth c 6 (QZ E below args s (rmOf 10 0 0) (some (vI q.1)) q.2) 0 0 M 125 [(0, vR l0), (1, vI l1), (2, vI l2), (3, vI l3), (4, vI l4)] [] := by
  unfold bX9_settle_125 at h
  refine r_aload_n (j := 0) F rfl rfl dX9_settle_125 ?_
  replace h := bind_so h
  obtain ⟨a126, h126, h⟩ := h
  refine r_getT (t := 2) rfl clok_9 F (by decide) h126 tw_1324 dX9_settle_126 ?_
  refine r_iload (j := 4) F rfl dX9_settle_129 ?_
  refine r_iconst F rfl dX9_settle_131 ?_
  refine r_iadd F dX9_settle_132 ?_
  replace h := bind_so h
  obtain ⟨a133, h133, h⟩ := h
  refine r_iald F h133 dX9_settle_133 ?_
  refine r_iload_n (j := 2) F rfl rfl dX9_settle_134 ?_
  refine r_icmp_gt (tgt := 144) F (by decide) dX9_settle_135 (fun hc => ?_) (fun hc => ?_)
  · replace h := ite_p h hc
    refine r_aload_n (j := 0) F rfl rfl dX9_settle_144 ?_
    refine r_aload_n (j := 0) F rfl rfl dX9_settle_145 ?_
    replace h := bind_so h
    obtain ⟨a146, h146, h⟩ := h
    refine r_getT (t := 2) rfl clok_9 F (by decide) h146 tw_1307 dX9_settle_146 ?_
    refine r_iload (j := 4) F rfl dX9_settle_149 ?_
    replace h := bind_so h
    obtain ⟨a151, h151, h⟩ := h
    refine r_iald F h151 dX9_settle_151 ?_
    replace h := bind_so h
    obtain ⟨_, g152, h⟩ := h
    replace h := bind_so h
    obtain ⟨q152, h152, h⟩ := h
    refine r_callV (as := [vI a151]) (rv := (some (vI q152.1))) (kc := 0) (nc := 0) (tX9_sizeOf h152) clok_9 F (gK_so g152) tw_1514 tw_1516 tw_57 tw_1517 tw_122 ⟨by decide, by decide, show (parseMethodDescriptor yX9_sizeOf.desc).map (fun d => d.parameters.length) = some 1 by decide +kernel⟩ ⟨by decide, by decide⟩ (Nat.le_of_ble_eq_true rfl) dX9_settle_152 ?_
    refine r_istore (ls' := [(5, vI q152.1), (0, vR l0), (1, vI l1), (2, vI l2), (3, vI l3), (4, vI l4)]) F (by decide) rfl dX9_settle_155 ?_
    refine r_iload_n (j := 2) F rfl rfl dX9_settle_157 ?_
    refine r_if_ne (tgt := 166) F (by decide) dX9_settle_158 (fun hc => ?_) (fun hc => ?_)
    · replace h := ite_n h hc
      refine r_iload_n (j := 2) F rfl rfl dX9_settle_166 ?_
      refine r_iconst F rfl dX9_settle_167 ?_
      refine r_icmp_ne (tgt := 186) F (by decide) dX9_settle_168 (fun hc => ?_) (fun hc => ?_)
      · replace h := ite_n h hc
        refine r_iload_n (j := 2) F rfl rfl dX9_settle_186 ?_
        refine r_iconst F rfl dX9_settle_187 ?_
        refine r_icmp_ne (tgt := 195) F (by decide) dX9_settle_188 (fun hc => ?_) (fun hc => ?_)
        · replace h := ite_n h hc
          refine r_aload_n (j := 1) F rfl rfl dX9_settle_195 ?_
          replace h := bind_so h
          obtain ⟨a196, h196, h⟩ := h
          refine r_getT (t := 2) rfl clok_9 F (by decide) h196 tw_1307 dX9_settle_196 ?_
          refine r_iload (j := 5) F rfl dX9_settle_199 ?_
          replace h := bind_so h
          obtain ⟨a201, h201, h⟩ := h
          refine r_iald F h201 dX9_settle_201 ?_
          refine r_iconst F rfl dX9_settle_202 ?_
          refine r_icmp_ne (tgt := 210) F (by decide) dX9_settle_203 (fun hc => ?_) (fun hc => ?_)
          · replace h := ite_n h hc
            refine r_iload_n (j := 3) F rfl rfl dX9_settle_210 ?_
            refine r_aload_n (j := 1) F rfl rfl dX9_settle_211 ?_
            replace h := bind_so h
            obtain ⟨a212, h212, h⟩ := h
            refine r_getT (t := 2) rfl clok_9 F (by decide) h212 tw_1324 dX9_settle_212 ?_
            refine r_iload (j := 5) F rfl dX9_settle_215 ?_
            replace h := bind_so h
            obtain ⟨a217, h217, h⟩ := h
            refine r_iald F h217 dX9_settle_217 ?_
            refine r_isub F dX9_settle_218 ?_
            refine r_iload (j := 0) F rfl dX9_settle_219 ?_
            replace h := bind_so h
            obtain ⟨a221, h221, h⟩ := h
            refine r_iremq F h221 dX9_settle_221 ?_
            obtain rfl := Option.some.inj h
            exact r_iret F dX9_settle_222
          · replace h := ite_p h hc
            refine r_iconst F rfl dX9_settle_206 ?_
            refine r_goto (tgt := 222) F (by decide) dX9_settle_207 ?_
            obtain rfl := Option.some.inj h
            exact r_iret F dX9_settle_222
        · replace h := ite_p h hc
          refine r_iload_n (j := 4) F rfl rfl dX9_settle_191 ?_
          refine r_goto (tgt := 222) F (by decide) dX9_settle_192 ?_
          obtain rfl := Option.some.inj h
          exact r_iret F dX9_settle_222
      · replace h := ite_p h hc
        refine r_iload_n (j := 3) F rfl rfl dX9_settle_171 ?_
        refine r_aload_n (j := 1) F rfl rfl dX9_settle_172 ?_
        replace h := bind_so h
        obtain ⟨a173, h173, h⟩ := h
        refine r_getT (t := 2) rfl clok_9 F (by decide) h173 tw_1324 dX9_settle_173 ?_
        refine r_iload (j := 5) F rfl dX9_settle_176 ?_
        replace h := bind_so h
        obtain ⟨a178, h178, h⟩ := h
        refine r_iald F h178 dX9_settle_178 ?_
        refine r_isub F dX9_settle_179 ?_
        refine r_iload (j := 0) F rfl dX9_settle_180 ?_
        replace h := bind_so h
        obtain ⟨a182, h182, h⟩ := h
        refine r_idivq F h182 dX9_settle_182 ?_
        refine r_goto (tgt := 222) F (by decide) dX9_settle_183 ?_
        obtain rfl := Option.some.inj h
        exact r_iret F dX9_settle_222
    · replace h := ite_p h hc
      refine r_iload (j := 5) F rfl dX9_settle_161 ?_
      refine r_goto (tgt := 222) F (by decide) dX9_settle_163 ?_
      obtain rfl := Option.some.inj h
      exact r_iret F dX9_settle_222
  · replace h := ite_n h hc
    refine r_iinc (j := 4) (ls' := [(4, vI (wI (l4 + 1))), (0, vR l0), (1, vI l1), (2, vI l2), (3, vI l3)]) F rfl (by decide) rfl dX9_settle_138 ?_
    refine r_goto (tgt := 125) F (by decide) dX9_settle_141 ?_
    refine r_sub [1, 2, 3, 4, 0] (ls' := [(0, vR l0), (1, vI l1), (2, vI l2), (3, vI l3), (4, vI (wI (l4 + 1)))]) rfl ?_
    exact hk125 h
theorem tX9_settle_125 {E : En} {p : Program} {l : Launch} {e : Env} {s : State} {m : MethodId} {args : Array Value} {below : List Frame} {meth : Method} {c : Code} {q : Int × Mem} (F : Fx E p s m args meth c cX9_settle 6 yX9_settle.cls (some FieldType.int) yX9_settle.name) : ∀ {fu : Nat} {l0 l1 l2 l3 l4 : Int} {M : Mem}, mX9_settle_125 fu l0 l1 l2 l3 l4 M = some q → G E p l e (rmOf 10 0 0) s m args below meth c 6 (QZ E below args s (rmOf 10 0 0) (some (vI q.1)) q.2) 0 0 M 125 [(0, vR l0), (1, vI l1), (2, vI l2), (3, vI l3), (4, vI l4)] [] := by
  intro fu
  induction fu with
  | zero => intro l0 l1 l2 l3 l4 M h; exact nomatch (show (none : Option (Int × Mem)) = some q from h)
  | succ fu ih => intro l0 l1 l2 l3 l4 M h; exact tbX9_settle_125  (fun h => ih h) F h
theorem tX9_settle_116 {E : En} {p : Program} {l : Launch} {e : Env} {s : State} {m : MethodId} {args : Array Value} {below : List Frame} {meth : Method} {c : Code} {q : Int × Mem} {k50 : Int → Int → Int → Int → Int → Mem → Option (Int × Mem)} (hk50 : ∀ {l0 l1 l2 l3 l4 : Int} {M : Mem}, k50 l0 l1 l2 l3 l4 M = some q → G E p l e (rmOf 10 0 0) s m args below meth c 6 (QZ E below args s (rmOf 10 0 0) (some (vI q.1)) q.2) 0 0 M 50 [(0, vR l0), (1, vI l1), (2, vI l2), (3, vI l3), (4, vI l4)] []) {l0 l1 l2 l3 l4 : Int} {M : Mem} (F : Fx E p s m args meth c cX9_settle 6 yX9_settle.cls (some FieldType.int) yX9_settle.name) (h : mX9_settle_116 k50 l0 l1 l2 l3 l4 M = some q) : G E p l e (rmOf 10 0 0) s m args below meth c 6 (QZ E below args s (rmOf 10 0 0) (some (vI q.1)) q.2) 0 0 M 116 [(0, vR l0), (1, vI l1), (2, vI l2), (3, vI l3), (4, vI l4)] [] := by
  unfold mX9_settle_116 at h
  refine r_iinc (j := 4) (ls' := [(4, vI (wI (l4 + 1))), (0, vR l0), (1, vI l1), (2, vI l2), (3, vI l3)]) F rfl (by decide) rfl dX9_settle_116 ?_
  refine r_goto (tgt := 50) F (by decide) dX9_settle_119 ?_
  refine r_sub [1, 2, 3, 4, 0] (ls' := [(0, vR l0), (1, vI l1), (2, vI l2), (3, vI l3), (4, vI (wI (l4 + 1)))]) rfl ?_
  exact hk50 h
theorem tX9_settle_110 {E : En} {p : Program} {l : Launch} {e : Env} {s : State} {m : MethodId} {args : Array Value} {below : List Frame} {meth : Method} {c : Code} {q : Int × Mem} {k50 : Int → Int → Int → Int → Int → Mem → Option (Int × Mem)} (hk50 : ∀ {l0 l1 l2 l3 l4 : Int} {M : Mem}, k50 l0 l1 l2 l3 l4 M = some q → G E p l e (rmOf 10 0 0) s m args below meth c 6 (QZ E below args s (rmOf 10 0 0) (some (vI q.1)) q.2) 0 0 M 50 [(0, vR l0), (1, vI l1), (2, vI l2), (3, vI l3), (4, vI l4)] []) {l0 l1 l4 l5 : Int} {M : Mem} (F : Fx E p s m args meth c cX9_settle 6 yX9_settle.cls (some FieldType.int) yX9_settle.name) (h : mX9_settle_110 k50 l0 l1 l4 l5 M = some q) : G E p l e (rmOf 10 0 0) s m args below meth c 6 (QZ E below args s (rmOf 10 0 0) (some (vI q.1)) q.2) 0 0 M 110 [(0, vR l0), (1, vI l1), (4, vI l4), (5, vI l5)] [] := by
  unfold mX9_settle_110 at h
  refine r_iload (j := 2) F rfl dX9_settle_110 ?_
  refine r_istore_n (ls' := [(2, vI l4), (0, vR l0), (1, vI l1), (4, vI l4), (5, vI l5)]) F rfl (by decide) rfl dX9_settle_112 ?_
  refine r_iload (j := 4) F rfl dX9_settle_113 ?_
  refine r_istore_n (ls' := [(3, vI l5), (2, vI l4), (0, vR l0), (1, vI l1), (4, vI l4), (5, vI l5)]) F rfl (by decide) rfl dX9_settle_115 ?_
  refine r_sub [2, 3, 1, 0, 4] (ls' := [(0, vR l0), (1, vI l1), (2, vI l4), (3, vI l5), (4, vI l4)]) rfl ?_
  exact tX9_settle_116 (fun h => hk50 h) F h
theorem tX9_settle_97 {E : En} {p : Program} {l : Launch} {e : Env} {s : State} {m : MethodId} {args : Array Value} {below : List Frame} {meth : Method} {c : Code} {q : Int × Mem} {k50 : Int → Int → Int → Int → Int → Mem → Option (Int × Mem)} (hk50 : ∀ {l0 l1 l2 l3 l4 : Int} {M : Mem}, k50 l0 l1 l2 l3 l4 M = some q → G E p l e (rmOf 10 0 0) s m args below meth c 6 (QZ E below args s (rmOf 10 0 0) (some (vI q.1)) q.2) 0 0 M 50 [(0, vR l0), (1, vI l1), (2, vI l2), (3, vI l3), (4, vI l4)] []) {l0 l1 l2 l3 l4 s0 : Int} {M : Mem} (F : Fx E p s m args meth c cX9_settle 6 yX9_settle.cls (some FieldType.int) yX9_settle.name) (h : mX9_settle_97 k50 l0 l1 l2 l3 l4 s0 M = some q) : G E p l e (rmOf 10 0 0) s m args below meth c 6 (QZ E below args s (rmOf 10 0 0) (some (vI q.1)) q.2) 0 0 M 97 [(0, vR l0), (1, vI l1), (2, vI l2), (3, vI l3), (4, vI l4)] [vI s0] := by
  unfold mX9_settle_97 at h
  refine r_istore (ls' := [(5, vI s0), (0, vR l0), (1, vI l1), (2, vI l2), (3, vI l3), (4, vI l4)]) F (by decide) rfl dX9_settle_97 ?_
  refine r_iload_n (j := 3) F rfl rfl dX9_settle_99 ?_
  refine r_iconst F rfl dX9_settle_100 ?_
  refine r_icmp_eq (tgt := 110) F (by decide) dX9_settle_101 (fun hc => ?_) (fun hc => ?_)
  · replace h := ite_p h hc
    refine r_sub [1, 2, 5, 0] (ls' := [(0, vR l0), (1, vI l1), (4, vI l4), (5, vI s0)]) rfl ?_
    exact tX9_settle_110 (fun h => hk50 h) F h
  · replace h := ite_n h hc
    refine r_iload (j := 0) F rfl dX9_settle_104 ?_
    refine r_iload_n (j := 4) F rfl rfl dX9_settle_106 ?_
    refine r_icmp_ge (tgt := 116) F (by decide) dX9_settle_107 (fun hc => ?_) (fun hc => ?_)
    · replace h := ite_p h hc
      refine r_sub [1, 2, 3, 4, 5] (ls' := [(0, vR l0), (1, vI l1), (2, vI l2), (3, vI l3), (4, vI l4)]) rfl ?_
      exact tX9_settle_116 (fun h => hk50 h) F h
    · replace h := ite_n h hc
      refine r_sub [1, 2, 5, 0] (ls' := [(0, vR l0), (1, vI l1), (4, vI l4), (5, vI s0)]) rfl ?_
      exact tX9_settle_110 (fun h => hk50 h) F h
theorem tbX9_settle_50 {E : En} {p : Program} {l : Launch} {e : Env} {s : State} {m : MethodId} {args : Array Value} {below : List Frame} {meth : Method} {c : Code} {q : Int × Mem} {k50 : Int → Int → Int → Int → Int → Mem → Option (Int × Mem)} (hk50 : ∀ {l0 l1 l2 l3 l4 : Int} {M : Mem}, k50 l0 l1 l2 l3 l4 M = some q → G E p l e (rmOf 10 0 0) s m args below meth c 6 (QZ E below args s (rmOf 10 0 0) (some (vI q.1)) q.2) 0 0 M 50 [(0, vR l0), (1, vI l1), (2, vI l2), (3, vI l3), (4, vI l4)] []) {l0 l1 l2 l3 l4 : Int} {M : Mem} (F : Fx E p s m args meth c cX9_settle 6 yX9_settle.cls (some FieldType.int) yX9_settle.name) (h : bX9_settle_50 k50 l0 l1 l2 l3 l4 M = some q) : G E p l e (rmOf 10 0 0) s m args below meth c 6 (QZ E below args s (rmOf 10 0 0) (some (vI q.1)) q.2) 0 0 M 50 [(0, vR l0), (1, vI l1), (2, vI l2), (3, vI l3), (4, vI l4)] [] := by
  unfold bX9_settle_50 at h
  refine r_iload (j := 4) F rfl dX9_settle_50 ?_
  refine r_aload_n (j := 0) F rfl rfl dX9_settle_52 ?_
  replace h := bind_so h
  obtain ⟨_, g53, h⟩ := h
  replace h := bind_so h
  obtain ⟨q53, h53, h⟩ := h
  refine r_callV (as := []) (rv := (some (vI q53.1))) (kc := 0) (nc := 0) (tX9_manyFacts h53) clok_9 F (gK_so g53) tw_1518 tw_1520 tw_58 tw_1521 tw_122 ⟨by decide, by decide, show (parseMethodDescriptor yX9_manyFacts.desc).map (fun d => d.parameters.length) = some 0 by decide +kernel⟩ ⟨by decide, by decide⟩ (Nat.le_of_ble_eq_true rfl) dX9_settle_53 ?_
  refine r_icmp_ge (tgt := 122) F (by decide) dX9_settle_56 (fun hc => ?_) (fun hc => ?_)
  · replace h := ite_p h hc
    refine r_iconst F rfl dX9_settle_122 ?_
    refine r_istore (ls' := [(4, vI 0), (0, vR l0), (1, vI l1), (2, vI l2), (3, vI l3)]) F (by decide) rfl dX9_settle_123 ?_
    refine r_sub [1, 2, 3, 4, 0] (ls' := [(0, vR l0), (1, vI l1), (2, vI l2), (3, vI l3), (4, vI 0)]) rfl ?_
    exact tX9_settle_125 F h
  · replace h := ite_n h hc
    refine r_iconst F rfl dX9_settle_59 ?_
    refine r_aload_n (j := 0) F rfl rfl dX9_settle_60 ?_
    replace h := bind_so h
    obtain ⟨a61, h61, h⟩ := h
    refine r_getT (t := 2) rfl clok_9 F (by decide) h61 tw_1353 dX9_settle_61 ?_
    refine r_iload (j := 4) F rfl dX9_settle_64 ?_
    replace h := bind_so h
    obtain ⟨a66, h66, h⟩ := h
    refine r_iald F h66 dX9_settle_66 ?_
    refine r_imul F dX9_settle_67 ?_
    refine r_aload_n (j := 0) F rfl rfl dX9_settle_68 ?_
    replace h := bind_so h
    obtain ⟨a69, h69, h⟩ := h
    refine r_getT (t := 0) rfl clok_9 F (by decide) h69 tw_1354 dX9_settle_69 ?_
    refine r_icmp_le (tgt := 85) F (by decide) dX9_settle_72 (fun hc => ?_) (fun hc => ?_)
    · replace h := ite_p h hc
      refine r_aload_n (j := 0) F rfl rfl dX9_settle_85 ?_
      replace h := bind_so h
      obtain ⟨a86, h86, h⟩ := h
      refine r_getT (t := 0) rfl clok_9 F (by decide) h86 tw_1354 dX9_settle_86 ?_
      refine r_aload_n (j := 0) F rfl rfl dX9_settle_89 ?_
      replace h := bind_so h
      obtain ⟨a90, h90, h⟩ := h
      refine r_getT (t := 2) rfl clok_9 F (by decide) h90 tw_1353 dX9_settle_90 ?_
      refine r_iload (j := 4) F rfl dX9_settle_93 ?_
      replace h := bind_so h
      obtain ⟨a95, h95, h⟩ := h
      refine r_iald F h95 dX9_settle_95 ?_
      refine r_isub F dX9_settle_96 ?_
      refine r_sub [0, 1, 2, 3, 4] (ls' := [(0, vR l0), (1, vI l1), (2, vI l2), (3, vI l3), (4, vI l4)]) rfl ?_
      exact tX9_settle_97 (fun h => hk50 h) F h
    · replace h := ite_n h hc
      refine r_aload_n (j := 0) F rfl rfl dX9_settle_75 ?_
      replace h := bind_so h
      obtain ⟨a76, h76, h⟩ := h
      refine r_getT (t := 2) rfl clok_9 F (by decide) h76 tw_1353 dX9_settle_76 ?_
      refine r_iload (j := 4) F rfl dX9_settle_79 ?_
      replace h := bind_so h
      obtain ⟨a81, h81, h⟩ := h
      refine r_iald F h81 dX9_settle_81 ?_
      refine r_goto (tgt := 97) F (by decide) dX9_settle_82 ?_
      refine r_sub [0, 1, 2, 3, 4] (ls' := [(0, vR l0), (1, vI l1), (2, vI l2), (3, vI l3), (4, vI l4)]) rfl ?_
      exact tX9_settle_97 (fun h => hk50 h) F h
theorem tX9_settle_50 {E : En} {p : Program} {l : Launch} {e : Env} {s : State} {m : MethodId} {args : Array Value} {below : List Frame} {meth : Method} {c : Code} {q : Int × Mem} (F : Fx E p s m args meth c cX9_settle 6 yX9_settle.cls (some FieldType.int) yX9_settle.name) : ∀ {fu : Nat} {l0 l1 l2 l3 l4 : Int} {M : Mem}, mX9_settle_50 fu l0 l1 l2 l3 l4 M = some q → G E p l e (rmOf 10 0 0) s m args below meth c 6 (QZ E below args s (rmOf 10 0 0) (some (vI q.1)) q.2) 0 0 M 50 [(0, vR l0), (1, vI l1), (2, vI l2), (3, vI l3), (4, vI l4)] [] := by
  intro fu
  induction fu with
  | zero => intro l0 l1 l2 l3 l4 M h; exact nomatch (show (none : Option (Int × Mem)) = some q from h)
  | succ fu ih => intro l0 l1 l2 l3 l4 M h; exact tbX9_settle_50  (fun h => ih h) F h
theorem tX9_settle {l0 l1 : Int} {M : Mem} {q : Int × Mem} (h : mX9_settle l0 l1 M = some q) : Ct 10 0 0 yX9_settle cX9_settle 6 (some FieldType.int) [vR l0, vI l1] M (some (vI q.1)) q.2 := by
  unfold mX9_settle at h
  refine Ct.of (by decide) (Nat.le_of_ble_eq_true rfl) ?_
  intro E p l e s m args below meth c F
  refine r_sub [0, 1] (ls' := [(0, vR l0), (1, vI l1)]) rfl ?_
  refine r_aload_n (j := 0) F rfl rfl dX9_settle_0 ?_
  refine r_iconst F rfl dX9_settle_1 ?_
  replace h := bind_so h
  obtain ⟨M2, h2, h⟩ := h
  refine r_put clok_9 F (by decide) rfl (by decide) (by decide) h2 tw_1297 dX9_settle_2 ?_
  refine r_aload_n (j := 0) F rfl rfl dX9_settle_5 ?_
  replace h := bind_so h
  obtain ⟨_, g6, h⟩ := h
  replace h := bind_so h
  obtain ⟨q6, h6, h⟩ := h
  refine r_callV (as := []) (rv := (some (vI q6.1))) (kc := 0) (nc := 0) (tX9_canTell h6) clok_9 F (gK_so g6) tw_1554 tw_1556 tw_62 tw_1557 tw_122 ⟨by decide, by decide, show (parseMethodDescriptor yX9_canTell.desc).map (fun d => d.parameters.length) = some 0 by decide +kernel⟩ ⟨by decide, by decide⟩ (Nat.le_of_ble_eq_true rfl) dX9_settle_6 ?_
  refine r_if_eq (tgt := 28) F (by decide) dX9_settle_9 (fun hc => ?_) (fun hc => ?_)
  · replace h := ite_p h hc
    refine r_iconst F rfl dX9_settle_28 ?_
    obtain rfl := Option.some.inj h
    exact r_iret F dX9_settle_29
  · replace h := ite_n h hc
    refine r_aload_n (j := 0) F rfl rfl dX9_settle_12 ?_
    replace h := bind_so h
    obtain ⟨_, g13, h⟩ := h
    replace h := bind_so h
    obtain ⟨q13, h13, h⟩ := h
    refine r_callV (as := []) (rv := (some (vI q13.1))) (kc := 0) (nc := 0) (tX9_manyFacts h13) clok_9 F (gK_so g13) tw_1518 tw_1520 tw_58 tw_1521 tw_122 ⟨by decide, by decide, show (parseMethodDescriptor yX9_manyFacts.desc).map (fun d => d.parameters.length) = some 0 by decide +kernel⟩ ⟨by decide, by decide⟩ (Nat.le_of_ble_eq_true rfl) dX9_settle_13 ?_
    refine r_if_eq (tgt := 28) F (by decide) dX9_settle_16 (fun hc => ?_) (fun hc => ?_)
    · replace h := ite_p h hc
      refine r_iconst F rfl dX9_settle_28 ?_
      obtain rfl := Option.some.inj h
      exact r_iret F dX9_settle_29
    · replace h := ite_n h hc
      refine r_iload_n (j := 1) F rfl rfl dX9_settle_19 ?_
      refine r_iconst F rfl dX9_settle_20 ?_
      refine r_iconst F rfl dX9_settle_21 ?_
      replace h := bind_so h
      obtain ⟨q22, h22, h⟩ := h
      refine r_callS (as := [vI l1, vI 0, vI 3]) (rv := (some (vI q22.1))) (kc := 0) (nc := 0) (tX9_in h22) F tw_1491 tw_1492 tw_1493 tw_122 ⟨by decide, by decide, show (parseMethodDescriptor yX9_in.desc).map (fun d => d.parameters.length) = some 3 by decide +kernel⟩ ⟨by decide, by decide⟩ (Nat.le_of_ble_eq_true rfl) dX9_settle_22 ?_
      refine r_if_ne (tgt := 30) F (by decide) dX9_settle_25 (fun hc => ?_) (fun hc => ?_)
      · replace h := ite_n h hc
        refine r_aload_n (j := 0) F rfl rfl dX9_settle_30 ?_
        replace h := bind_so h
        obtain ⟨_, g31, h⟩ := h
        replace h := bind_so h
        obtain ⟨q31, h31, h⟩ := h
        refine r_callV (as := []) (rv := none) (kc := 0) (nc := 0) (tX9_countFacts h31) clok_9 F (gK_so g31) tw_1848 tw_1850 tw_107 tw_1851 tw_122 ⟨by decide, by decide, show (parseMethodDescriptor yX9_countFacts.desc).map (fun d => d.parameters.length) = some 0 by decide +kernel⟩ ⟨by decide, by decide⟩ (Nat.le_of_ble_eq_true rfl) dX9_settle_31 ?_
        refine r_aload_n (j := 0) F rfl rfl dX9_settle_34 ?_
        replace h := bind_so h
        obtain ⟨a35, h35, h⟩ := h
        refine r_getT (t := 0) rfl clok_9 F (by decide) h35 tw_1354 dX9_settle_35 ?_
        refine r_if_ne (tgt := 43) F (by decide) dX9_settle_38 (fun hc => ?_) (fun hc => ?_)
        · replace h := ite_n h hc
          refine r_iconst F rfl dX9_settle_43 ?_
          refine r_istore_n (ls' := [(2, vI (-1)), (0, vR l0), (1, vI l1)]) F rfl (by decide) rfl dX9_settle_44 ?_
          refine r_iconst F rfl dX9_settle_45 ?_
          refine r_istore_n (ls' := [(3, vI 0), (2, vI (-1)), (0, vR l0), (1, vI l1)]) F rfl (by decide) rfl dX9_settle_46 ?_
          refine r_iconst F rfl dX9_settle_47 ?_
          refine r_istore (ls' := [(4, vI 0), (3, vI 0), (2, vI (-1)), (0, vR l0), (1, vI l1)]) F (by decide) rfl dX9_settle_48 ?_
          refine r_sub [3, 4, 2, 1, 0] (ls' := [(0, vR l0), (1, vI l1), (2, vI (-1)), (3, vI 0), (4, vI 0)]) rfl ?_
          exact tX9_settle_50 F h
        · replace h := ite_p h hc
          refine r_iconst F rfl dX9_settle_41 ?_
          obtain rfl := Option.some.inj h
          exact r_iret F dX9_settle_42
      · replace h := ite_p h hc
        refine r_iconst F rfl dX9_settle_28 ?_
        obtain rfl := Option.some.inj h
        exact r_iret F dX9_settle_29
theorem tX9_near_109 {E : En} {p : Program} {l : Launch} {e : Env} {s : State} {m : MethodId} {args : Array Value} {below : List Frame} {meth : Method} {c : Code} {q : Int × Mem} {k24 : Int → Int → Int → Int → Mem → Option (Int × Mem)} (hk24 : ∀ {l0 l1 l2 l3 : Int} {M : Mem}, k24 l0 l1 l2 l3 M = some q → G E p l e (rmOf 9 0 0) s m args below meth c 6 (QZ E below args s (rmOf 9 0 0) (some (vI q.1)) q.2) 0 0 M 24 [(0, vR l0), (1, vI l1), (2, vI l2), (3, vI l3)] []) {l0 l1 l2 l3 : Int} {M : Mem} (F : Fx E p s m args meth c cX9_near 6 yX9_near.cls (some FieldType.int) yX9_near.name) (h : mX9_near_109 k24 l0 l1 l2 l3 M = some q) : G E p l e (rmOf 9 0 0) s m args below meth c 6 (QZ E below args s (rmOf 9 0 0) (some (vI q.1)) q.2) 0 0 M 109 [(0, vR l0), (1, vI l1), (2, vI l2), (3, vI l3)] [] := by
  unfold mX9_near_109 at h
  refine r_iinc (j := 3) (ls' := [(3, vI (wI (l3 + 1))), (0, vR l0), (1, vI l1), (2, vI l2)]) F rfl (by decide) rfl dX9_near_109 ?_
  refine r_goto (tgt := 24) F (by decide) dX9_near_112 ?_
  refine r_sub [1, 2, 3, 0] (ls' := [(0, vR l0), (1, vI l1), (2, vI l2), (3, vI (wI (l3 + 1)))]) rfl ?_
  exact hk24 h
theorem tX9_near_104 {E : En} {p : Program} {l : Launch} {e : Env} {s : State} {m : MethodId} {args : Array Value} {below : List Frame} {meth : Method} {c : Code} {q : Int × Mem} {k24 : Int → Int → Int → Int → Mem → Option (Int × Mem)} (hk24 : ∀ {l0 l1 l2 l3 : Int} {M : Mem}, k24 l0 l1 l2 l3 M = some q → G E p l e (rmOf 9 0 0) s m args below meth c 6 (QZ E below args s (rmOf 9 0 0) (some (vI q.1)) q.2) 0 0 M 24 [(0, vR l0), (1, vI l1), (2, vI l2), (3, vI l3)] []) {l0 l3 l4 : Int} {M : Mem} (F : Fx E p s m args meth c cX9_near 6 yX9_near.cls (some FieldType.int) yX9_near.name) (h : mX9_near_104 k24 l0 l3 l4 M = some q) : G E p l e (rmOf 9 0 0) s m args below meth c 6 (QZ E below args s (rmOf 9 0 0) (some (vI q.1)) q.2) 0 0 M 104 [(0, vR l0), (3, vI l3), (4, vI l4)] [] := by
  unfold mX9_near_104 at h
  refine r_iload_n (j := 1) F rfl rfl dX9_near_104 ?_
  refine r_istore_n (ls' := [(1, vI l3), (0, vR l0), (3, vI l3), (4, vI l4)]) F rfl (by decide) rfl dX9_near_105 ?_
  refine r_iload (j := 3) F rfl dX9_near_106 ?_
  refine r_istore_n (ls' := [(2, vI l4), (1, vI l3), (0, vR l0), (3, vI l3), (4, vI l4)]) F rfl (by decide) rfl dX9_near_108 ?_
  refine r_sub [2, 1, 0, 3] (ls' := [(0, vR l0), (1, vI l3), (2, vI l4), (3, vI l3)]) rfl ?_
  exact tX9_near_109 (fun h => hk24 h) F h
theorem tX9_near_84 {E : En} {p : Program} {l : Launch} {e : Env} {s : State} {m : MethodId} {args : Array Value} {below : List Frame} {meth : Method} {c : Code} {q : Int × Mem} {k24 : Int → Int → Int → Int → Mem → Option (Int × Mem)} {k51 : Int → Int → Int → Int → Int → Int → Mem → Option (Int × Mem)} (hk24 : ∀ {l0 l1 l2 l3 : Int} {M : Mem}, k24 l0 l1 l2 l3 M = some q → G E p l e (rmOf 9 0 0) s m args below meth c 6 (QZ E below args s (rmOf 9 0 0) (some (vI q.1)) q.2) 0 0 M 24 [(0, vR l0), (1, vI l1), (2, vI l2), (3, vI l3)] []) (hk51 : ∀ {l0 l1 l2 l3 l4 l5 : Int} {M : Mem}, k51 l0 l1 l2 l3 l4 l5 M = some q → G E p l e (rmOf 9 0 0) s m args below meth c 6 (QZ E below args s (rmOf 9 0 0) (some (vI q.1)) q.2) 0 0 M 51 [(0, vR l0), (1, vI l1), (2, vI l2), (3, vI l3), (4, vI l4), (5, vI l5)] []) {l0 l1 l2 l3 l5 s0 s1 : Int} {M : Mem} (F : Fx E p s m args meth c cX9_near 6 yX9_near.cls (some FieldType.int) yX9_near.name) (h : mX9_near_84 k24 k51 l0 l1 l2 l3 l5 s0 s1 M = some q) : G E p l e (rmOf 9 0 0) s m args below meth c 6 (QZ E below args s (rmOf 9 0 0) (some (vI q.1)) q.2) 0 0 M 84 [(0, vR l0), (1, vI l1), (2, vI l2), (3, vI l3), (5, vI l5)] [vI s1, vI s0] := by
  unfold mX9_near_84 at h
  refine r_iadd F dX9_near_84 ?_
  refine r_istore (ls' := [(4, vI (wI (s0 + s1))), (0, vR l0), (1, vI l1), (2, vI l2), (3, vI l3), (5, vI l5)]) F (by decide) rfl dX9_near_85 ?_
  refine r_iinc (j := 5) (ls' := [(5, vI (wI (l5 + 1))), (4, vI (wI (s0 + s1))), (0, vR l0), (1, vI l1), (2, vI l2), (3, vI l3)]) F rfl (by decide) rfl dX9_near_87 ?_
  refine r_goto (tgt := 51) F (by decide) dX9_near_90 ?_
  refine r_sub [2, 3, 4, 5, 1, 0] (ls' := [(0, vR l0), (1, vI l1), (2, vI l2), (3, vI l3), (4, vI (wI (s0 + s1))), (5, vI (wI (l5 + 1)))]) rfl ?_
  exact hk51 h
theorem tbX9_near_51 {E : En} {p : Program} {l : Launch} {e : Env} {s : State} {m : MethodId} {args : Array Value} {below : List Frame} {meth : Method} {c : Code} {q : Int × Mem} {k24 : Int → Int → Int → Int → Mem → Option (Int × Mem)} (hk24 : ∀ {l0 l1 l2 l3 : Int} {M : Mem}, k24 l0 l1 l2 l3 M = some q → G E p l e (rmOf 9 0 0) s m args below meth c 6 (QZ E below args s (rmOf 9 0 0) (some (vI q.1)) q.2) 0 0 M 24 [(0, vR l0), (1, vI l1), (2, vI l2), (3, vI l3)] []) {k51 : Int → Int → Int → Int → Int → Int → Mem → Option (Int × Mem)} (hk51 : ∀ {l0 l1 l2 l3 l4 l5 : Int} {M : Mem}, k51 l0 l1 l2 l3 l4 l5 M = some q → G E p l e (rmOf 9 0 0) s m args below meth c 6 (QZ E below args s (rmOf 9 0 0) (some (vI q.1)) q.2) 0 0 M 51 [(0, vR l0), (1, vI l1), (2, vI l2), (3, vI l3), (4, vI l4), (5, vI l5)] []) {l0 l1 l2 l3 l4 l5 : Int} {M : Mem} (F : Fx E p s m args meth c cX9_near 6 yX9_near.cls (some FieldType.int) yX9_near.name) (h : bX9_near_51 k24 k51 l0 l1 l2 l3 l4 l5 M = some q) : G E p l e (rmOf 9 0 0) s m args below meth c 6 (QZ E below args s (rmOf 9 0 0) (some (vI q.1)) q.2) 0 0 M 51 [(0, vR l0), (1, vI l1), (2, vI l2), (3, vI l3), (4, vI l4), (5, vI l5)] [] := by
  unfold bX9_near_51 at h
  refine r_iload (j := 5) F rfl dX9_near_51 ?_
  refine r_aload_n (j := 0) F rfl rfl dX9_near_53 ?_
  replace h := bind_so h
  obtain ⟨_, g54, h⟩ := h
  replace h := bind_so h
  obtain ⟨q54, h54, h⟩ := h
  refine r_callV (as := []) (rv := (some (vI q54.1))) (kc := 0) (nc := 0) (tX9_manyFacts h54) clok_9 F (gK_so g54) tw_1518 tw_1520 tw_58 tw_1521 tw_122 ⟨by decide, by decide, show (parseMethodDescriptor yX9_manyFacts.desc).map (fun d => d.parameters.length) = some 0 by decide +kernel⟩ ⟨by decide, by decide⟩ (Nat.le_of_ble_eq_true rfl) dX9_near_54 ?_
  refine r_icmp_ge (tgt := 93) F (by decide) dX9_near_57 (fun hc => ?_) (fun hc => ?_)
  · replace h := ite_p h hc
    refine r_iload_n (j := 1) F rfl rfl dX9_near_93 ?_
    refine r_iconst F rfl dX9_near_94 ?_
    refine r_icmp_eq (tgt := 104) F (by decide) dX9_near_95 (fun hc => ?_) (fun hc => ?_)
    · replace h := ite_p h hc
      refine r_sub [0, 3, 4] (ls' := [(0, vR l0), (3, vI l3), (4, vI l4)]) rfl ?_
      exact tX9_near_104 (fun h => hk24 h) F h
    · replace h := ite_n h hc
      refine r_iload (j := 4) F rfl dX9_near_98 ?_
      refine r_iload_n (j := 2) F rfl rfl dX9_near_100 ?_
      refine r_icmp_ge (tgt := 109) F (by decide) dX9_near_101 (fun hc => ?_) (fun hc => ?_)
      · replace h := ite_p h hc
        refine r_sub [0, 1, 2, 3] (ls' := [(0, vR l0), (1, vI l1), (2, vI l2), (3, vI l3)]) rfl ?_
        exact tX9_near_109 (fun h => hk24 h) F h
      · replace h := ite_n h hc
        refine r_sub [0, 3, 4] (ls' := [(0, vR l0), (3, vI l3), (4, vI l4)]) rfl ?_
        exact tX9_near_104 (fun h => hk24 h) F h
  · replace h := ite_n h hc
    refine r_iload (j := 4) F rfl dX9_near_60 ?_
    refine r_aload_n (j := 0) F rfl rfl dX9_near_62 ?_
    replace h := bind_so h
    obtain ⟨a63, h63, h⟩ := h
    refine r_getT (t := 2) rfl clok_9 F (by decide) h63 tw_1325 dX9_near_63 ?_
    refine r_iload (j := 5) F rfl dX9_near_66 ?_
    replace h := bind_so h
    obtain ⟨a68, h68, h⟩ := h
    refine r_zald F h68 dX9_near_68 ?_
    refine r_aload_n (j := 0) F rfl rfl dX9_near_69 ?_
    replace h := bind_so h
    obtain ⟨a70, h70, h⟩ := h
    refine r_getT (t := 2) rfl clok_9 F (by decide) h70 tw_1308 dX9_near_70 ?_
    refine r_iload (j := 5) F rfl dX9_near_73 ?_
    replace h := bind_so h
    obtain ⟨a75, h75, h⟩ := h
    refine r_zald F h75 dX9_near_75 ?_
    refine r_icmp_eq (tgt := 83) F (by decide) dX9_near_76 (fun hc => ?_) (fun hc => ?_)
    · replace h := ite_p h hc
      refine r_iconst F rfl dX9_near_83 ?_
      refine r_sub [0, 1, 2, 3, 5] (ls' := [(0, vR l0), (1, vI l1), (2, vI l2), (3, vI l3), (5, vI l5)]) rfl ?_
      exact tX9_near_84 (fun h => hk24 h) (fun h => hk51 h) F h
    · replace h := ite_n h hc
      refine r_iconst F rfl dX9_near_79 ?_
      refine r_goto (tgt := 84) F (by decide) dX9_near_80 ?_
      refine r_sub [0, 1, 2, 3, 5] (ls' := [(0, vR l0), (1, vI l1), (2, vI l2), (3, vI l3), (5, vI l5)]) rfl ?_
      exact tX9_near_84 (fun h => hk24 h) (fun h => hk51 h) F h
theorem tX9_near_51 {E : En} {p : Program} {l : Launch} {e : Env} {s : State} {m : MethodId} {args : Array Value} {below : List Frame} {meth : Method} {c : Code} {q : Int × Mem} {k24 : Int → Int → Int → Int → Mem → Option (Int × Mem)} (hk24 : ∀ {l0 l1 l2 l3 : Int} {M : Mem}, k24 l0 l1 l2 l3 M = some q → G E p l e (rmOf 9 0 0) s m args below meth c 6 (QZ E below args s (rmOf 9 0 0) (some (vI q.1)) q.2) 0 0 M 24 [(0, vR l0), (1, vI l1), (2, vI l2), (3, vI l3)] []) (F : Fx E p s m args meth c cX9_near 6 yX9_near.cls (some FieldType.int) yX9_near.name) : ∀ {fu : Nat} {l0 l1 l2 l3 l4 l5 : Int} {M : Mem}, mX9_near_51 k24 fu l0 l1 l2 l3 l4 l5 M = some q → G E p l e (rmOf 9 0 0) s m args below meth c 6 (QZ E below args s (rmOf 9 0 0) (some (vI q.1)) q.2) 0 0 M 51 [(0, vR l0), (1, vI l1), (2, vI l2), (3, vI l3), (4, vI l4), (5, vI l5)] [] := by
  intro fu
  induction fu with
  | zero => intro l0 l1 l2 l3 l4 l5 M h; exact nomatch (show (none : Option (Int × Mem)) = some q from h)
  | succ fu ih => intro l0 l1 l2 l3 l4 l5 M h; exact tbX9_near_51 (fun h => hk24 h) (fun h => ih h) F h
theorem tbX9_near_24 {E : En} {p : Program} {l : Launch} {e : Env} {s : State} {m : MethodId} {args : Array Value} {below : List Frame} {meth : Method} {c : Code} {q : Int × Mem} {k24 : Int → Int → Int → Int → Mem → Option (Int × Mem)} (hk24 : ∀ {l0 l1 l2 l3 : Int} {M : Mem}, k24 l0 l1 l2 l3 M = some q → G E p l e (rmOf 9 0 0) s m args below meth c 6 (QZ E below args s (rmOf 9 0 0) (some (vI q.1)) q.2) 0 0 M 24 [(0, vR l0), (1, vI l1), (2, vI l2), (3, vI l3)] []) {l0 l1 l2 l3 : Int} {M : Mem} (F : Fx E p s m args meth c cX9_near 6 yX9_near.cls (some FieldType.int) yX9_near.name) (h : bX9_near_24 k24 l0 l1 l2 l3 M = some q) : G E p l e (rmOf 9 0 0) s m args below meth c 6 (QZ E below args s (rmOf 9 0 0) (some (vI q.1)) q.2) 0 0 M 24 [(0, vR l0), (1, vI l1), (2, vI l2), (3, vI l3)] [] := by
  unfold bX9_near_24 at h
  refine r_iload_n (j := 3) F rfl rfl dX9_near_24 ?_
  refine r_iconst F rfl dX9_near_25 ?_
  refine r_aload_n (j := 0) F rfl rfl dX9_near_26 ?_
  replace h := bind_so h
  obtain ⟨_, g27, h⟩ := h
  replace h := bind_so h
  obtain ⟨q27, h27, h⟩ := h
  refine r_callV (as := []) (rv := (some (vI q27.1))) (kc := 0) (nc := 0) (tX9_manyFacts h27) clok_9 F (gK_so g27) tw_1518 tw_1520 tw_58 tw_1521 tw_122 ⟨by decide, by decide, show (parseMethodDescriptor yX9_manyFacts.desc).map (fun d => d.parameters.length) = some 0 by decide +kernel⟩ ⟨by decide, by decide⟩ (Nat.le_of_ble_eq_true rfl) dX9_near_27 ?_
  refine r_ishl F dX9_near_30 ?_
  refine r_icmp_ge (tgt := 115) F (by decide) dX9_near_31 (fun hc => ?_) (fun hc => ?_)
  · replace h := ite_p h hc
    refine r_iload_n (j := 1) F rfl rfl dX9_near_115 ?_
    refine r_iconst F rfl dX9_near_116 ?_
    refine r_icmp_ne (tgt := 122) F (by decide) dX9_near_117 (fun hc => ?_) (fun hc => ?_)
    · replace h := ite_n h hc
      refine r_aload_n (j := 0) F rfl rfl dX9_near_122 ?_
      refine r_iload_n (j := 1) F rfl rfl dX9_near_123 ?_
      replace h := bind_so h
      obtain ⟨_, g124, h⟩ := h
      replace h := bind_so h
      obtain ⟨q124, h124, h⟩ := h
      refine r_callV (as := [vI l1]) (rv := none) (kc := 0) (nc := 0) (tX9_takeWorld h124) clok_9 F (gK_so g124) tw_1806 tw_1808 tw_102 tw_1809 tw_122 ⟨by decide, by decide, show (parseMethodDescriptor yX9_takeWorld.desc).map (fun d => d.parameters.length) = some 1 by decide +kernel⟩ ⟨by decide, by decide⟩ (Nat.le_of_ble_eq_true rfl) dX9_near_124 ?_
      refine r_iload_n (j := 2) F rfl rfl dX9_near_127 ?_
      obtain rfl := Option.some.inj h
      exact r_iret F dX9_near_128
    · replace h := ite_p h hc
      refine r_iconst F rfl dX9_near_120 ?_
      obtain rfl := Option.some.inj h
      exact r_iret F dX9_near_121
  · replace h := ite_n h hc
    refine r_aload_n (j := 0) F rfl rfl dX9_near_34 ?_
    refine r_iload_n (j := 3) F rfl rfl dX9_near_35 ?_
    replace h := bind_so h
    obtain ⟨_, g36, h⟩ := h
    replace h := bind_so h
    obtain ⟨q36, h36, h⟩ := h
    refine r_callV (as := [vI l3]) (rv := (some (vI q36.1))) (kc := 0) (nc := 0) (tX9_isWorld h36) clok_9 F (gK_so g36) tw_1778 tw_1780 tw_97 tw_1781 tw_122 ⟨by decide, by decide, show (parseMethodDescriptor yX9_isWorld.desc).map (fun d => d.parameters.length) = some 1 by decide +kernel⟩ ⟨by decide, by decide⟩ (Nat.le_of_ble_eq_true rfl) dX9_near_36 ?_
    refine r_if_ne (tgt := 45) F (by decide) dX9_near_39 (fun hc => ?_) (fun hc => ?_)
    · replace h := ite_n h hc
      refine r_iconst F rfl dX9_near_45 ?_
      refine r_istore (ls' := [(4, vI 0), (0, vR l0), (1, vI l1), (2, vI l2), (3, vI l3)]) F (by decide) rfl dX9_near_46 ?_
      refine r_iconst F rfl dX9_near_48 ?_
      refine r_istore (ls' := [(5, vI 0), (4, vI 0), (0, vR l0), (1, vI l1), (2, vI l2), (3, vI l3)]) F (by decide) rfl dX9_near_49 ?_
      refine r_sub [2, 3, 4, 5, 1, 0] (ls' := [(0, vR l0), (1, vI l1), (2, vI l2), (3, vI l3), (4, vI 0), (5, vI 0)]) rfl ?_
      exact tX9_near_51 (fun h => hk24 h) F h
    · replace h := ite_p h hc
      refine r_goto (tgt := 109) F (by decide) dX9_near_42 ?_
      refine r_sub [0, 1, 2, 3] (ls' := [(0, vR l0), (1, vI l1), (2, vI l2), (3, vI l3)]) rfl ?_
      exact tX9_near_109 (fun h => hk24 h) F h
theorem tX9_near_24 {E : En} {p : Program} {l : Launch} {e : Env} {s : State} {m : MethodId} {args : Array Value} {below : List Frame} {meth : Method} {c : Code} {q : Int × Mem} (F : Fx E p s m args meth c cX9_near 6 yX9_near.cls (some FieldType.int) yX9_near.name) : ∀ {fu : Nat} {l0 l1 l2 l3 : Int} {M : Mem}, mX9_near_24 fu l0 l1 l2 l3 M = some q → G E p l e (rmOf 9 0 0) s m args below meth c 6 (QZ E below args s (rmOf 9 0 0) (some (vI q.1)) q.2) 0 0 M 24 [(0, vR l0), (1, vI l1), (2, vI l2), (3, vI l3)] [] := by
  intro fu
  induction fu with
  | zero => intro l0 l1 l2 l3 M h; exact nomatch (show (none : Option (Int × Mem)) = some q from h)
  | succ fu ih => intro l0 l1 l2 l3 M h; exact tbX9_near_24  (fun h => ih h) F h
theorem tX9_near {l0 : Int} {M : Mem} {q : Int × Mem} (h : mX9_near l0 M = some q) : Ct 9 0 0 yX9_near cX9_near 6 (some FieldType.int) [vR l0] M (some (vI q.1)) q.2 := by
  unfold mX9_near at h
  refine Ct.of (by decide) (Nat.le_of_ble_eq_true rfl) ?_
  intro E p l e s m args below meth c F
  refine r_sub [0] (ls' := [(0, vR l0)]) rfl ?_
  refine r_aload_n (j := 0) F rfl rfl dX9_near_0 ?_
  refine r_iconst F rfl dX9_near_1 ?_
  replace h := bind_so h
  obtain ⟨M2, h2, h⟩ := h
  refine r_put clok_9 F (by decide) rfl (by decide) (by decide) h2 tw_1297 dX9_near_2 ?_
  refine r_aload_n (j := 0) F rfl rfl dX9_near_5 ?_
  replace h := bind_so h
  obtain ⟨_, g6, h⟩ := h
  replace h := bind_so h
  obtain ⟨q6, h6, h⟩ := h
  refine r_callV (as := []) (rv := (some (vI q6.1))) (kc := 0) (nc := 0) (tX9_canTell h6) clok_9 F (gK_so g6) tw_1554 tw_1556 tw_62 tw_1557 tw_122 ⟨by decide, by decide, show (parseMethodDescriptor yX9_canTell.desc).map (fun d => d.parameters.length) = some 0 by decide +kernel⟩ ⟨by decide, by decide⟩ (Nat.le_of_ble_eq_true rfl) dX9_near_6 ?_
  refine r_if_ne (tgt := 14) F (by decide) dX9_near_9 (fun hc => ?_) (fun hc => ?_)
  · replace h := ite_n h hc
    refine r_aload_n (j := 0) F rfl rfl dX9_near_14 ?_
    replace h := bind_so h
    obtain ⟨_, g15, h⟩ := h
    replace h := bind_so h
    obtain ⟨q15, h15, h⟩ := h
    refine r_callV (as := []) (rv := none) (kc := 0) (nc := 0) (tX9_prepare h15) clok_9 F (gK_so g15) tw_1766 tw_1768 tw_94 tw_1769 tw_122 ⟨by decide, by decide, show (parseMethodDescriptor yX9_prepare.desc).map (fun d => d.parameters.length) = some 0 by decide +kernel⟩ ⟨by decide, by decide⟩ (Nat.le_of_ble_eq_true rfl) dX9_near_15 ?_
    refine r_iconst F rfl dX9_near_18 ?_
    refine r_istore_n (ls' := [(1, vI (-1)), (0, vR l0)]) F rfl (by decide) rfl dX9_near_19 ?_
    refine r_iconst F rfl dX9_near_20 ?_
    refine r_istore_n (ls' := [(2, vI 0), (1, vI (-1)), (0, vR l0)]) F rfl (by decide) rfl dX9_near_21 ?_
    refine r_iconst F rfl dX9_near_22 ?_
    refine r_istore_n (ls' := [(3, vI 0), (2, vI 0), (1, vI (-1)), (0, vR l0)]) F rfl (by decide) rfl dX9_near_23 ?_
    refine r_sub [3, 2, 1, 0] (ls' := [(0, vR l0), (1, vI (-1)), (2, vI 0), (3, vI 0)]) rfl ?_
    exact tX9_near_24 F h
  · replace h := ite_p h hc
    refine r_iconst F rfl dX9_near_12 ?_
    obtain rfl := Option.some.inj h
    exact r_iret F dX9_near_13
theorem tX9_holds_89 {E : En} {p : Program} {l : Launch} {e : Env} {s : State} {m : MethodId} {args : Array Value} {below : List Frame} {meth : Method} {c : Code} {q : Int × Mem} {k41 : Int → Int → Int → Int → Mem → Option (Int × Mem)} (hk41 : ∀ {l0 l1 l2 l3 : Int} {M : Mem}, k41 l0 l1 l2 l3 M = some q → G E p l e (rmOf 10 0 0) s m args below meth c 4 (QZ E below args s (rmOf 10 0 0) (some (vI q.1)) q.2) 0 0 M 41 [(0, vR l0), (1, vI l1), (2, vI l2), (3, vI l3)] []) {l0 l1 l3 s0 s1 : Int} {M : Mem} (F : Fx E p s m args meth c cX9_holds 4 yX9_holds.cls (some FieldType.int) yX9_holds.name) (h : mX9_holds_89 k41 l0 l1 l3 s0 s1 M = some q) : G E p l e (rmOf 10 0 0) s m args below meth c 4 (QZ E below args s (rmOf 10 0 0) (some (vI q.1)) q.2) 0 0 M 89 [(0, vR l0), (1, vI l1), (3, vI l3)] [vI s1, vI s0] := by
  unfold mX9_holds_89 at h
  refine r_iadd F dX9_holds_89 ?_
  refine r_istore_n (ls' := [(2, vI (wI (s0 + s1))), (0, vR l0), (1, vI l1), (3, vI l3)]) F rfl (by decide) rfl dX9_holds_90 ?_
  refine r_iinc (j := 3) (ls' := [(3, vI (wI (l3 + 1))), (2, vI (wI (s0 + s1))), (0, vR l0), (1, vI l1)]) F rfl (by decide) rfl dX9_holds_91 ?_
  refine r_goto (tgt := 41) F (by decide) dX9_holds_94 ?_
  refine r_sub [2, 3, 1, 0] (ls' := [(0, vR l0), (1, vI l1), (2, vI (wI (s0 + s1))), (3, vI (wI (l3 + 1)))]) rfl ?_
  exact hk41 h
theorem tX9_holds_88 {E : En} {p : Program} {l : Launch} {e : Env} {s : State} {m : MethodId} {args : Array Value} {below : List Frame} {meth : Method} {c : Code} {q : Int × Mem} {k41 : Int → Int → Int → Int → Mem → Option (Int × Mem)} (hk41 : ∀ {l0 l1 l2 l3 : Int} {M : Mem}, k41 l0 l1 l2 l3 M = some q → G E p l e (rmOf 10 0 0) s m args below meth c 4 (QZ E below args s (rmOf 10 0 0) (some (vI q.1)) q.2) 0 0 M 41 [(0, vR l0), (1, vI l1), (2, vI l2), (3, vI l3)] []) {l0 l1 l3 s0 : Int} {M : Mem} (F : Fx E p s m args meth c cX9_holds 4 yX9_holds.cls (some FieldType.int) yX9_holds.name) (h : mX9_holds_88 k41 l0 l1 l3 s0 M = some q) : G E p l e (rmOf 10 0 0) s m args below meth c 4 (QZ E below args s (rmOf 10 0 0) (some (vI q.1)) q.2) 0 0 M 88 [(0, vR l0), (1, vI l1), (3, vI l3)] [vI s0] := by
  unfold mX9_holds_88 at h
  refine r_iconst F rfl dX9_holds_88 ?_
  refine r_sub [0, 1, 2] (ls' := [(0, vR l0), (1, vI l1), (3, vI l3)]) rfl ?_
  exact tX9_holds_89 (fun h => hk41 h) F h
theorem tX9_holds_75 {E : En} {p : Program} {l : Launch} {e : Env} {s : State} {m : MethodId} {args : Array Value} {below : List Frame} {meth : Method} {c : Code} {q : Int × Mem} {k41 : Int → Int → Int → Int → Mem → Option (Int × Mem)} (hk41 : ∀ {l0 l1 l2 l3 : Int} {M : Mem}, k41 l0 l1 l2 l3 M = some q → G E p l e (rmOf 10 0 0) s m args below meth c 4 (QZ E below args s (rmOf 10 0 0) (some (vI q.1)) q.2) 0 0 M 41 [(0, vR l0), (1, vI l1), (2, vI l2), (3, vI l3)] []) {l0 l1 l3 s0 : Int} {M : Mem} (F : Fx E p s m args meth c cX9_holds 4 yX9_holds.cls (some FieldType.int) yX9_holds.name) (h : mX9_holds_75 k41 l0 l1 l3 s0 M = some q) : G E p l e (rmOf 10 0 0) s m args below meth c 4 (QZ E below args s (rmOf 10 0 0) (some (vI q.1)) q.2) 0 0 M 75 [(0, vR l0), (1, vI l1), (3, vI l3)] [vI s0] := by
  unfold mX9_holds_75 at h
  refine r_aload_n (j := 0) F rfl rfl dX9_holds_75 ?_
  refine r_bipush F rfl (by decide) dX9_holds_76 ?_
  replace h := bind_so h
  obtain ⟨_, g78, h⟩ := h
  replace h := bind_so h
  obtain ⟨q78, h78, h⟩ := h
  refine r_callV (as := [vI 8]) (rv := (some (vI q78.1))) (kc := 0) (nc := 0) (tX9_means h78) clok_9 F (gK_so g78) tw_1720 tw_1722 tw_86 tw_1723 tw_122 ⟨by decide, by decide, show (parseMethodDescriptor yX9_means.desc).map (fun d => d.parameters.length) = some 1 by decide +kernel⟩ ⟨by decide, by decide⟩ (Nat.le_of_ble_eq_true rfl) dX9_holds_78 ?_
  refine r_if_eq (tgt := 88) F (by decide) dX9_holds_81 (fun hc => ?_) (fun hc => ?_)
  · replace h := ite_p h hc
    refine r_sub [0, 1, 2] (ls' := [(0, vR l0), (1, vI l1), (3, vI l3)]) rfl ?_
    exact tX9_holds_88 (fun h => hk41 h) F h
  · replace h := ite_n h hc
    refine r_iconst F rfl dX9_holds_84 ?_
    refine r_goto (tgt := 89) F (by decide) dX9_holds_85 ?_
    refine r_sub [0, 1, 2] (ls' := [(0, vR l0), (1, vI l1), (3, vI l3)]) rfl ?_
    exact tX9_holds_89 (fun h => hk41 h) F h
theorem tbX9_holds_41 {E : En} {p : Program} {l : Launch} {e : Env} {s : State} {m : MethodId} {args : Array Value} {below : List Frame} {meth : Method} {c : Code} {q : Int × Mem} {k41 : Int → Int → Int → Int → Mem → Option (Int × Mem)} (hk41 : ∀ {l0 l1 l2 l3 : Int} {M : Mem}, k41 l0 l1 l2 l3 M = some q → G E p l e (rmOf 10 0 0) s m args below meth c 4 (QZ E below args s (rmOf 10 0 0) (some (vI q.1)) q.2) 0 0 M 41 [(0, vR l0), (1, vI l1), (2, vI l2), (3, vI l3)] []) {l0 l1 l2 l3 : Int} {M : Mem} (F : Fx E p s m args meth c cX9_holds 4 yX9_holds.cls (some FieldType.int) yX9_holds.name) (h : bX9_holds_41 k41 l0 l1 l2 l3 M = some q) : G E p l e (rmOf 10 0 0) s m args below meth c 4 (QZ E below args s (rmOf 10 0 0) (some (vI q.1)) q.2) 0 0 M 41 [(0, vR l0), (1, vI l1), (2, vI l2), (3, vI l3)] [] := by
  unfold bX9_holds_41 at h
  refine r_iload_n (j := 3) F rfl rfl dX9_holds_41 ?_
  refine r_iconst F rfl dX9_holds_42 ?_
  refine r_aload_n (j := 0) F rfl rfl dX9_holds_43 ?_
  replace h := bind_so h
  obtain ⟨_, g44, h⟩ := h
  replace h := bind_so h
  obtain ⟨q44, h44, h⟩ := h
  refine r_callV (as := []) (rv := (some (vI q44.1))) (kc := 0) (nc := 0) (tX9_manyFacts h44) clok_9 F (gK_so g44) tw_1518 tw_1520 tw_58 tw_1521 tw_122 ⟨by decide, by decide, show (parseMethodDescriptor yX9_manyFacts.desc).map (fun d => d.parameters.length) = some 0 by decide +kernel⟩ ⟨by decide, by decide⟩ (Nat.le_of_ble_eq_true rfl) dX9_holds_44 ?_
  refine r_ishl F dX9_holds_47 ?_
  refine r_icmp_ge (tgt := 97) F (by decide) dX9_holds_48 (fun hc => ?_) (fun hc => ?_)
  · replace h := ite_p h hc
    refine r_iload_n (j := 2) F rfl rfl dX9_holds_97 ?_
    obtain rfl := Option.some.inj h
    exact r_iret F dX9_holds_98
  · replace h := ite_n h hc
    refine r_iload_n (j := 2) F rfl rfl dX9_holds_51 ?_
    refine r_iload_n (j := 1) F rfl rfl dX9_holds_52 ?_
    refine r_if_ne (tgt := 67) F (by decide) dX9_holds_53 (fun hc => ?_) (fun hc => ?_)
    · replace h := ite_n h hc
      refine r_aload_n (j := 0) F rfl rfl dX9_holds_67 ?_
      refine r_iload_n (j := 3) F rfl rfl dX9_holds_68 ?_
      replace h := bind_so h
      obtain ⟨_, g69, h⟩ := h
      replace h := bind_so h
      obtain ⟨q69, h69, h⟩ := h
      refine r_callV (as := [vI l3]) (rv := (some (vI q69.1))) (kc := 0) (nc := 0) (tX9_isForm h69) clok_9 F (gK_so g69) tw_1794 tw_1796 tw_100 tw_1797 tw_122 ⟨by decide, by decide, show (parseMethodDescriptor yX9_isForm.desc).map (fun d => d.parameters.length) = some 1 by decide +kernel⟩ ⟨by decide, by decide⟩ (Nat.le_of_ble_eq_true rfl) dX9_holds_69 ?_
      refine r_if_eq (tgt := 88) F (by decide) dX9_holds_72 (fun hc => ?_) (fun hc => ?_)
      · replace h := ite_p h hc
        refine r_sub [0, 1, 3] (ls' := [(0, vR l0), (1, vI l1), (3, vI l3)]) rfl ?_
        exact tX9_holds_88 (fun h => hk41 h) F h
      · replace h := ite_n h hc
        refine r_sub [0, 1, 3] (ls' := [(0, vR l0), (1, vI l1), (3, vI l3)]) rfl ?_
        exact tX9_holds_75 (fun h => hk41 h) F h
    · replace h := ite_p h hc
      refine r_aload_n (j := 0) F rfl rfl dX9_holds_56 ?_
      refine r_iload_n (j := 3) F rfl rfl dX9_holds_57 ?_
      replace h := bind_so h
      obtain ⟨_, g58, h⟩ := h
      replace h := bind_so h
      obtain ⟨q58, h58, h⟩ := h
      refine r_callV (as := [vI l3]) (rv := (some (vI q58.1))) (kc := 0) (nc := 0) (tX9_isWorld h58) clok_9 F (gK_so g58) tw_1778 tw_1780 tw_97 tw_1781 tw_122 ⟨by decide, by decide, show (parseMethodDescriptor yX9_isWorld.desc).map (fun d => d.parameters.length) = some 1 by decide +kernel⟩ ⟨by decide, by decide⟩ (Nat.le_of_ble_eq_true rfl) dX9_holds_58 ?_
      refine r_if_eq (tgt := 88) F (by decide) dX9_holds_61 (fun hc => ?_) (fun hc => ?_)
      · replace h := ite_p h hc
        refine r_sub [0, 1, 3] (ls' := [(0, vR l0), (1, vI l1), (3, vI l3)]) rfl ?_
        exact tX9_holds_88 (fun h => hk41 h) F h
      · replace h := ite_n h hc
        refine r_goto (tgt := 75) F (by decide) dX9_holds_64 ?_
        refine r_sub [0, 1, 3] (ls' := [(0, vR l0), (1, vI l1), (3, vI l3)]) rfl ?_
        exact tX9_holds_75 (fun h => hk41 h) F h
theorem tX9_holds_41 {E : En} {p : Program} {l : Launch} {e : Env} {s : State} {m : MethodId} {args : Array Value} {below : List Frame} {meth : Method} {c : Code} {q : Int × Mem} (F : Fx E p s m args meth c cX9_holds 4 yX9_holds.cls (some FieldType.int) yX9_holds.name) : ∀ {fu : Nat} {l0 l1 l2 l3 : Int} {M : Mem}, mX9_holds_41 fu l0 l1 l2 l3 M = some q → G E p l e (rmOf 10 0 0) s m args below meth c 4 (QZ E below args s (rmOf 10 0 0) (some (vI q.1)) q.2) 0 0 M 41 [(0, vR l0), (1, vI l1), (2, vI l2), (3, vI l3)] [] := by
  intro fu
  induction fu with
  | zero => intro l0 l1 l2 l3 M h; exact nomatch (show (none : Option (Int × Mem)) = some q from h)
  | succ fu ih => intro l0 l1 l2 l3 M h; exact tbX9_holds_41  (fun h => ih h) F h
theorem tX9_holds {l0 l1 : Int} {M : Mem} {q : Int × Mem} (h : mX9_holds l0 l1 M = some q) : Ct 10 0 0 yX9_holds cX9_holds 4 (some FieldType.int) [vR l0, vI l1] M (some (vI q.1)) q.2 := by
  unfold mX9_holds at h
  refine Ct.of (by decide) (Nat.le_of_ble_eq_true rfl) ?_
  intro E p l e s m args below meth c F
  refine r_sub [0, 1] (ls' := [(0, vR l0), (1, vI l1)]) rfl ?_
  refine r_aload_n (j := 0) F rfl rfl dX9_holds_0 ?_
  refine r_iconst F rfl dX9_holds_1 ?_
  replace h := bind_so h
  obtain ⟨M2, h2, h⟩ := h
  refine r_put clok_9 F (by decide) rfl (by decide) (by decide) h2 tw_1297 dX9_holds_2 ?_
  refine r_aload_n (j := 0) F rfl rfl dX9_holds_5 ?_
  replace h := bind_so h
  obtain ⟨a6, h6, h⟩ := h
  refine r_getT (t := 2) rfl clok_9 F (by decide) h6 tw_1312 dX9_holds_6 ?_
  refine r_bipush F rfl (by decide) dX9_holds_9 ?_
  replace h := bind_so h
  obtain ⟨a11, h11, h⟩ := h
  refine r_iald F h11 dX9_holds_11 ?_
  refine r_if_eq (tgt := 31) F (by decide) dX9_holds_12 (fun hc => ?_) (fun hc => ?_)
  · replace h := ite_p h hc
    refine r_iconst F rfl dX9_holds_31 ?_
    obtain rfl := Option.some.inj h
    exact r_iret F dX9_holds_32
  · replace h := ite_n h hc
    refine r_aload_n (j := 0) F rfl rfl dX9_holds_15 ?_
    replace h := bind_so h
    obtain ⟨_, g16, h⟩ := h
    replace h := bind_so h
    obtain ⟨q16, h16, h⟩ := h
    refine r_callV (as := []) (rv := (some (vI q16.1))) (kc := 0) (nc := 0) (tX9_canTell h16) clok_9 F (gK_so g16) tw_1554 tw_1556 tw_62 tw_1557 tw_122 ⟨by decide, by decide, show (parseMethodDescriptor yX9_canTell.desc).map (fun d => d.parameters.length) = some 0 by decide +kernel⟩ ⟨by decide, by decide⟩ (Nat.le_of_ble_eq_true rfl) dX9_holds_16 ?_
    refine r_if_eq (tgt := 31) F (by decide) dX9_holds_19 (fun hc => ?_) (fun hc => ?_)
    · replace h := ite_p h hc
      refine r_iconst F rfl dX9_holds_31 ?_
      obtain rfl := Option.some.inj h
      exact r_iret F dX9_holds_32
    · replace h := ite_n h hc
      refine r_iload_n (j := 1) F rfl rfl dX9_holds_22 ?_
      refine r_iconst F rfl dX9_holds_23 ?_
      refine r_iconst F rfl dX9_holds_24 ?_
      replace h := bind_so h
      obtain ⟨q25, h25, h⟩ := h
      refine r_callS (as := [vI l1, vI 0, vI 1]) (rv := (some (vI q25.1))) (kc := 0) (nc := 0) (tX9_in h25) F tw_1491 tw_1492 tw_1493 tw_122 ⟨by decide, by decide, show (parseMethodDescriptor yX9_in.desc).map (fun d => d.parameters.length) = some 3 by decide +kernel⟩ ⟨by decide, by decide⟩ (Nat.le_of_ble_eq_true rfl) dX9_holds_25 ?_
      refine r_if_ne (tgt := 33) F (by decide) dX9_holds_28 (fun hc => ?_) (fun hc => ?_)
      · replace h := ite_n h hc
        refine r_aload_n (j := 0) F rfl rfl dX9_holds_33 ?_
        replace h := bind_so h
        obtain ⟨_, g34, h⟩ := h
        replace h := bind_so h
        obtain ⟨q34, h34, h⟩ := h
        refine r_callV (as := []) (rv := none) (kc := 0) (nc := 0) (tX9_prepare h34) clok_9 F (gK_so g34) tw_1766 tw_1768 tw_94 tw_1769 tw_122 ⟨by decide, by decide, show (parseMethodDescriptor yX9_prepare.desc).map (fun d => d.parameters.length) = some 0 by decide +kernel⟩ ⟨by decide, by decide⟩ (Nat.le_of_ble_eq_true rfl) dX9_holds_34 ?_
        refine r_iconst F rfl dX9_holds_37 ?_
        refine r_istore_n (ls' := [(2, vI 0), (0, vR l0), (1, vI l1)]) F rfl (by decide) rfl dX9_holds_38 ?_
        refine r_iconst F rfl dX9_holds_39 ?_
        refine r_istore_n (ls' := [(3, vI 0), (2, vI 0), (0, vR l0), (1, vI l1)]) F rfl (by decide) rfl dX9_holds_40 ?_
        refine r_sub [2, 3, 1, 0] (ls' := [(0, vR l0), (1, vI l1), (2, vI 0), (3, vI 0)]) rfl ?_
        exact tX9_holds_41 F h
      · replace h := ite_p h hc
        refine r_iconst F rfl dX9_holds_31 ?_
        obtain rfl := Option.some.inj h
        exact r_iret F dX9_holds_32
theorem tX9_against_64 {E : En} {p : Program} {l : Launch} {e : Env} {s : State} {m : MethodId} {args : Array Value} {below : List Frame} {meth : Method} {c : Code} {q : Int × Mem} {k30 : Int → Int → Mem → Option (Int × Mem)} (hk30 : ∀ {l0 l1 : Int} {M : Mem}, k30 l0 l1 M = some q → G E p l e (rmOf 10 0 0) s m args below meth c 2 (QZ E below args s (rmOf 10 0 0) (some (vI q.1)) q.2) 0 0 M 30 [(0, vR l0), (1, vI l1)] []) {l0 l1 : Int} {M : Mem} (F : Fx E p s m args meth c cX9_against 2 yX9_against.cls (some FieldType.boolean) yX9_against.name) (h : mX9_against_64 k30 l0 l1 M = some q) : G E p l e (rmOf 10 0 0) s m args below meth c 2 (QZ E below args s (rmOf 10 0 0) (some (vI q.1)) q.2) 0 0 M 64 [(0, vR l0), (1, vI l1)] [] := by
  unfold mX9_against_64 at h
  refine r_iinc (j := 1) (ls' := [(1, vI (wI (l1 + 1))), (0, vR l0)]) F rfl (by decide) rfl dX9_against_64 ?_
  refine r_goto (tgt := 30) F (by decide) dX9_against_67 ?_
  refine r_sub [1, 0] (ls' := [(0, vR l0), (1, vI (wI (l1 + 1)))]) rfl ?_
  exact hk30 h
theorem tbX9_against_30 {E : En} {p : Program} {l : Launch} {e : Env} {s : State} {m : MethodId} {args : Array Value} {below : List Frame} {meth : Method} {c : Code} {q : Int × Mem} {k30 : Int → Int → Mem → Option (Int × Mem)} (hk30 : ∀ {l0 l1 : Int} {M : Mem}, k30 l0 l1 M = some q → G E p l e (rmOf 10 0 0) s m args below meth c 2 (QZ E below args s (rmOf 10 0 0) (some (vI q.1)) q.2) 0 0 M 30 [(0, vR l0), (1, vI l1)] []) {l0 l1 : Int} {M : Mem} (F : Fx E p s m args meth c cX9_against 2 yX9_against.cls (some FieldType.boolean) yX9_against.name) (h : bX9_against_30 k30 l0 l1 M = some q) : G E p l e (rmOf 10 0 0) s m args below meth c 2 (QZ E below args s (rmOf 10 0 0) (some (vI q.1)) q.2) 0 0 M 30 [(0, vR l0), (1, vI l1)] [] := by
  unfold bX9_against_30 at h
  refine r_iload_n (j := 1) F rfl rfl dX9_against_30 ?_
  refine r_iconst F rfl dX9_against_31 ?_
  refine r_aload_n (j := 0) F rfl rfl dX9_against_32 ?_
  replace h := bind_so h
  obtain ⟨_, g33, h⟩ := h
  replace h := bind_so h
  obtain ⟨q33, h33, h⟩ := h
  refine r_callV (as := []) (rv := (some (vI q33.1))) (kc := 0) (nc := 0) (tX9_manyFacts h33) clok_9 F (gK_so g33) tw_1518 tw_1520 tw_58 tw_1521 tw_122 ⟨by decide, by decide, show (parseMethodDescriptor yX9_manyFacts.desc).map (fun d => d.parameters.length) = some 0 by decide +kernel⟩ ⟨by decide, by decide⟩ (Nat.le_of_ble_eq_true rfl) dX9_against_33 ?_
  refine r_ishl F dX9_against_36 ?_
  refine r_icmp_ge (tgt := 70) F (by decide) dX9_against_37 (fun hc => ?_) (fun hc => ?_)
  · replace h := ite_p h hc
    refine r_iconst F rfl dX9_against_70 ?_
    obtain rfl := Option.some.inj h
    exact r_zret (Or.inl rfl) F dX9_against_71
  · replace h := ite_n h hc
    refine r_aload_n (j := 0) F rfl rfl dX9_against_40 ?_
    refine r_iload_n (j := 1) F rfl rfl dX9_against_41 ?_
    replace h := bind_so h
    obtain ⟨_, g42, h⟩ := h
    replace h := bind_so h
    obtain ⟨q42, h42, h⟩ := h
    refine r_callV (as := [vI l1]) (rv := (some (vI q42.1))) (kc := 0) (nc := 0) (tX9_isForm h42) clok_9 F (gK_so g42) tw_1794 tw_1796 tw_100 tw_1797 tw_122 ⟨by decide, by decide, show (parseMethodDescriptor yX9_isForm.desc).map (fun d => d.parameters.length) = some 1 by decide +kernel⟩ ⟨by decide, by decide⟩ (Nat.le_of_ble_eq_true rfl) dX9_against_42 ?_
    refine r_if_eq (tgt := 64) F (by decide) dX9_against_45 (fun hc => ?_) (fun hc => ?_)
    · replace h := ite_p h hc
      refine r_sub [0, 1] (ls' := [(0, vR l0), (1, vI l1)]) rfl ?_
      exact tX9_against_64 (fun h => hk30 h) F h
    · replace h := ite_n h hc
      refine r_aload_n (j := 0) F rfl rfl dX9_against_48 ?_
      refine r_bipush F rfl (by decide) dX9_against_49 ?_
      replace h := bind_so h
      obtain ⟨_, g51, h⟩ := h
      replace h := bind_so h
      obtain ⟨q51, h51, h⟩ := h
      refine r_callV (as := [vI 8]) (rv := (some (vI q51.1))) (kc := 0) (nc := 0) (tX9_means h51) clok_9 F (gK_so g51) tw_1720 tw_1722 tw_86 tw_1723 tw_122 ⟨by decide, by decide, show (parseMethodDescriptor yX9_means.desc).map (fun d => d.parameters.length) = some 1 by decide +kernel⟩ ⟨by decide, by decide⟩ (Nat.le_of_ble_eq_true rfl) dX9_against_51 ?_
      refine r_if_ne (tgt := 64) F (by decide) dX9_against_54 (fun hc => ?_) (fun hc => ?_)
      · replace h := ite_n h hc
        refine r_sub [0, 1] (ls' := [(0, vR l0), (1, vI l1)]) rfl ?_
        exact tX9_against_64 (fun h => hk30 h) F h
      · replace h := ite_p h hc
        refine r_aload_n (j := 0) F rfl rfl dX9_against_57 ?_
        refine r_iload_n (j := 1) F rfl rfl dX9_against_58 ?_
        replace h := bind_so h
        obtain ⟨_, g59, h⟩ := h
        replace h := bind_so h
        obtain ⟨q59, h59, h⟩ := h
        refine r_callV (as := [vI l1]) (rv := none) (kc := 0) (nc := 0) (tX9_takeWorld h59) clok_9 F (gK_so g59) tw_1806 tw_1808 tw_102 tw_1809 tw_122 ⟨by decide, by decide, show (parseMethodDescriptor yX9_takeWorld.desc).map (fun d => d.parameters.length) = some 1 by decide +kernel⟩ ⟨by decide, by decide⟩ (Nat.le_of_ble_eq_true rfl) dX9_against_59 ?_
        refine r_iconst F rfl dX9_against_62 ?_
        obtain rfl := Option.some.inj h
        exact r_zret (Or.inr rfl) F dX9_against_63
theorem tX9_against_30 {E : En} {p : Program} {l : Launch} {e : Env} {s : State} {m : MethodId} {args : Array Value} {below : List Frame} {meth : Method} {c : Code} {q : Int × Mem} (F : Fx E p s m args meth c cX9_against 2 yX9_against.cls (some FieldType.boolean) yX9_against.name) : ∀ {fu : Nat} {l0 l1 : Int} {M : Mem}, mX9_against_30 fu l0 l1 M = some q → G E p l e (rmOf 10 0 0) s m args below meth c 2 (QZ E below args s (rmOf 10 0 0) (some (vI q.1)) q.2) 0 0 M 30 [(0, vR l0), (1, vI l1)] [] := by
  intro fu
  induction fu with
  | zero => intro l0 l1 M h; exact nomatch (show (none : Option (Int × Mem)) = some q from h)
  | succ fu ih => intro l0 l1 M h; exact tbX9_against_30  (fun h => ih h) F h
theorem tX9_against {l0 : Int} {M : Mem} {q : Int × Mem} (h : mX9_against l0 M = some q) : Ct 10 0 0 yX9_against cX9_against 2 (some FieldType.boolean) [vR l0] M (some (vI q.1)) q.2 := by
  unfold mX9_against at h
  refine Ct.of (by decide) (Nat.le_of_ble_eq_true rfl) ?_
  intro E p l e s m args below meth c F
  refine r_sub [0] (ls' := [(0, vR l0)]) rfl ?_
  refine r_aload_n (j := 0) F rfl rfl dX9_against_0 ?_
  refine r_iconst F rfl dX9_against_1 ?_
  replace h := bind_so h
  obtain ⟨M2, h2, h⟩ := h
  refine r_put clok_9 F (by decide) rfl (by decide) (by decide) h2 tw_1297 dX9_against_2 ?_
  refine r_aload_n (j := 0) F rfl rfl dX9_against_5 ?_
  replace h := bind_so h
  obtain ⟨a6, h6, h⟩ := h
  refine r_getT (t := 2) rfl clok_9 F (by decide) h6 tw_1312 dX9_against_6 ?_
  refine r_bipush F rfl (by decide) dX9_against_9 ?_
  replace h := bind_so h
  obtain ⟨a11, h11, h⟩ := h
  refine r_iald F h11 dX9_against_11 ?_
  refine r_if_eq (tgt := 22) F (by decide) dX9_against_12 (fun hc => ?_) (fun hc => ?_)
  · replace h := ite_p h hc
    refine r_iconst F rfl dX9_against_22 ?_
    obtain rfl := Option.some.inj h
    exact r_zret (Or.inl rfl) F dX9_against_23
  · replace h := ite_n h hc
    refine r_aload_n (j := 0) F rfl rfl dX9_against_15 ?_
    replace h := bind_so h
    obtain ⟨_, g16, h⟩ := h
    replace h := bind_so h
    obtain ⟨q16, h16, h⟩ := h
    refine r_callV (as := []) (rv := (some (vI q16.1))) (kc := 0) (nc := 0) (tX9_canTell h16) clok_9 F (gK_so g16) tw_1554 tw_1556 tw_62 tw_1557 tw_122 ⟨by decide, by decide, show (parseMethodDescriptor yX9_canTell.desc).map (fun d => d.parameters.length) = some 0 by decide +kernel⟩ ⟨by decide, by decide⟩ (Nat.le_of_ble_eq_true rfl) dX9_against_16 ?_
    refine r_if_ne (tgt := 24) F (by decide) dX9_against_19 (fun hc => ?_) (fun hc => ?_)
    · replace h := ite_n h hc
      refine r_aload_n (j := 0) F rfl rfl dX9_against_24 ?_
      replace h := bind_so h
      obtain ⟨_, g25, h⟩ := h
      replace h := bind_so h
      obtain ⟨q25, h25, h⟩ := h
      refine r_callV (as := []) (rv := none) (kc := 0) (nc := 0) (tX9_prepare h25) clok_9 F (gK_so g25) tw_1766 tw_1768 tw_94 tw_1769 tw_122 ⟨by decide, by decide, show (parseMethodDescriptor yX9_prepare.desc).map (fun d => d.parameters.length) = some 0 by decide +kernel⟩ ⟨by decide, by decide⟩ (Nat.le_of_ble_eq_true rfl) dX9_against_25 ?_
      refine r_iconst F rfl dX9_against_28 ?_
      refine r_istore_n (ls' := [(1, vI 0), (0, vR l0)]) F rfl (by decide) rfl dX9_against_29 ?_
      refine r_sub [1, 0] (ls' := [(0, vR l0), (1, vI 0)]) rfl ?_
      exact tX9_against_30 F h
    · replace h := ite_p h hc
      refine r_iconst F rfl dX9_against_22 ?_
      obtain rfl := Option.some.inj h
      exact r_zret (Or.inl rfl) F dX9_against_23
theorem tX9_many_131 {E : En} {p : Program} {l : Launch} {e : Env} {s : State} {m : MethodId} {args : Array Value} {below : List Frame} {meth : Method} {c : Code} {q : Int × Mem} {k110 : Int → Int → Int → Mem → Option (Int × Mem)} (hk110 : ∀ {l0 l2 l3 : Int} {M : Mem}, k110 l0 l2 l3 M = some q → G E p l e (rmOf 1 0 0) s m args below meth c 4 (QZ E below args s (rmOf 1 0 0) (some (vI q.1)) q.2) 0 0 M 110 [(0, vR l0), (2, vI l2), (3, vI l3)] []) {l0 l3 s0 s1 : Int} {M : Mem} (F : Fx E p s m args meth c cX9_many 4 yX9_many.cls (some FieldType.int) yX9_many.name) (h : mX9_many_131 k110 l0 l3 s0 s1 M = some q) : G E p l e (rmOf 1 0 0) s m args below meth c 4 (QZ E below args s (rmOf 1 0 0) (some (vI q.1)) q.2) 0 0 M 131 [(0, vR l0), (3, vI l3)] [vI s1, vI s0] := by
  unfold mX9_many_131 at h
  refine r_iadd F dX9_many_131 ?_
  refine r_istore_n (ls' := [(2, vI (wI (s0 + s1))), (0, vR l0), (3, vI l3)]) F rfl (by decide) rfl dX9_many_132 ?_
  refine r_iinc (j := 2) (ls' := [(3, vI (wI (l3 + 1))), (2, vI (wI (s0 + s1))), (0, vR l0)]) F rfl (by decide) rfl dX9_many_133 ?_
  refine r_goto (tgt := 110) F (by decide) dX9_many_136 ?_
  refine r_sub [2, 1, 0] (ls' := [(0, vR l0), (2, vI (wI (s0 + s1))), (3, vI (wI (l3 + 1)))]) rfl ?_
  exact hk110 h
theorem tbX9_many_110 {E : En} {p : Program} {l : Launch} {e : Env} {s : State} {m : MethodId} {args : Array Value} {below : List Frame} {meth : Method} {c : Code} {q : Int × Mem} {k110 : Int → Int → Int → Mem → Option (Int × Mem)} (hk110 : ∀ {l0 l2 l3 : Int} {M : Mem}, k110 l0 l2 l3 M = some q → G E p l e (rmOf 1 0 0) s m args below meth c 4 (QZ E below args s (rmOf 1 0 0) (some (vI q.1)) q.2) 0 0 M 110 [(0, vR l0), (2, vI l2), (3, vI l3)] []) {l0 l2 l3 : Int} {M : Mem} (F : Fx E p s m args meth c cX9_many 4 yX9_many.cls (some FieldType.int) yX9_many.name) (h : bX9_many_110 k110 l0 l2 l3 M = some q) : G E p l e (rmOf 1 0 0) s m args below meth c 4 (QZ E below args s (rmOf 1 0 0) (some (vI q.1)) q.2) 0 0 M 110 [(0, vR l0), (2, vI l2), (3, vI l3)] [] := by
  unfold bX9_many_110 at h
  refine r_iload_n (j := 2) F rfl rfl dX9_many_110 ?_
  refine r_bipush F rfl (by decide) dX9_many_111 ?_
  refine r_icmp_ge (tgt := 139) F (by decide) dX9_many_113 (fun hc => ?_) (fun hc => ?_)
  · replace h := ite_p h hc
    refine r_iload_n (j := 1) F rfl rfl dX9_many_139 ?_
    obtain rfl := Option.some.inj h
    exact r_iret F dX9_many_140
  · replace h := ite_n h hc
    refine r_iload_n (j := 1) F rfl rfl dX9_many_116 ?_
    refine r_aload_n (j := 0) F rfl rfl dX9_many_117 ?_
    replace h := bind_so h
    obtain ⟨a118, h118, h⟩ := h
    refine r_getT (t := 2) rfl clok_9 F (by decide) h118 tw_1308 dX9_many_118 ?_
    refine r_iload_n (j := 2) F rfl rfl dX9_many_121 ?_
    replace h := bind_so h
    obtain ⟨a122, h122, h⟩ := h
    refine r_zald F h122 dX9_many_122 ?_
    refine r_if_eq (tgt := 130) F (by decide) dX9_many_123 (fun hc => ?_) (fun hc => ?_)
    · replace h := ite_p h hc
      refine r_iconst F rfl dX9_many_130 ?_
      refine r_sub [0, 2] (ls' := [(0, vR l0), (3, vI l3)]) rfl ?_
      exact tX9_many_131 (fun h => hk110 h) F h
    · replace h := ite_n h hc
      refine r_iconst F rfl dX9_many_126 ?_
      refine r_goto (tgt := 131) F (by decide) dX9_many_127 ?_
      refine r_sub [0, 2] (ls' := [(0, vR l0), (3, vI l3)]) rfl ?_
      exact tX9_many_131 (fun h => hk110 h) F h
theorem tX9_many_110 {E : En} {p : Program} {l : Launch} {e : Env} {s : State} {m : MethodId} {args : Array Value} {below : List Frame} {meth : Method} {c : Code} {q : Int × Mem} (F : Fx E p s m args meth c cX9_many 4 yX9_many.cls (some FieldType.int) yX9_many.name) : ∀ {fu : Nat} {l0 l2 l3 : Int} {M : Mem}, mX9_many_110 fu l0 l2 l3 M = some q → G E p l e (rmOf 1 0 0) s m args below meth c 4 (QZ E below args s (rmOf 1 0 0) (some (vI q.1)) q.2) 0 0 M 110 [(0, vR l0), (2, vI l2), (3, vI l3)] [] := by
  intro fu
  induction fu with
  | zero => intro l0 l2 l3 M h; exact nomatch (show (none : Option (Int × Mem)) = some q from h)
  | succ fu ih => intro l0 l2 l3 M h; exact tbX9_many_110  (fun h => ih h) F h
theorem tX9_many {l0 l1 : Int} {M : Mem} {q : Int × Mem} (h : mX9_many l0 l1 M = some q) : Ct 1 0 0 yX9_many cX9_many 4 (some FieldType.int) [vR l0, vI l1] M (some (vI q.1)) q.2 := by
  unfold mX9_many at h
  refine Ct.of (by decide) (Nat.le_of_ble_eq_true rfl) ?_
  intro E p l e s m args below meth c F
  refine r_sub [0, 1] (ls' := [(0, vR l0), (1, vI l1)]) rfl ?_
  refine r_aload_n (j := 0) F rfl rfl dX9_many_0 ?_
  refine r_iconst F rfl dX9_many_1 ?_
  replace h := bind_so h
  obtain ⟨M2, h2, h⟩ := h
  refine r_put clok_9 F (by decide) rfl (by decide) (by decide) h2 tw_1297 dX9_many_2 ?_
  refine r_iconst F rfl dX9_many_5 ?_
  refine r_istore_n (ls' := [(2, vI 0), (0, vR l0), (1, vI l1)]) F rfl (by decide) rfl dX9_many_6 ?_
  refine r_iload_n (j := 2) F rfl rfl dX9_many_7 ?_
  by_cases hc0 : l1 = 0
  · replace h := ite_p h hc0
    refine r_tIn (off := 60) (tgt := 68) F (by omega) (by omega) (by rw [hc0]; rfl) (by decide) dX9_many_8 ?_
    refine r_aload_n (j := 1) F rfl rfl dX9_many_68 ?_
    replace h := bind_so h
    obtain ⟨a69, h69, h⟩ := h
    refine r_getT (t := 2) rfl clok_9 F (by decide) h69 tw_1304 dX9_many_69 ?_
    refine r_iload_n (j := 2) F rfl rfl dX9_many_72 ?_
    replace h := bind_so h
    obtain ⟨a73, h73, h⟩ := h
    refine r_iald F h73 dX9_many_73 ?_
    obtain rfl := Option.some.inj h
    exact r_iret F dX9_many_74
  replace h := ite_n h hc0
  by_cases hc1 : l1 = 1
  · replace h := ite_p h hc1
    refine r_tIn (off := 60) (tgt := 68) F (by omega) (by omega) (by rw [hc1]; rfl) (by decide) dX9_many_8 ?_
    refine r_aload_n (j := 1) F rfl rfl dX9_many_68 ?_
    replace h := bind_so h
    obtain ⟨a69, h69, h⟩ := h
    refine r_getT (t := 2) rfl clok_9 F (by decide) h69 tw_1304 dX9_many_69 ?_
    refine r_iload_n (j := 2) F rfl rfl dX9_many_72 ?_
    replace h := bind_so h
    obtain ⟨a73, h73, h⟩ := h
    refine r_iald F h73 dX9_many_73 ?_
    obtain rfl := Option.some.inj h
    exact r_iret F dX9_many_74
  replace h := ite_n h hc1
  by_cases hc2 : l1 = 2
  · replace h := ite_p h hc2
    refine r_tIn (off := 60) (tgt := 68) F (by omega) (by omega) (by rw [hc2]; rfl) (by decide) dX9_many_8 ?_
    refine r_aload_n (j := 1) F rfl rfl dX9_many_68 ?_
    replace h := bind_so h
    obtain ⟨a69, h69, h⟩ := h
    refine r_getT (t := 2) rfl clok_9 F (by decide) h69 tw_1304 dX9_many_69 ?_
    refine r_iload_n (j := 2) F rfl rfl dX9_many_72 ?_
    replace h := bind_so h
    obtain ⟨a73, h73, h⟩ := h
    refine r_iald F h73 dX9_many_73 ?_
    obtain rfl := Option.some.inj h
    exact r_iret F dX9_many_74
  replace h := ite_n h hc2
  by_cases hc3 : l1 = 3
  · replace h := ite_p h hc3
    refine r_tIn (off := 67) (tgt := 75) F (by omega) (by omega) (by rw [hc3]; rfl) (by decide) dX9_many_8 ?_
    refine r_aload_n (j := 1) F rfl rfl dX9_many_75 ?_
    replace h := bind_so h
    obtain ⟨a76, h76, h⟩ := h
    refine r_getT (t := 2) rfl clok_9 F (by decide) h76 tw_1305 dX9_many_76 ?_
    refine r_iconst F rfl dX9_many_79 ?_
    replace h := bind_so h
    obtain ⟨a80, h80, h⟩ := h
    refine r_iald F h80 dX9_many_80 ?_
    obtain rfl := Option.some.inj h
    exact r_iret F dX9_many_81
  replace h := ite_n h hc3
  by_cases hc4 : l1 = 4
  · replace h := ite_p h hc4
    refine r_tIn (off := 74) (tgt := 82) F (by omega) (by omega) (by rw [hc4]; rfl) (by decide) dX9_many_8 ?_
    refine r_aload_n (j := 1) F rfl rfl dX9_many_82 ?_
    replace h := bind_so h
    obtain ⟨a83, h83, h⟩ := h
    refine r_getT (t := 2) rfl clok_9 F (by decide) h83 tw_1309 dX9_many_83 ?_
    refine r_iconst F rfl dX9_many_86 ?_
    replace h := bind_so h
    obtain ⟨a87, h87, h⟩ := h
    refine r_iald F h87 dX9_many_87 ?_
    obtain rfl := Option.some.inj h
    exact r_iret F dX9_many_88
  replace h := ite_n h hc4
  by_cases hc5 : l1 = 5
  · replace h := ite_p h hc5
    refine r_tIn (off := 81) (tgt := 89) F (by omega) (by omega) (by rw [hc5]; rfl) (by decide) dX9_many_8 ?_
    refine r_aload_n (j := 1) F rfl rfl dX9_many_89 ?_
    replace h := bind_so h
    obtain ⟨a90, h90, h⟩ := h
    refine r_getT (t := 2) rfl clok_9 F (by decide) h90 tw_1302 dX9_many_90 ?_
    refine r_iconst F rfl dX9_many_93 ?_
    replace h := bind_so h
    obtain ⟨a94, h94, h⟩ := h
    refine r_iald F h94 dX9_many_94 ?_
    obtain rfl := Option.some.inj h
    exact r_iret F dX9_many_95
  replace h := ite_n h hc5
  by_cases hc6 : l1 = 6
  · replace h := ite_p h hc6
    refine r_tIn (off := 88) (tgt := 96) F (by omega) (by omega) (by rw [hc6]; rfl) (by decide) dX9_many_8 ?_
    refine r_aload_n (j := 1) F rfl rfl dX9_many_96 ?_
    replace h := bind_so h
    obtain ⟨a97, h97, h⟩ := h
    refine r_getT (t := 2) rfl clok_9 F (by decide) h97 tw_1303 dX9_many_97 ?_
    refine r_iconst F rfl dX9_many_100 ?_
    replace h := bind_so h
    obtain ⟨a101, h101, h⟩ := h
    refine r_iald F h101 dX9_many_101 ?_
    obtain rfl := Option.some.inj h
    exact r_iret F dX9_many_102
  replace h := ite_n h hc6
  by_cases hc7 : l1 = 7
  · replace h := ite_p h hc7
    refine r_tIn (off := 95) (tgt := 103) F (by omega) (by omega) (by rw [hc7]; rfl) (by decide) dX9_many_8 ?_
    refine r_aload_n (j := 1) F rfl rfl dX9_many_103 ?_
    replace h := bind_so h
    obtain ⟨_, g104, h⟩ := h
    replace h := bind_so h
    obtain ⟨q104, h104, h⟩ := h
    refine r_callV (as := []) (rv := (some (vI q104.1))) (kc := 0) (nc := 0) (tX9_told h104) clok_9 F (gK_so g104) tw_1770 tw_1772 tw_95 tw_1773 tw_122 ⟨by decide, by decide, show (parseMethodDescriptor yX9_told.desc).map (fun d => d.parameters.length) = some 0 by decide +kernel⟩ ⟨by decide, by decide⟩ (Nat.le_of_ble_eq_true rfl) dX9_many_104 ?_
    obtain rfl := Option.some.inj h
    exact r_iret F dX9_many_107
  replace h := ite_n h hc7
  by_cases hc8 : l1 = 8
  · replace h := ite_p h hc8
    refine r_tIn (off := 100) (tgt := 108) F (by omega) (by omega) (by rw [hc8]; rfl) (by decide) dX9_many_8 ?_
    refine r_iconst F rfl dX9_many_108 ?_
    refine r_istore_n (ls' := [(3, vI 0), (2, vI 0), (0, vR l0), (1, vI l1)]) F rfl (by decide) rfl dX9_many_109 ?_
    refine r_sub [2, 1, 0] (ls' := [(0, vR l0), (2, vI 0), (3, vI 0)]) rfl ?_
    exact tX9_many_110 F h
  replace h := ite_n h hc8
  by_cases hc9 : l1 = 9
  · replace h := ite_p h hc9
    refine r_tIn (off := 133) (tgt := 141) F (by omega) (by omega) (by rw [hc9]; rfl) (by decide) dX9_many_8 ?_
    refine r_aload_n (j := 1) F rfl rfl dX9_many_141 ?_
    replace h := bind_so h
    obtain ⟨a142, h142, h⟩ := h
    refine r_getT (t := 2) rfl clok_9 F (by decide) h142 tw_1312 dX9_many_142 ?_
    refine r_bipush F rfl (by decide) dX9_many_145 ?_
    replace h := bind_so h
    obtain ⟨a147, h147, h⟩ := h
    refine r_iald F h147 dX9_many_147 ?_
    obtain rfl := Option.some.inj h
    exact r_iret F dX9_many_148
  replace h := ite_n h hc9
  by_cases hc10 : l1 = 10
  · replace h := ite_p h hc10
    refine r_tIn (off := 141) (tgt := 149) F (by omega) (by omega) (by rw [hc10]; rfl) (by decide) dX9_many_8 ?_
    refine r_aload_n (j := 1) F rfl rfl dX9_many_149 ?_
    replace h := bind_so h
    obtain ⟨a150, h150, h⟩ := h
    refine r_getT (t := 2) rfl clok_9 F (by decide) h150 tw_1317 dX9_many_150 ?_
    refine r_iconst F rfl dX9_many_153 ?_
    replace h := bind_so h
    obtain ⟨a154, h154, h⟩ := h
    refine r_iald F h154 dX9_many_154 ?_
    obtain rfl := Option.some.inj h
    exact r_iret F dX9_many_155
  replace h := ite_n h hc10
  refine r_tOut (tgt := 156) F (by omega) (by decide) dX9_many_8 ?_
  refine r_bipush F rfl (by decide) dX9_many_156 ?_
  obtain rfl := Option.some.inj h
  exact r_iret F dX9_many_158
theorem tX9_image {l0 l1 : Int} {M : Mem} {q : Int × Mem} (h : mX9_image l0 l1 M = some q) : Ct 2 0 0 yX9_image cX9_image 2 (some FieldType.boolean) [vR l0, vI l1] M (some (vI q.1)) q.2 := by
  unfold mX9_image at h
  refine Ct.of (by decide) (Nat.le_of_ble_eq_true rfl) ?_
  intro E p l e s m args below meth c F
  refine r_sub [0, 1] (ls' := [(0, vR l0), (1, vI l1)]) rfl ?_
  refine r_aload_n (j := 0) F rfl rfl dX9_image_0 ?_
  refine r_iconst F rfl dX9_image_1 ?_
  replace h := bind_so h
  obtain ⟨M2, h2, h⟩ := h
  refine r_put clok_9 F (by decide) rfl (by decide) (by decide) h2 tw_1297 dX9_image_2 ?_
  refine r_iload_n (j := 1) F rfl rfl dX9_image_5 ?_
  refine r_iconst F rfl dX9_image_6 ?_
  refine r_iconst F rfl dX9_image_7 ?_
  replace h := bind_so h
  obtain ⟨q8, h8, h⟩ := h
  refine r_callS (as := [vI l1, vI 0, vI 2]) (rv := (some (vI q8.1))) (kc := 0) (nc := 0) (tX9_in h8) F tw_1491 tw_1492 tw_1493 tw_122 ⟨by decide, by decide, show (parseMethodDescriptor yX9_in.desc).map (fun d => d.parameters.length) = some 3 by decide +kernel⟩ ⟨by decide, by decide⟩ (Nat.le_of_ble_eq_true rfl) dX9_image_8 ?_
  refine r_if_ne (tgt := 16) F (by decide) dX9_image_11 (fun hc => ?_) (fun hc => ?_)
  · replace h := ite_n h hc
    refine r_aload_n (j := 0) F rfl rfl dX9_image_16 ?_
    refine r_iconst F rfl dX9_image_17 ?_
    refine r_iload_n (j := 1) F rfl rfl dX9_image_18 ?_
    refine r_iconst F rfl dX9_image_19 ?_
    refine r_iadd F dX9_image_20 ?_
    replace h := bind_so h
    obtain ⟨_, g21, h⟩ := h
    replace h := bind_so h
    obtain ⟨q21, h21, h⟩ := h
    refine r_callV (as := [vI 0, vI (wI (l1 + 1))]) (rv := none) (kc := 0) (nc := 0) (tX9_copy h21) clok_9 F (gK_so g21) tw_1896 tw_1898 tw_110 tw_1899 tw_122 ⟨by decide, by decide, show (parseMethodDescriptor yX9_copy.desc).map (fun d => d.parameters.length) = some 2 by decide +kernel⟩ ⟨by decide, by decide⟩ (Nat.le_of_ble_eq_true rfl) dX9_image_21 ?_
    refine r_aload_n (j := 0) F rfl rfl dX9_image_24 ?_
    replace h := bind_so h
    obtain ⟨a25, h25, h⟩ := h
    refine r_getT (t := 2) rfl clok_9 F (by decide) h25 tw_1359 dX9_image_25 ?_
    refine r_iload_n (j := 1) F rfl rfl dX9_image_28 ?_
    refine r_iconst F rfl dX9_image_29 ?_
    replace h := bind_so h
    obtain ⟨M30, h30, h⟩ := h
    refine r_zast F h30 dX9_image_30 ?_
    refine r_iconst F rfl dX9_image_31 ?_
    obtain rfl := Option.some.inj h
    exact r_zret (Or.inr rfl) F dX9_image_32
  · replace h := ite_p h hc
    refine r_iconst F rfl dX9_image_14 ?_
    obtain rfl := Option.some.inj h
    exact r_zret (Or.inl rfl) F dX9_image_15
theorem tX9_again {l0 l1 : Int} {M : Mem} {q : Int × Mem} (h : mX9_again l0 l1 M = some q) : Ct 2 0 0 yX9_again cX9_again 2 (some FieldType.boolean) [vR l0, vI l1] M (some (vI q.1)) q.2 := by
  unfold mX9_again at h
  refine Ct.of (by decide) (Nat.le_of_ble_eq_true rfl) ?_
  intro E p l e s m args below meth c F
  refine r_sub [0, 1] (ls' := [(0, vR l0), (1, vI l1)]) rfl ?_
  refine r_aload_n (j := 0) F rfl rfl dX9_again_0 ?_
  refine r_iconst F rfl dX9_again_1 ?_
  replace h := bind_so h
  obtain ⟨M2, h2, h⟩ := h
  refine r_put clok_9 F (by decide) rfl (by decide) (by decide) h2 tw_1297 dX9_again_2 ?_
  refine r_iload_n (j := 1) F rfl rfl dX9_again_5 ?_
  refine r_iconst F rfl dX9_again_6 ?_
  refine r_iconst F rfl dX9_again_7 ?_
  replace h := bind_so h
  obtain ⟨q8, h8, h⟩ := h
  refine r_callS (as := [vI l1, vI 0, vI 2]) (rv := (some (vI q8.1))) (kc := 0) (nc := 0) (tX9_in h8) F tw_1491 tw_1492 tw_1493 tw_122 ⟨by decide, by decide, show (parseMethodDescriptor yX9_in.desc).map (fun d => d.parameters.length) = some 3 by decide +kernel⟩ ⟨by decide, by decide⟩ (Nat.le_of_ble_eq_true rfl) dX9_again_8 ?_
  refine r_if_eq (tgt := 23) F (by decide) dX9_again_11 (fun hc => ?_) (fun hc => ?_)
  · replace h := ite_p h hc
    refine r_iconst F rfl dX9_again_23 ?_
    obtain rfl := Option.some.inj h
    exact r_zret (Or.inl rfl) F dX9_again_24
  · replace h := ite_n h hc
    refine r_aload_n (j := 0) F rfl rfl dX9_again_14 ?_
    replace h := bind_so h
    obtain ⟨a15, h15, h⟩ := h
    refine r_getT (t := 2) rfl clok_9 F (by decide) h15 tw_1359 dX9_again_15 ?_
    refine r_iload_n (j := 1) F rfl rfl dX9_again_18 ?_
    replace h := bind_so h
    obtain ⟨a19, h19, h⟩ := h
    refine r_zald F h19 dX9_again_19 ?_
    refine r_if_ne (tgt := 25) F (by decide) dX9_again_20 (fun hc => ?_) (fun hc => ?_)
    · replace h := ite_n h hc
      refine r_aload_n (j := 0) F rfl rfl dX9_again_25 ?_
      refine r_iload_n (j := 1) F rfl rfl dX9_again_26 ?_
      refine r_iconst F rfl dX9_again_27 ?_
      refine r_iadd F dX9_again_28 ?_
      refine r_iconst F rfl dX9_again_29 ?_
      replace h := bind_so h
      obtain ⟨_, g30, h⟩ := h
      replace h := bind_so h
      obtain ⟨q30, h30, h⟩ := h
      refine r_callV (as := [vI (wI (l1 + 1)), vI 0]) (rv := none) (kc := 0) (nc := 0) (tX9_copy h30) clok_9 F (gK_so g30) tw_1896 tw_1898 tw_110 tw_1899 tw_122 ⟨by decide, by decide, show (parseMethodDescriptor yX9_copy.desc).map (fun d => d.parameters.length) = some 2 by decide +kernel⟩ ⟨by decide, by decide⟩ (Nat.le_of_ble_eq_true rfl) dX9_again_30 ?_
      refine r_iconst F rfl dX9_again_33 ?_
      obtain rfl := Option.some.inj h
      exact r_zret (Or.inr rfl) F dX9_again_34
    · replace h := ite_p h hc
      refine r_iconst F rfl dX9_again_23 ?_
      obtain rfl := Option.some.inj h
      exact r_zret (Or.inl rfl) F dX9_again_24
