theorem tX9_form_55 {E : En} {p : Program} {l : Launch} {e : Env} {s : State} {m : MethodId} {args : Array Value} {below : List Frame} {meth : Method} {c : Code} {q : Int × Mem} {k22 : Int → Int → Int → Int → Mem → Option (Int × Mem)} (hk22 : ∀ {l0 l1 l2 l3 : Int} {M : Mem}, k22 l0 l1 l2 l3 M = some q → G E p l e (rmOf 10 0 0) s m args below meth c 4 (QZ E below args s (rmOf 10 0 0) (some (vI q.1)) q.2) 0 0 M 22 [(0, vR l0), (1, vI l1), (2, vI l2), (3, vI l3)] []) {l0 l1 l2 l3 : Int} {M : Mem} (F : Fx E p s m args meth c cX9_form 4 yX9_form.cls (some FieldType.boolean) yX9_form.name) (h : mX9_form_55 k22 l0 l1 l2 l3 M = some q) : G E p l e (rmOf 10 0 0) s m args below meth c 4 (QZ E below args s (rmOf 10 0 0) (some (vI q.1)) q.2) 0 0 M 55 [(0, vR l0), (1, vI l1), (2, vI l2), (3, vI l3)] [] := by
  unfold mX9_form_55 at h
  refine r_iinc (j := 3) (ls' := [(3, vI (wI (l3 + 1))), (0, vR l0), (1, vI l1), (2, vI l2)]) F rfl (by decide) rfl dX9_form_55 ?_
  refine r_goto (tgt := 22) F (by decide) dX9_form_58 ?_
  refine r_sub [1, 2, 3, 0] (ls' := [(0, vR l0), (1, vI l1), (2, vI l2), (3, vI (wI (l3 + 1)))]) rfl ?_
  exact hk22 h
theorem tbX9_form_22 {E : En} {p : Program} {l : Launch} {e : Env} {s : State} {m : MethodId} {args : Array Value} {below : List Frame} {meth : Method} {c : Code} {q : Int × Mem} {k22 : Int → Int → Int → Int → Mem → Option (Int × Mem)} (hk22 : ∀ {l0 l1 l2 l3 : Int} {M : Mem}, k22 l0 l1 l2 l3 M = some q → G E p l e (rmOf 10 0 0) s m args below meth c 4 (QZ E below args s (rmOf 10 0 0) (some (vI q.1)) q.2) 0 0 M 22 [(0, vR l0), (1, vI l1), (2, vI l2), (3, vI l3)] []) {l0 l1 l2 l3 : Int} {M : Mem} (F : Fx E p s m args meth c cX9_form 4 yX9_form.cls (some FieldType.boolean) yX9_form.name) (h : bX9_form_22 k22 l0 l1 l2 l3 M = some q) : G E p l e (rmOf 10 0 0) s m args below meth c 4 (QZ E below args s (rmOf 10 0 0) (some (vI q.1)) q.2) 0 0 M 22 [(0, vR l0), (1, vI l1), (2, vI l2), (3, vI l3)] [] := by
  unfold bX9_form_22 at h
  refine r_iload_n (j := 3) F rfl rfl dX9_form_22 ?_
  refine r_iconst F rfl dX9_form_23 ?_
  refine r_aload_n (j := 0) F rfl rfl dX9_form_24 ?_
  replace h := bind_so h
  obtain ⟨_, g25, h⟩ := h
  replace h := bind_so h
  obtain ⟨q25, h25, h⟩ := h
  refine r_callV (as := []) (rv := (some (vI q25.1))) (kc := 0) (nc := 0) (tX9_manyFacts h25) clok_9 F (gK_so g25) tw_1518 tw_1520 tw_58 tw_1521 tw_122 ⟨by decide, by decide, show (parseMethodDescriptor yX9_manyFacts.desc).map (fun d => d.parameters.length) = some 0 by decide +kernel⟩ ⟨by decide, by decide⟩ (Nat.le_of_ble_eq_true rfl) dX9_form_25 ?_
  refine r_ishl F dX9_form_28 ?_
  refine r_icmp_ge (tgt := 61) F (by decide) dX9_form_29 (fun hc => ?_) (fun hc => ?_)
  · replace h := ite_p h hc
    refine r_iconst F rfl dX9_form_61 ?_
    obtain rfl := Option.some.inj h
    exact r_zret (Or.inl rfl) F dX9_form_62
  · replace h := ite_n h hc
    refine r_aload_n (j := 0) F rfl rfl dX9_form_32 ?_
    refine r_iload_n (j := 3) F rfl rfl dX9_form_33 ?_
    replace h := bind_so h
    obtain ⟨_, g34, h⟩ := h
    replace h := bind_so h
    obtain ⟨q34, h34, h⟩ := h
    refine r_callV (as := [vI l3]) (rv := (some (vI q34.1))) (kc := 0) (nc := 0) (tX9_isForm h34) clok_9 F (gK_so g34) tw_1794 tw_1796 tw_100 tw_1797 tw_122 ⟨by decide, by decide, show (parseMethodDescriptor yX9_isForm.desc).map (fun d => d.parameters.length) = some 1 by decide +kernel⟩ ⟨by decide, by decide⟩ (Nat.le_of_ble_eq_true rfl) dX9_form_34 ?_
    refine r_if_eq (tgt := 55) F (by decide) dX9_form_37 (fun hc => ?_) (fun hc => ?_)
    · replace h := ite_p h hc
      refine r_sub [0, 1, 2, 3] (ls' := [(0, vR l0), (1, vI l1), (2, vI l2), (3, vI l3)]) rfl ?_
      exact tX9_form_55 (fun h => hk22 h) F h
    · replace h := ite_n h hc
      refine r_iload_n (j := 2) F rfl rfl dX9_form_40 ?_
      refine r_iload_n (j := 1) F rfl rfl dX9_form_41 ?_
      refine r_icmp_ne (tgt := 52) F (by decide) dX9_form_42 (fun hc => ?_) (fun hc => ?_)
      · replace h := ite_n h hc
        refine r_iinc (j := 2) (ls' := [(2, vI (wI (l2 + 1))), (0, vR l0), (1, vI l1), (3, vI l3)]) F rfl (by decide) rfl dX9_form_52 ?_
        refine r_sub [1, 2, 0, 3] (ls' := [(0, vR l0), (1, vI l1), (2, vI (wI (l2 + 1))), (3, vI l3)]) rfl ?_
        exact tX9_form_55 (fun h => hk22 h) F h
      · replace h := ite_p h hc
        refine r_aload_n (j := 0) F rfl rfl dX9_form_45 ?_
        refine r_iload_n (j := 3) F rfl rfl dX9_form_46 ?_
        replace h := bind_so h
        obtain ⟨_, g47, h⟩ := h
        replace h := bind_so h
        obtain ⟨q47, h47, h⟩ := h
        refine r_callV (as := [vI l3]) (rv := none) (kc := 0) (nc := 0) (tX9_takeWorld h47) clok_9 F (gK_so g47) tw_1806 tw_1808 tw_102 tw_1809 tw_122 ⟨by decide, by decide, show (parseMethodDescriptor yX9_takeWorld.desc).map (fun d => d.parameters.length) = some 1 by decide +kernel⟩ ⟨by decide, by decide⟩ (Nat.le_of_ble_eq_true rfl) dX9_form_47 ?_
        refine r_iconst F rfl dX9_form_50 ?_
        obtain rfl := Option.some.inj h
        exact r_zret (Or.inr rfl) F dX9_form_51
theorem tX9_form_22 {E : En} {p : Program} {l : Launch} {e : Env} {s : State} {m : MethodId} {args : Array Value} {below : List Frame} {meth : Method} {c : Code} {q : Int × Mem} (F : Fx E p s m args meth c cX9_form 4 yX9_form.cls (some FieldType.boolean) yX9_form.name) : ∀ {fu : Nat} {l0 l1 l2 l3 : Int} {M : Mem}, mX9_form_22 fu l0 l1 l2 l3 M = some q → G E p l e (rmOf 10 0 0) s m args below meth c 4 (QZ E below args s (rmOf 10 0 0) (some (vI q.1)) q.2) 0 0 M 22 [(0, vR l0), (1, vI l1), (2, vI l2), (3, vI l3)] [] := by
  intro fu
  induction fu with
  | zero => intro l0 l1 l2 l3 M h; exact nomatch (show (none : Option (Int × Mem)) = some q from h)
  | succ fu ih => intro l0 l1 l2 l3 M h; exact tbX9_form_22  (fun h => ih h) F h
theorem tX9_form {l0 l1 : Int} {M : Mem} {q : Int × Mem} (h : mX9_form l0 l1 M = some q) : Ct 10 0 0 yX9_form cX9_form 4 (some FieldType.boolean) [vR l0, vI l1] M (some (vI q.1)) q.2 := by
  unfold mX9_form at h
  refine Ct.of (by decide) (Nat.le_of_ble_eq_true rfl) ?_
  intro E p l e s m args below meth c F
  refine r_sub [0, 1] (ls' := [(0, vR l0), (1, vI l1)]) rfl ?_
  refine r_aload_n (j := 0) F rfl rfl dX9_form_0 ?_
  refine r_iconst F rfl dX9_form_1 ?_
  replace h := bind_so h
  obtain ⟨M2, h2, h⟩ := h
  refine r_put clok_9 F (by decide) rfl (by decide) (by decide) h2 tw_1297 dX9_form_2 ?_
  refine r_aload_n (j := 0) F rfl rfl dX9_form_5 ?_
  replace h := bind_so h
  obtain ⟨_, g6, h⟩ := h
  replace h := bind_so h
  obtain ⟨q6, h6, h⟩ := h
  refine r_callV (as := []) (rv := (some (vI q6.1))) (kc := 0) (nc := 0) (tX9_canTell h6) clok_9 F (gK_so g6) tw_1554 tw_1556 tw_62 tw_1557 tw_122 ⟨by decide, by decide, show (parseMethodDescriptor yX9_canTell.desc).map (fun d => d.parameters.length) = some 0 by decide +kernel⟩ ⟨by decide, by decide⟩ (Nat.le_of_ble_eq_true rfl) dX9_form_6 ?_
  refine r_if_ne (tgt := 14) F (by decide) dX9_form_9 (fun hc => ?_) (fun hc => ?_)
  · replace h := ite_n h hc
    refine r_aload_n (j := 0) F rfl rfl dX9_form_14 ?_
    replace h := bind_so h
    obtain ⟨_, g15, h⟩ := h
    replace h := bind_so h
    obtain ⟨q15, h15, h⟩ := h
    refine r_callV (as := []) (rv := none) (kc := 0) (nc := 0) (tX9_prepare h15) clok_9 F (gK_so g15) tw_1766 tw_1768 tw_94 tw_1769 tw_122 ⟨by decide, by decide, show (parseMethodDescriptor yX9_prepare.desc).map (fun d => d.parameters.length) = some 0 by decide +kernel⟩ ⟨by decide, by decide⟩ (Nat.le_of_ble_eq_true rfl) dX9_form_15 ?_
    refine r_iconst F rfl dX9_form_18 ?_
    refine r_istore_n (ls' := [(2, vI 0), (0, vR l0), (1, vI l1)]) F rfl (by decide) rfl dX9_form_19 ?_
    refine r_iconst F rfl dX9_form_20 ?_
    refine r_istore_n (ls' := [(3, vI 0), (2, vI 0), (0, vR l0), (1, vI l1)]) F rfl (by decide) rfl dX9_form_21 ?_
    refine r_sub [2, 3, 1, 0] (ls' := [(0, vR l0), (1, vI l1), (2, vI 0), (3, vI 0)]) rfl ?_
    exact tX9_form_22 F h
  · replace h := ite_p h hc
    refine r_iconst F rfl dX9_form_12 ?_
    obtain rfl := Option.some.inj h
    exact r_zret (Or.inl rfl) F dX9_form_13
theorem tX9_name {l0 : Int} {M : Mem} {q : Int × Mem} (h : mX9_name l0 M = some q) : Ct 4 0 0 yX9_name cX9_name 3 (some FieldType.boolean) [vR l0] M (some (vI q.1)) q.2 := by
  unfold mX9_name at h
  refine Ct.of (by decide) (Nat.le_of_ble_eq_true rfl) ?_
  intro E p l e s m args below meth c F
  refine r_sub [0] (ls' := [(0, vR l0)]) rfl ?_
  refine r_aload_n (j := 0) F rfl rfl dX9_name_0 ?_
  refine r_iconst F rfl dX9_name_1 ?_
  replace h := bind_so h
  obtain ⟨M2, h2, h⟩ := h
  refine r_put clok_9 F (by decide) rfl (by decide) (by decide) h2 tw_1297 dX9_name_2 ?_
  refine r_aload_n (j := 0) F rfl rfl dX9_name_5 ?_
  replace h := bind_so h
  obtain ⟨_, g6, h⟩ := h
  replace h := bind_so h
  obtain ⟨q6, h6, h⟩ := h
  refine r_callV (as := []) (rv := (some (vI q6.1))) (kc := 0) (nc := 0) (tX9_canTell h6) clok_9 F (gK_so g6) tw_1554 tw_1556 tw_62 tw_1557 tw_122 ⟨by decide, by decide, show (parseMethodDescriptor yX9_canTell.desc).map (fun d => d.parameters.length) = some 0 by decide +kernel⟩ ⟨by decide, by decide⟩ (Nat.le_of_ble_eq_true rfl) dX9_name_6 ?_
  refine r_if_ne (tgt := 14) F (by decide) dX9_name_9 (fun hc => ?_) (fun hc => ?_)
  · replace h := ite_n h hc
    refine r_aload_n (j := 0) F rfl rfl dX9_name_14 ?_
    replace h := bind_so h
    obtain ⟨_, g15, h⟩ := h
    replace h := bind_so h
    obtain ⟨q15, h15, h⟩ := h
    refine r_callV (as := []) (rv := (some (vI q15.1))) (kc := 0) (nc := 0) (tX9_numberOfWorld h15) clok_9 F (gK_so g15) tw_1558 tw_1560 tw_63 tw_1561 tw_122 ⟨by decide, by decide, show (parseMethodDescriptor yX9_numberOfWorld.desc).map (fun d => d.parameters.length) = some 0 by decide +kernel⟩ ⟨by decide, by decide⟩ (Nat.le_of_ble_eq_true rfl) dX9_name_15 ?_
    refine r_istore_n (ls' := [(1, vI q15.1), (0, vR l0)]) F rfl (by decide) rfl dX9_name_18 ?_
    refine r_aload_n (j := 1) F rfl rfl dX9_name_19 ?_
    refine r_iload_n (j := 0) F rfl rfl dX9_name_20 ?_
    replace h := bind_so h
    obtain ⟨_, g21, h⟩ := h
    replace h := bind_so h
    obtain ⟨q21, h21, h⟩ := h
    refine r_callV (as := [vI q15.1]) (rv := none) (kc := 0) (nc := 0) (tX9_layWorld h21) clok_9 F (gK_so g21) tw_1786 tw_1788 tw_99 tw_1789 tw_122 ⟨by decide, by decide, show (parseMethodDescriptor yX9_layWorld.desc).map (fun d => d.parameters.length) = some 1 by decide +kernel⟩ ⟨by decide, by decide⟩ (Nat.le_of_ble_eq_true rfl) dX9_name_21 ?_
    refine r_aload_n (j := 1) F rfl rfl dX9_name_24 ?_
    replace h := bind_so h
    obtain ⟨_, g25, h⟩ := h
    replace h := bind_so h
    obtain ⟨q25, h25, h⟩ := h
    refine r_callV (as := []) (rv := (some (vI q25.1))) (kc := 0) (nc := 0) (tX9_leastImage h25) clok_9 F (gK_so g25) tw_1798 tw_1800 tw_101 tw_1801 tw_122 ⟨by decide, by decide, show (parseMethodDescriptor yX9_leastImage.desc).map (fun d => d.parameters.length) = some 0 by decide +kernel⟩ ⟨by decide, by decide⟩ (Nat.le_of_ble_eq_true rfl) dX9_name_25 ?_
    refine r_istore_n (ls' := [(2, vI q25.1), (1, vI q15.1), (0, vR l0)]) F rfl (by decide) rfl dX9_name_28 ?_
    refine r_aload_n (j := 2) F rfl rfl dX9_name_29 ?_
    refine r_iload_n (j := 0) F rfl rfl dX9_name_30 ?_
    replace h := bind_so h
    obtain ⟨_, g31, h⟩ := h
    replace h := bind_so h
    obtain ⟨q31, h31, h⟩ := h
    refine r_callV (as := [vI q25.1]) (rv := none) (kc := 0) (nc := 0) (tX9_takeWorld h31) clok_9 F (gK_so g31) tw_1806 tw_1808 tw_102 tw_1809 tw_122 ⟨by decide, by decide, show (parseMethodDescriptor yX9_takeWorld.desc).map (fun d => d.parameters.length) = some 1 by decide +kernel⟩ ⟨by decide, by decide⟩ (Nat.le_of_ble_eq_true rfl) dX9_name_31 ?_
    refine r_iload_n (j := 0) F rfl rfl dX9_name_34 ?_
    refine r_iload_n (j := 1) F rfl rfl dX9_name_35 ?_
    refine r_icmp_eq (tgt := 43) F (by decide) dX9_name_36 (fun hc => ?_) (fun hc => ?_)
    · replace h := ite_p h hc
      refine r_iconst F rfl dX9_name_43 ?_
      obtain rfl := Option.some.inj h
      exact r_zret (Or.inl rfl) F dX9_name_44
    · replace h := ite_n h hc
      refine r_iconst F rfl dX9_name_39 ?_
      refine r_goto (tgt := 44) F (by decide) dX9_name_40 ?_
      obtain rfl := Option.some.inj h
      exact r_zret (Or.inr rfl) F dX9_name_44
  · replace h := ite_p h hc
    refine r_iconst F rfl dX9_name_12 ?_
    obtain rfl := Option.some.inj h
    exact r_zret (Or.inl rfl) F dX9_name_13
theorem tX9_findLeast_145 {E : En} {p : Program} {l : Launch} {e : Env} {s : State} {m : MethodId} {args : Array Value} {below : List Frame} {meth : Method} {c : Code} {q : Int × Mem} {k20 : Int → Int → Mem → Option (Int × Mem)} {k28 : Int → Int → Int → Mem → Option (Int × Mem)} {k35 : Int → Int → Int → Int → Mem → Option (Int × Mem)} (hk20 : ∀ {l0 l1 : Int} {M : Mem}, k20 l0 l1 M = some q → G E p l e (rmOf 9 0 0) s m args below meth c 5 (QZ E below args s (rmOf 9 0 0) (some (vI q.1)) q.2) 0 0 M 20 [(0, vR l0), (1, vI l1)] []) (hk28 : ∀ {l0 l1 l2 : Int} {M : Mem}, k28 l0 l1 l2 M = some q → G E p l e (rmOf 9 0 0) s m args below meth c 5 (QZ E below args s (rmOf 9 0 0) (some (vI q.1)) q.2) 0 0 M 28 [(0, vR l0), (1, vI l1), (2, vI l2)] []) (hk35 : ∀ {l0 l1 l2 l3 : Int} {M : Mem}, k35 l0 l1 l2 l3 M = some q → G E p l e (rmOf 9 0 0) s m args below meth c 5 (QZ E below args s (rmOf 9 0 0) (some (vI q.1)) q.2) 0 0 M 35 [(0, vR l0), (1, vI l1), (2, vI l2), (3, vI l3)] []) {l0 l1 l2 l3 : Int} {M : Mem} (F : Fx E p s m args meth c cX9_findLeast 5 yX9_findLeast.cls (some FieldType.boolean) yX9_findLeast.name) (h : mX9_findLeast_145 k20 k28 k35 l0 l1 l2 l3 M = some q) : G E p l e (rmOf 9 0 0) s m args below meth c 5 (QZ E below args s (rmOf 9 0 0) (some (vI q.1)) q.2) 0 0 M 145 [(0, vR l0), (1, vI l1), (2, vI l2), (3, vI l3)] [] := by
  unfold mX9_findLeast_145 at h
  refine r_iinc (j := 3) (ls' := [(3, vI (wI (l3 + 1))), (0, vR l0), (1, vI l1), (2, vI l2)]) F rfl (by decide) rfl dX9_findLeast_145 ?_
  refine r_goto (tgt := 35) F (by decide) dX9_findLeast_148 ?_
  refine r_sub [1, 2, 3, 0] (ls' := [(0, vR l0), (1, vI l1), (2, vI l2), (3, vI (wI (l3 + 1)))]) rfl ?_
  exact hk35 h
theorem tbX9_findLeast_89 {E : En} {p : Program} {l : Launch} {e : Env} {s : State} {m : MethodId} {args : Array Value} {below : List Frame} {meth : Method} {c : Code} {q : Int × Mem} {k20 : Int → Int → Mem → Option (Int × Mem)} {k28 : Int → Int → Int → Mem → Option (Int × Mem)} {k35 : Int → Int → Int → Int → Mem → Option (Int × Mem)} (hk20 : ∀ {l0 l1 : Int} {M : Mem}, k20 l0 l1 M = some q → G E p l e (rmOf 9 0 0) s m args below meth c 5 (QZ E below args s (rmOf 9 0 0) (some (vI q.1)) q.2) 0 0 M 20 [(0, vR l0), (1, vI l1)] []) (hk28 : ∀ {l0 l1 l2 : Int} {M : Mem}, k28 l0 l1 l2 M = some q → G E p l e (rmOf 9 0 0) s m args below meth c 5 (QZ E below args s (rmOf 9 0 0) (some (vI q.1)) q.2) 0 0 M 28 [(0, vR l0), (1, vI l1), (2, vI l2)] []) (hk35 : ∀ {l0 l1 l2 l3 : Int} {M : Mem}, k35 l0 l1 l2 l3 M = some q → G E p l e (rmOf 9 0 0) s m args below meth c 5 (QZ E below args s (rmOf 9 0 0) (some (vI q.1)) q.2) 0 0 M 35 [(0, vR l0), (1, vI l1), (2, vI l2), (3, vI l3)] []) {k89 : Int → Int → Int → Int → Int → Mem → Option (Int × Mem)} (hk89 : ∀ {l0 l1 l2 l3 l4 : Int} {M : Mem}, k89 l0 l1 l2 l3 l4 M = some q → G E p l e (rmOf 9 0 0) s m args below meth c 5 (QZ E below args s (rmOf 9 0 0) (some (vI q.1)) q.2) 0 0 M 89 [(0, vR l0), (1, vI l1), (2, vI l2), (3, vI l3), (4, vI l4)] []) {l0 l1 l2 l3 l4 : Int} {M : Mem} (F : Fx E p s m args meth c cX9_findLeast 5 yX9_findLeast.cls (some FieldType.boolean) yX9_findLeast.name) (h : bX9_findLeast_89 k20 k28 k35 k89 l0 l1 l2 l3 l4 M = some q) : G E p l e (rmOf 9 0 0) s m args below meth c 5 (QZ E below args s (rmOf 9 0 0) (some (vI q.1)) q.2) 0 0 M 89 [(0, vR l0), (1, vI l1), (2, vI l2), (3, vI l3), (4, vI l4)] [] := by
  unfold bX9_findLeast_89 at h
  refine r_aload_n (j := 0) F rfl rfl dX9_findLeast_89 ?_
  replace h := bind_so h
  obtain ⟨_, g90, h⟩ := h
  replace h := bind_so h
  obtain ⟨q90, h90, h⟩ := h
  refine r_callV (as := []) (rv := (some (vI q90.1))) (kc := 0) (nc := 0) (tX9_manyFacts h90) clok_9 F (gK_so g90) tw_1518 tw_1520 tw_58 tw_1521 tw_122 ⟨by decide, by decide, show (parseMethodDescriptor yX9_manyFacts.desc).map (fun d => d.parameters.length) = some 0 by decide +kernel⟩ ⟨by decide, by decide⟩ (Nat.le_of_ble_eq_true rfl) dX9_findLeast_90 ?_
  refine r_bipush F rfl (by decide) dX9_findLeast_93 ?_
  refine r_icmp_gt (tgt := 145) F (by decide) dX9_findLeast_95 (fun hc => ?_) (fun hc => ?_)
  · replace h := ite_p h hc
    refine r_sub [0, 1, 2, 3] (ls' := [(0, vR l0), (1, vI l1), (2, vI l2), (3, vI l3)]) rfl ?_
    exact tX9_findLeast_145 (fun h => hk20 h) (fun h => hk28 h) (fun h => hk35 h) F h
  · replace h := ite_n h hc
    refine r_iload (j := 4) F rfl dX9_findLeast_98 ?_
    refine r_iconst F rfl dX9_findLeast_100 ?_
    refine r_aload_n (j := 0) F rfl rfl dX9_findLeast_101 ?_
    replace h := bind_so h
    obtain ⟨_, g102, h⟩ := h
    replace h := bind_so h
    obtain ⟨q102, h102, h⟩ := h
    refine r_callV (as := []) (rv := (some (vI q102.1))) (kc := 0) (nc := 0) (tX9_manyFacts h102) clok_9 F (gK_so g102) tw_1518 tw_1520 tw_58 tw_1521 tw_122 ⟨by decide, by decide, show (parseMethodDescriptor yX9_manyFacts.desc).map (fun d => d.parameters.length) = some 0 by decide +kernel⟩ ⟨by decide, by decide⟩ (Nat.le_of_ble_eq_true rfl) dX9_findLeast_102 ?_
    refine r_ishl F dX9_findLeast_105 ?_
    refine r_icmp_ge (tgt := 145) F (by decide) dX9_findLeast_106 (fun hc => ?_) (fun hc => ?_)
    · replace h := ite_p h hc
      refine r_sub [0, 1, 2, 3] (ls' := [(0, vR l0), (1, vI l1), (2, vI l2), (3, vI l3)]) rfl ?_
      exact tX9_findLeast_145 (fun h => hk20 h) (fun h => hk28 h) (fun h => hk35 h) F h
    · replace h := ite_n h hc
      refine r_aload_n (j := 0) F rfl rfl dX9_findLeast_109 ?_
      refine r_iload (j := 4) F rfl dX9_findLeast_110 ?_
      replace h := bind_so h
      obtain ⟨_, g112, h⟩ := h
      replace h := bind_so h
      obtain ⟨q112, h112, h⟩ := h
      refine r_callV (as := [vI l4]) (rv := (some (vI q112.1))) (kc := 0) (nc := 0) (tX9_isWorld h112) clok_9 F (gK_so g112) tw_1778 tw_1780 tw_97 tw_1781 tw_122 ⟨by decide, by decide, show (parseMethodDescriptor yX9_isWorld.desc).map (fun d => d.parameters.length) = some 1 by decide +kernel⟩ ⟨by decide, by decide⟩ (Nat.le_of_ble_eq_true rfl) dX9_findLeast_112 ?_
      refine r_if_eq (tgt := 139) F (by decide) dX9_findLeast_115 (fun hc => ?_) (fun hc => ?_)
      · replace h := ite_p h hc
        refine r_iinc (j := 4) (ls' := [(4, vI (wI (l4 + 1))), (0, vR l0), (1, vI l1), (2, vI l2), (3, vI l3)]) F rfl (by decide) rfl dX9_findLeast_139 ?_
        refine r_goto (tgt := 89) F (by decide) dX9_findLeast_142 ?_
        refine r_sub [1, 2, 3, 4, 0] (ls' := [(0, vR l0), (1, vI l1), (2, vI l2), (3, vI l3), (4, vI (wI (l4 + 1)))]) rfl ?_
        exact hk89 h
      · replace h := ite_n h hc
        refine r_aload_n (j := 0) F rfl rfl dX9_findLeast_118 ?_
        refine r_iload_n (j := 2) F rfl rfl dX9_findLeast_119 ?_
        replace h := bind_so h
        obtain ⟨M120, h120, h⟩ := h
        refine r_put clok_9 F (by decide) rfl (by decide) (by decide) h120 tw_1349 dX9_findLeast_120 ?_
        refine r_aload_n (j := 0) F rfl rfl dX9_findLeast_123 ?_
        refine r_iload_n (j := 3) F rfl rfl dX9_findLeast_124 ?_
        replace h := bind_so h
        obtain ⟨M125, h125, h⟩ := h
        refine r_put clok_9 F (by decide) rfl (by decide) (by decide) h125 tw_1350 dX9_findLeast_125 ?_
        refine r_aload_n (j := 0) F rfl rfl dX9_findLeast_128 ?_
        refine r_iload_n (j := 1) F rfl rfl dX9_findLeast_129 ?_
        refine r_iload_n (j := 2) F rfl rfl dX9_findLeast_130 ?_
        refine r_isub F dX9_findLeast_131 ?_
        refine r_iload_n (j := 3) F rfl rfl dX9_findLeast_132 ?_
        refine r_isub F dX9_findLeast_133 ?_
        replace h := bind_so h
        obtain ⟨M134, h134, h⟩ := h
        refine r_put clok_9 F (by decide) rfl (by decide) (by decide) h134 tw_1351 dX9_findLeast_134 ?_
        refine r_iconst F rfl dX9_findLeast_137 ?_
        obtain rfl := Option.some.inj h
        exact r_zret (Or.inr rfl) F dX9_findLeast_138
theorem tX9_findLeast_89 {E : En} {p : Program} {l : Launch} {e : Env} {s : State} {m : MethodId} {args : Array Value} {below : List Frame} {meth : Method} {c : Code} {q : Int × Mem} {k20 : Int → Int → Mem → Option (Int × Mem)} {k28 : Int → Int → Int → Mem → Option (Int × Mem)} {k35 : Int → Int → Int → Int → Mem → Option (Int × Mem)} (hk20 : ∀ {l0 l1 : Int} {M : Mem}, k20 l0 l1 M = some q → G E p l e (rmOf 9 0 0) s m args below meth c 5 (QZ E below args s (rmOf 9 0 0) (some (vI q.1)) q.2) 0 0 M 20 [(0, vR l0), (1, vI l1)] []) (hk28 : ∀ {l0 l1 l2 : Int} {M : Mem}, k28 l0 l1 l2 M = some q → G E p l e (rmOf 9 0 0) s m args below meth c 5 (QZ E below args s (rmOf 9 0 0) (some (vI q.1)) q.2) 0 0 M 28 [(0, vR l0), (1, vI l1), (2, vI l2)] []) (hk35 : ∀ {l0 l1 l2 l3 : Int} {M : Mem}, k35 l0 l1 l2 l3 M = some q → G E p l e (rmOf 9 0 0) s m args below meth c 5 (QZ E below args s (rmOf 9 0 0) (some (vI q.1)) q.2) 0 0 M 35 [(0, vR l0), (1, vI l1), (2, vI l2), (3, vI l3)] []) (F : Fx E p s m args meth c cX9_findLeast 5 yX9_findLeast.cls (some FieldType.boolean) yX9_findLeast.name) : ∀ {fu : Nat} {l0 l1 l2 l3 l4 : Int} {M : Mem}, mX9_findLeast_89 k20 k28 k35 fu l0 l1 l2 l3 l4 M = some q → G E p l e (rmOf 9 0 0) s m args below meth c 5 (QZ E below args s (rmOf 9 0 0) (some (vI q.1)) q.2) 0 0 M 89 [(0, vR l0), (1, vI l1), (2, vI l2), (3, vI l3), (4, vI l4)] [] := by
  intro fu
  induction fu with
  | zero => intro l0 l1 l2 l3 l4 M h; exact nomatch (show (none : Option (Int × Mem)) = some q from h)
  | succ fu ih => intro l0 l1 l2 l3 l4 M h; exact tbX9_findLeast_89 (fun h => hk20 h) (fun h => hk28 h) (fun h => hk35 h) (fun h => ih h) F h
theorem tbX9_findLeast_35 {E : En} {p : Program} {l : Launch} {e : Env} {s : State} {m : MethodId} {args : Array Value} {below : List Frame} {meth : Method} {c : Code} {q : Int × Mem} {k20 : Int → Int → Mem → Option (Int × Mem)} {k28 : Int → Int → Int → Mem → Option (Int × Mem)} (hk20 : ∀ {l0 l1 : Int} {M : Mem}, k20 l0 l1 M = some q → G E p l e (rmOf 9 0 0) s m args below meth c 5 (QZ E below args s (rmOf 9 0 0) (some (vI q.1)) q.2) 0 0 M 20 [(0, vR l0), (1, vI l1)] []) (hk28 : ∀ {l0 l1 l2 : Int} {M : Mem}, k28 l0 l1 l2 M = some q → G E p l e (rmOf 9 0 0) s m args below meth c 5 (QZ E below args s (rmOf 9 0 0) (some (vI q.1)) q.2) 0 0 M 28 [(0, vR l0), (1, vI l1), (2, vI l2)] []) {k35 : Int → Int → Int → Int → Mem → Option (Int × Mem)} (hk35 : ∀ {l0 l1 l2 l3 : Int} {M : Mem}, k35 l0 l1 l2 l3 M = some q → G E p l e (rmOf 9 0 0) s m args below meth c 5 (QZ E below args s (rmOf 9 0 0) (some (vI q.1)) q.2) 0 0 M 35 [(0, vR l0), (1, vI l1), (2, vI l2), (3, vI l3)] []) {l0 l1 l2 l3 : Int} {M : Mem} (F : Fx E p s m args meth c cX9_findLeast 5 yX9_findLeast.cls (some FieldType.boolean) yX9_findLeast.name) (h : bX9_findLeast_35 k20 k28 k35 l0 l1 l2 l3 M = some q) : G E p l e (rmOf 9 0 0) s m args below meth c 5 (QZ E below args s (rmOf 9 0 0) (some (vI q.1)) q.2) 0 0 M 35 [(0, vR l0), (1, vI l1), (2, vI l2), (3, vI l3)] [] := by
  unfold bX9_findLeast_35 at h
  refine r_iload_n (j := 3) F rfl rfl dX9_findLeast_35 ?_
  refine r_iconst F rfl dX9_findLeast_36 ?_
  refine r_icmp_gt (tgt := 151) F (by decide) dX9_findLeast_37 (fun hc => ?_) (fun hc => ?_)
  · replace h := ite_p h hc
    refine r_iinc (j := 2) (ls' := [(2, vI (wI (l2 + 1))), (0, vR l0), (1, vI l1), (3, vI l3)]) F rfl (by decide) rfl dX9_findLeast_151 ?_
    refine r_goto (tgt := 28) F (by decide) dX9_findLeast_154 ?_
    refine r_sub [1, 2, 0] (ls' := [(0, vR l0), (1, vI l1), (2, vI (wI (l2 + 1)))]) rfl ?_
    exact hk28 h
  · replace h := ite_n h hc
    refine r_aload_n (j := 0) F rfl rfl dX9_findLeast_40 ?_
    replace h := bind_so h
    obtain ⟨a41, h41, h⟩ := h
    refine r_getT (t := 2) rfl clok_9 F (by decide) h41 tw_1323 dX9_findLeast_41 ?_
    refine r_iconst F rfl dX9_findLeast_44 ?_
    refine r_iload_n (j := 2) F rfl rfl dX9_findLeast_45 ?_
    replace h := bind_so h
    obtain ⟨M46, h46, h⟩ := h
    refine r_iast F h46 dX9_findLeast_46 ?_
    refine r_aload_n (j := 0) F rfl rfl dX9_findLeast_47 ?_
    replace h := bind_so h
    obtain ⟨a48, h48, h⟩ := h
    refine r_getT (t := 2) rfl clok_9 F (by decide) h48 tw_1323 dX9_findLeast_48 ?_
    refine r_iconst F rfl dX9_findLeast_51 ?_
    refine r_iload_n (j := 3) F rfl rfl dX9_findLeast_52 ?_
    replace h := bind_so h
    obtain ⟨M53, h53, h⟩ := h
    refine r_iast F h53 dX9_findLeast_53 ?_
    refine r_aload_n (j := 0) F rfl rfl dX9_findLeast_54 ?_
    replace h := bind_so h
    obtain ⟨a55, h55, h⟩ := h
    refine r_getT (t := 2) rfl clok_9 F (by decide) h55 tw_1323 dX9_findLeast_55 ?_
    refine r_iconst F rfl dX9_findLeast_58 ?_
    refine r_iload_n (j := 1) F rfl rfl dX9_findLeast_59 ?_
    refine r_iload_n (j := 2) F rfl rfl dX9_findLeast_60 ?_
    refine r_isub F dX9_findLeast_61 ?_
    refine r_iload_n (j := 3) F rfl rfl dX9_findLeast_62 ?_
    refine r_isub F dX9_findLeast_63 ?_
    replace h := bind_so h
    obtain ⟨M64, h64, h⟩ := h
    refine r_iast F h64 dX9_findLeast_64 ?_
    refine r_aload_n (j := 0) F rfl rfl dX9_findLeast_65 ?_
    replace h := bind_so h
    obtain ⟨a66, h66, h⟩ := h
    refine r_getT (t := 2) rfl clok_9 F (by decide) h66 tw_1323 dX9_findLeast_66 ?_
    refine r_iconst F rfl dX9_findLeast_69 ?_
    replace h := bind_so h
    obtain ⟨a70, h70, h⟩ := h
    refine r_iald F h70 dX9_findLeast_70 ?_
    refine r_iconst F rfl dX9_findLeast_71 ?_
    refine r_iconst F rfl dX9_findLeast_72 ?_
    replace h := bind_so h
    obtain ⟨q73, h73, h⟩ := h
    refine r_callS (as := [vI a70, vI 1, vI 3]) (rv := (some (vI q73.1))) (kc := 0) (nc := 0) (tX9_in h73) F tw_1491 tw_1492 tw_1493 tw_122 ⟨by decide, by decide, show (parseMethodDescriptor yX9_in.desc).map (fun d => d.parameters.length) = some 3 by decide +kernel⟩ ⟨by decide, by decide⟩ (Nat.le_of_ble_eq_true rfl) dX9_findLeast_73 ?_
    refine r_if_ne (tgt := 82) F (by decide) dX9_findLeast_76 (fun hc => ?_) (fun hc => ?_)
    · replace h := ite_n h hc
      refine r_aload_n (j := 0) F rfl rfl dX9_findLeast_82 ?_
      replace h := bind_so h
      obtain ⟨_, g83, h⟩ := h
      replace h := bind_so h
      obtain ⟨q83, h83, h⟩ := h
      refine r_callV (as := []) (rv := none) (kc := 0) (nc := 0) (tX9_findStarts h83) clok_9 F (gK_so g83) tw_1510 tw_1512 tw_56 tw_1513 tw_122 ⟨by decide, by decide, show (parseMethodDescriptor yX9_findStarts.desc).map (fun d => d.parameters.length) = some 0 by decide +kernel⟩ ⟨by decide, by decide⟩ (Nat.le_of_ble_eq_true rfl) dX9_findLeast_83 ?_
      refine r_iconst F rfl dX9_findLeast_86 ?_
      refine r_istore (ls' := [(4, vI 0), (0, vR l0), (1, vI l1), (2, vI l2), (3, vI l3)]) F (by decide) rfl dX9_findLeast_87 ?_
      refine r_sub [1, 2, 3, 4, 0] (ls' := [(0, vR l0), (1, vI l1), (2, vI l2), (3, vI l3), (4, vI 0)]) rfl ?_
      exact tX9_findLeast_89 (fun h => hk20 h) (fun h => hk28 h) (fun h => hk35 h) F h
    · replace h := ite_p h hc
      refine r_goto (tgt := 145) F (by decide) dX9_findLeast_79 ?_
      refine r_sub [0, 1, 2, 3] (ls' := [(0, vR l0), (1, vI l1), (2, vI l2), (3, vI l3)]) rfl ?_
      exact tX9_findLeast_145 (fun h => hk20 h) (fun h => hk28 h) (fun h => hk35 h) F h
theorem tX9_findLeast_35 {E : En} {p : Program} {l : Launch} {e : Env} {s : State} {m : MethodId} {args : Array Value} {below : List Frame} {meth : Method} {c : Code} {q : Int × Mem} {k20 : Int → Int → Mem → Option (Int × Mem)} {k28 : Int → Int → Int → Mem → Option (Int × Mem)} (hk20 : ∀ {l0 l1 : Int} {M : Mem}, k20 l0 l1 M = some q → G E p l e (rmOf 9 0 0) s m args below meth c 5 (QZ E below args s (rmOf 9 0 0) (some (vI q.1)) q.2) 0 0 M 20 [(0, vR l0), (1, vI l1)] []) (hk28 : ∀ {l0 l1 l2 : Int} {M : Mem}, k28 l0 l1 l2 M = some q → G E p l e (rmOf 9 0 0) s m args below meth c 5 (QZ E below args s (rmOf 9 0 0) (some (vI q.1)) q.2) 0 0 M 28 [(0, vR l0), (1, vI l1), (2, vI l2)] []) (F : Fx E p s m args meth c cX9_findLeast 5 yX9_findLeast.cls (some FieldType.boolean) yX9_findLeast.name) : ∀ {fu : Nat} {l0 l1 l2 l3 : Int} {M : Mem}, mX9_findLeast_35 k20 k28 fu l0 l1 l2 l3 M = some q → G E p l e (rmOf 9 0 0) s m args below meth c 5 (QZ E below args s (rmOf 9 0 0) (some (vI q.1)) q.2) 0 0 M 35 [(0, vR l0), (1, vI l1), (2, vI l2), (3, vI l3)] [] := by
  intro fu
  induction fu with
  | zero => intro l0 l1 l2 l3 M h; exact nomatch (show (none : Option (Int × Mem)) = some q from h)
  | succ fu ih => intro l0 l1 l2 l3 M h; exact tbX9_findLeast_35 (fun h => hk20 h) (fun h => hk28 h) (fun h => ih h) F h
theorem tbX9_findLeast_28 {E : En} {p : Program} {l : Launch} {e : Env} {s : State} {m : MethodId} {args : Array Value} {below : List Frame} {meth : Method} {c : Code} {q : Int × Mem} {k20 : Int → Int → Mem → Option (Int × Mem)} (hk20 : ∀ {l0 l1 : Int} {M : Mem}, k20 l0 l1 M = some q → G E p l e (rmOf 9 0 0) s m args below meth c 5 (QZ E below args s (rmOf 9 0 0) (some (vI q.1)) q.2) 0 0 M 20 [(0, vR l0), (1, vI l1)] []) {k28 : Int → Int → Int → Mem → Option (Int × Mem)} (hk28 : ∀ {l0 l1 l2 : Int} {M : Mem}, k28 l0 l1 l2 M = some q → G E p l e (rmOf 9 0 0) s m args below meth c 5 (QZ E below args s (rmOf 9 0 0) (some (vI q.1)) q.2) 0 0 M 28 [(0, vR l0), (1, vI l1), (2, vI l2)] []) {l0 l1 l2 : Int} {M : Mem} (F : Fx E p s m args meth c cX9_findLeast 5 yX9_findLeast.cls (some FieldType.boolean) yX9_findLeast.name) (h : bX9_findLeast_28 k20 k28 l0 l1 l2 M = some q) : G E p l e (rmOf 9 0 0) s m args below meth c 5 (QZ E below args s (rmOf 9 0 0) (some (vI q.1)) q.2) 0 0 M 28 [(0, vR l0), (1, vI l1), (2, vI l2)] [] := by
  unfold bX9_findLeast_28 at h
  refine r_iload_n (j := 2) F rfl rfl dX9_findLeast_28 ?_
  refine r_iconst F rfl dX9_findLeast_29 ?_
  refine r_icmp_gt (tgt := 157) F (by decide) dX9_findLeast_30 (fun hc => ?_) (fun hc => ?_)
  · replace h := ite_p h hc
    refine r_iinc (j := 1) (ls' := [(1, vI (wI (l1 + 1))), (0, vR l0), (2, vI l2)]) F rfl (by decide) rfl dX9_findLeast_157 ?_
    refine r_goto (tgt := 20) F (by decide) dX9_findLeast_160 ?_
    refine r_sub [1, 0] (ls' := [(0, vR l0), (1, vI (wI (l1 + 1)))]) rfl ?_
    exact hk20 h
  · replace h := ite_n h hc
    refine r_iconst F rfl dX9_findLeast_33 ?_
    refine r_istore_n (ls' := [(3, vI 1), (0, vR l0), (1, vI l1), (2, vI l2)]) F rfl (by decide) rfl dX9_findLeast_34 ?_
    refine r_sub [1, 2, 3, 0] (ls' := [(0, vR l0), (1, vI l1), (2, vI l2), (3, vI 1)]) rfl ?_
    exact tX9_findLeast_35 (fun h => hk20 h) (fun h => hk28 h) F h
theorem tX9_findLeast_28 {E : En} {p : Program} {l : Launch} {e : Env} {s : State} {m : MethodId} {args : Array Value} {below : List Frame} {meth : Method} {c : Code} {q : Int × Mem} {k20 : Int → Int → Mem → Option (Int × Mem)} (hk20 : ∀ {l0 l1 : Int} {M : Mem}, k20 l0 l1 M = some q → G E p l e (rmOf 9 0 0) s m args below meth c 5 (QZ E below args s (rmOf 9 0 0) (some (vI q.1)) q.2) 0 0 M 20 [(0, vR l0), (1, vI l1)] []) (F : Fx E p s m args meth c cX9_findLeast 5 yX9_findLeast.cls (some FieldType.boolean) yX9_findLeast.name) : ∀ {fu : Nat} {l0 l1 l2 : Int} {M : Mem}, mX9_findLeast_28 k20 fu l0 l1 l2 M = some q → G E p l e (rmOf 9 0 0) s m args below meth c 5 (QZ E below args s (rmOf 9 0 0) (some (vI q.1)) q.2) 0 0 M 28 [(0, vR l0), (1, vI l1), (2, vI l2)] [] := by
  intro fu
  induction fu with
  | zero => intro l0 l1 l2 M h; exact nomatch (show (none : Option (Int × Mem)) = some q from h)
  | succ fu ih => intro l0 l1 l2 M h; exact tbX9_findLeast_28 (fun h => hk20 h) (fun h => ih h) F h
theorem tbX9_findLeast_20 {E : En} {p : Program} {l : Launch} {e : Env} {s : State} {m : MethodId} {args : Array Value} {below : List Frame} {meth : Method} {c : Code} {q : Int × Mem} {k20 : Int → Int → Mem → Option (Int × Mem)} (hk20 : ∀ {l0 l1 : Int} {M : Mem}, k20 l0 l1 M = some q → G E p l e (rmOf 9 0 0) s m args below meth c 5 (QZ E below args s (rmOf 9 0 0) (some (vI q.1)) q.2) 0 0 M 20 [(0, vR l0), (1, vI l1)] []) {l0 l1 : Int} {M : Mem} (F : Fx E p s m args meth c cX9_findLeast 5 yX9_findLeast.cls (some FieldType.boolean) yX9_findLeast.name) (h : bX9_findLeast_20 k20 l0 l1 M = some q) : G E p l e (rmOf 9 0 0) s m args below meth c 5 (QZ E below args s (rmOf 9 0 0) (some (vI q.1)) q.2) 0 0 M 20 [(0, vR l0), (1, vI l1)] [] := by
  unfold bX9_findLeast_20 at h
  refine r_iload_n (j := 1) F rfl rfl dX9_findLeast_20 ?_
  refine r_bipush F rfl (by decide) dX9_findLeast_21 ?_
  refine r_icmp_gt (tgt := 163) F (by decide) dX9_findLeast_23 (fun hc => ?_) (fun hc => ?_)
  · replace h := ite_p h hc
    refine r_iconst F rfl dX9_findLeast_163 ?_
    obtain rfl := Option.some.inj h
    exact r_zret (Or.inl rfl) F dX9_findLeast_164
  · replace h := ite_n h hc
    refine r_iconst F rfl dX9_findLeast_26 ?_
    refine r_istore_n (ls' := [(2, vI 1), (0, vR l0), (1, vI l1)]) F rfl (by decide) rfl dX9_findLeast_27 ?_
    refine r_sub [1, 2, 0] (ls' := [(0, vR l0), (1, vI l1), (2, vI 1)]) rfl ?_
    exact tX9_findLeast_28 (fun h => hk20 h) F h
theorem tX9_findLeast_20 {E : En} {p : Program} {l : Launch} {e : Env} {s : State} {m : MethodId} {args : Array Value} {below : List Frame} {meth : Method} {c : Code} {q : Int × Mem} (F : Fx E p s m args meth c cX9_findLeast 5 yX9_findLeast.cls (some FieldType.boolean) yX9_findLeast.name) : ∀ {fu : Nat} {l0 l1 : Int} {M : Mem}, mX9_findLeast_20 fu l0 l1 M = some q → G E p l e (rmOf 9 0 0) s m args below meth c 5 (QZ E below args s (rmOf 9 0 0) (some (vI q.1)) q.2) 0 0 M 20 [(0, vR l0), (1, vI l1)] [] := by
  intro fu
  induction fu with
  | zero => intro l0 l1 M h; exact nomatch (show (none : Option (Int × Mem)) = some q from h)
  | succ fu ih => intro l0 l1 M h; exact tbX9_findLeast_20  (fun h => ih h) F h
theorem tX9_findLeast {l0 : Int} {M : Mem} {q : Int × Mem} (h : mX9_findLeast l0 M = some q) : Ct 9 0 0 yX9_findLeast cX9_findLeast 5 (some FieldType.boolean) [vR l0] M (some (vI q.1)) q.2 := by
  unfold mX9_findLeast at h
  refine Ct.of (by decide) (Nat.le_of_ble_eq_true rfl) ?_
  intro E p l e s m args below meth c F
  refine r_sub [0] (ls' := [(0, vR l0)]) rfl ?_
  refine r_aload_n (j := 0) F rfl rfl dX9_findLeast_0 ?_
  refine r_aload_n (j := 0) F rfl rfl dX9_findLeast_1 ?_
  replace h := bind_so h
  obtain ⟨_, g2, h⟩ := h
  replace h := bind_so h
  obtain ⟨q2, h2, h⟩ := h
  refine r_callV (as := []) (rv := (some (vI q2.1))) (kc := 0) (nc := 0) (tX9_told h2) clok_9 F (gK_so g2) tw_1770 tw_1772 tw_95 tw_1773 tw_122 ⟨by decide, by decide, show (parseMethodDescriptor yX9_told.desc).map (fun d => d.parameters.length) = some 0 by decide +kernel⟩ ⟨by decide, by decide⟩ (Nat.le_of_ble_eq_true rfl) dX9_findLeast_2 ?_
  replace h := bind_so h
  obtain ⟨M5, h5, h⟩ := h
  refine r_put clok_9 F (by decide) rfl (by decide) (by decide) h5 tw_1345 dX9_findLeast_5 ?_
  refine r_aload_n (j := 0) F rfl rfl dX9_findLeast_8 ?_
  refine r_iconst F rfl dX9_findLeast_9 ?_
  replace h := bind_so h
  obtain ⟨M10, h10, h⟩ := h
  refine r_put clok_9 F (by decide) rfl (by decide) (by decide) h10 tw_1346 dX9_findLeast_10 ?_
  refine r_aload_n (j := 0) F rfl rfl dX9_findLeast_13 ?_
  refine r_iconst F rfl dX9_findLeast_14 ?_
  replace h := bind_so h
  obtain ⟨M15, h15, h⟩ := h
  refine r_put clok_9 F (by decide) rfl (by decide) (by decide) h15 tw_1347 dX9_findLeast_15 ?_
  refine r_iconst F rfl dX9_findLeast_18 ?_
  refine r_istore_n (ls' := [(1, vI 3), (0, vR l0)]) F rfl (by decide) rfl dX9_findLeast_19 ?_
  refine r_sub [1, 0] (ls' := [(0, vR l0), (1, vI 3)]) rfl ?_
  exact tX9_findLeast_20 F h
theorem tX9_least {l0 l1 : Int} {M : Mem} {q : Int × Mem} (h : mX9_least l0 l1 M = some q) : Ct 10 0 0 yX9_least cX9_least 2 (some FieldType.int) [vR l0, vI l1] M (some (vI q.1)) q.2 := by
  unfold mX9_least at h
  refine Ct.of (by decide) (Nat.le_of_ble_eq_true rfl) ?_
  intro E p l e s m args below meth c F
  refine r_sub [0, 1] (ls' := [(0, vR l0), (1, vI l1)]) rfl ?_
  refine r_aload_n (j := 0) F rfl rfl dX9_least_0 ?_
  refine r_iconst F rfl dX9_least_1 ?_
  replace h := bind_so h
  obtain ⟨M2, h2, h⟩ := h
  refine r_put clok_9 F (by decide) rfl (by decide) (by decide) h2 tw_1297 dX9_least_2 ?_
  refine r_iload_n (j := 1) F rfl rfl dX9_least_5 ?_
  refine r_iconst F rfl dX9_least_6 ?_
  refine r_iconst F rfl dX9_least_7 ?_
  replace h := bind_so h
  obtain ⟨q8, h8, h⟩ := h
  refine r_callS (as := [vI l1, vI 0, vI 2]) (rv := (some (vI q8.1))) (kc := 0) (nc := 0) (tX9_in h8) F tw_1491 tw_1492 tw_1493 tw_122 ⟨by decide, by decide, show (parseMethodDescriptor yX9_in.desc).map (fun d => d.parameters.length) = some 3 by decide +kernel⟩ ⟨by decide, by decide⟩ (Nat.le_of_ble_eq_true rfl) dX9_least_8 ?_
  refine r_if_eq (tgt := 21) F (by decide) dX9_least_11 (fun hc => ?_) (fun hc => ?_)
  · replace h := ite_p h hc
    refine r_iconst F rfl dX9_least_21 ?_
    obtain rfl := Option.some.inj h
    exact r_iret F dX9_least_22
  · replace h := ite_n h hc
    refine r_aload_n (j := 0) F rfl rfl dX9_least_14 ?_
    replace h := bind_so h
    obtain ⟨_, g15, h⟩ := h
    replace h := bind_so h
    obtain ⟨q15, h15, h⟩ := h
    refine r_callV (as := []) (rv := (some (vI q15.1))) (kc := 0) (nc := 0) (tX9_findLeast h15) clok_9 F (gK_so g15) tw_1818 tw_1820 tw_103 tw_1821 tw_122 ⟨by decide, by decide, show (parseMethodDescriptor yX9_findLeast.desc).map (fun d => d.parameters.length) = some 0 by decide +kernel⟩ ⟨by decide, by decide⟩ (Nat.le_of_ble_eq_true rfl) dX9_least_15 ?_
    refine r_if_ne (tgt := 23) F (by decide) dX9_least_18 (fun hc => ?_) (fun hc => ?_)
    · replace h := ite_n h hc
      refine r_iload_n (j := 1) F rfl rfl dX9_least_23 ?_
      refine r_if_ne (tgt := 34) F (by decide) dX9_least_24 (fun hc => ?_) (fun hc => ?_)
      · replace h := ite_n h hc
        refine r_iload_n (j := 1) F rfl rfl dX9_least_34 ?_
        refine r_iconst F rfl dX9_least_35 ?_
        refine r_icmp_ne (tgt := 46) F (by decide) dX9_least_36 (fun hc => ?_) (fun hc => ?_)
        · replace h := ite_n h hc
          refine r_aload_n (j := 0) F rfl rfl dX9_least_46 ?_
          replace h := bind_so h
          obtain ⟨a47, h47, h⟩ := h
          refine r_getT (t := 0) rfl clok_9 F (by decide) h47 tw_1351 dX9_least_47 ?_
          obtain rfl := Option.some.inj h
          exact r_iret F dX9_least_50
        · replace h := ite_p h hc
          refine r_aload_n (j := 0) F rfl rfl dX9_least_39 ?_
          replace h := bind_so h
          obtain ⟨a40, h40, h⟩ := h
          refine r_getT (t := 0) rfl clok_9 F (by decide) h40 tw_1350 dX9_least_40 ?_
          refine r_goto (tgt := 50) F (by decide) dX9_least_43 ?_
          obtain rfl := Option.some.inj h
          exact r_iret F dX9_least_50
      · replace h := ite_p h hc
        refine r_aload_n (j := 0) F rfl rfl dX9_least_27 ?_
        replace h := bind_so h
        obtain ⟨a28, h28, h⟩ := h
        refine r_getT (t := 0) rfl clok_9 F (by decide) h28 tw_1349 dX9_least_28 ?_
        refine r_goto (tgt := 50) F (by decide) dX9_least_31 ?_
        obtain rfl := Option.some.inj h
        exact r_iret F dX9_least_50
    · replace h := ite_p h hc
      refine r_iconst F rfl dX9_least_21 ?_
      obtain rfl := Option.some.inj h
      exact r_iret F dX9_least_22
theorem tX9_findTogether_143 {E : En} {p : Program} {l : Launch} {e : Env} {s : State} {m : MethodId} {args : Array Value} {below : List Frame} {meth : Method} {c : Code} {q : Int × Mem} {k37 : Int → Int → Int → Int → Int → Mem → Option (Int × Mem)} (hk37 : ∀ {l0 l1 l2 l3 l4 : Int} {M : Mem}, k37 l0 l1 l2 l3 l4 M = some q → G E p l e (rmOf 8 0 0) s m args below meth c 7 (QZ E below args s (rmOf 8 0 0) none q.2) 0 0 M 37 [(0, vR l0), (1, vI l1), (2, vI l2), (3, vI l3), (4, vI l4)] []) {l0 l1 l2 l3 l4 : Int} {M : Mem} (F : Fx E p s m args meth c cX9_findTogether 7 yX9_findTogether.cls none yX9_findTogether.name) (h : mX9_findTogether_143 k37 l0 l1 l2 l3 l4 M = some q) : G E p l e (rmOf 8 0 0) s m args below meth c 7 (QZ E below args s (rmOf 8 0 0) none q.2) 0 0 M 143 [(0, vR l0), (1, vI l1), (2, vI l2), (3, vI l3), (4, vI l4)] [] := by
  unfold mX9_findTogether_143 at h
  refine r_iinc (j := 4) (ls' := [(4, vI (wI (l4 + 1))), (0, vR l0), (1, vI l1), (2, vI l2), (3, vI l3)]) F rfl (by decide) rfl dX9_findTogether_143 ?_
  refine r_goto (tgt := 37) F (by decide) dX9_findTogether_146 ?_
  refine r_sub [1, 2, 3, 4, 0] (ls' := [(0, vR l0), (1, vI l1), (2, vI l2), (3, vI l3), (4, vI (wI (l4 + 1)))]) rfl ?_
  exact hk37 h
theorem tX9_findTogether_126 {E : En} {p : Program} {l : Launch} {e : Env} {s : State} {m : MethodId} {args : Array Value} {below : List Frame} {meth : Method} {c : Code} {q : Int × Mem} {k37 : Int → Int → Int → Int → Int → Mem → Option (Int × Mem)} {k87 : Int → Int → Int → Int → Int → Int → Int → Mem → Option (Int × Mem)} (hk37 : ∀ {l0 l1 l2 l3 l4 : Int} {M : Mem}, k37 l0 l1 l2 l3 l4 M = some q → G E p l e (rmOf 8 0 0) s m args below meth c 7 (QZ E below args s (rmOf 8 0 0) none q.2) 0 0 M 37 [(0, vR l0), (1, vI l1), (2, vI l2), (3, vI l3), (4, vI l4)] []) (hk87 : ∀ {l0 l1 l2 l3 l4 l5 l6 : Int} {M : Mem}, k87 l0 l1 l2 l3 l4 l5 l6 M = some q → G E p l e (rmOf 8 0 0) s m args below meth c 7 (QZ E below args s (rmOf 8 0 0) none q.2) 0 0 M 87 [(0, vR l0), (1, vI l1), (2, vI l2), (3, vI l3), (4, vI l4), (5, vI l5), (6, vI l6)] []) {l0 l1 l2 l3 l4 l6 s0 s1 : Int} {M : Mem} (F : Fx E p s m args meth c cX9_findTogether 7 yX9_findTogether.cls none yX9_findTogether.name) (h : mX9_findTogether_126 k37 k87 l0 l1 l2 l3 l4 l6 s0 s1 M = some q) : G E p l e (rmOf 8 0 0) s m args below meth c 7 (QZ E below args s (rmOf 8 0 0) none q.2) 0 0 M 126 [(0, vR l0), (1, vI l1), (2, vI l2), (3, vI l3), (4, vI l4), (6, vI l6)] [vI s1, vI s0] := by
  unfold mX9_findTogether_126 at h
  refine r_ior F dX9_findTogether_126 ?_
  refine r_istore (ls' := [(5, vI (ior s0 s1)), (0, vR l0), (1, vI l1), (2, vI l2), (3, vI l3), (4, vI l4), (6, vI l6)]) F (by decide) rfl dX9_findTogether_127 ?_
  refine r_iinc (j := 6) (ls' := [(6, vI (wI (l6 + 1))), (5, vI (ior s0 s1)), (0, vR l0), (1, vI l1), (2, vI l2), (3, vI l3), (4, vI l4)]) F rfl (by decide) rfl dX9_findTogether_129 ?_
  refine r_goto (tgt := 87) F (by decide) dX9_findTogether_132 ?_
  refine r_sub [2, 3, 4, 5, 6, 1, 0] (ls' := [(0, vR l0), (1, vI l1), (2, vI l2), (3, vI l3), (4, vI l4), (5, vI (ior s0 s1)), (6, vI (wI (l6 + 1)))]) rfl ?_
  exact hk87 h
theorem tX9_findTogether_125 {E : En} {p : Program} {l : Launch} {e : Env} {s : State} {m : MethodId} {args : Array Value} {below : List Frame} {meth : Method} {c : Code} {q : Int × Mem} {k37 : Int → Int → Int → Int → Int → Mem → Option (Int × Mem)} {k87 : Int → Int → Int → Int → Int → Int → Int → Mem → Option (Int × Mem)} (hk37 : ∀ {l0 l1 l2 l3 l4 : Int} {M : Mem}, k37 l0 l1 l2 l3 l4 M = some q → G E p l e (rmOf 8 0 0) s m args below meth c 7 (QZ E below args s (rmOf 8 0 0) none q.2) 0 0 M 37 [(0, vR l0), (1, vI l1), (2, vI l2), (3, vI l3), (4, vI l4)] []) (hk87 : ∀ {l0 l1 l2 l3 l4 l5 l6 : Int} {M : Mem}, k87 l0 l1 l2 l3 l4 l5 l6 M = some q → G E p l e (rmOf 8 0 0) s m args below meth c 7 (QZ E below args s (rmOf 8 0 0) none q.2) 0 0 M 87 [(0, vR l0), (1, vI l1), (2, vI l2), (3, vI l3), (4, vI l4), (5, vI l5), (6, vI l6)] []) {l0 l1 l2 l3 l4 l6 s0 : Int} {M : Mem} (F : Fx E p s m args meth c cX9_findTogether 7 yX9_findTogether.cls none yX9_findTogether.name) (h : mX9_findTogether_125 k37 k87 l0 l1 l2 l3 l4 l6 s0 M = some q) : G E p l e (rmOf 8 0 0) s m args below meth c 7 (QZ E below args s (rmOf 8 0 0) none q.2) 0 0 M 125 [(0, vR l0), (1, vI l1), (2, vI l2), (3, vI l3), (4, vI l4), (6, vI l6)] [vI s0] := by
  unfold mX9_findTogether_125 at h
  refine r_iconst F rfl dX9_findTogether_125 ?_
  refine r_sub [0, 1, 2, 3, 4, 5] (ls' := [(0, vR l0), (1, vI l1), (2, vI l2), (3, vI l3), (4, vI l4), (6, vI l6)]) rfl ?_
  exact tX9_findTogether_126 (fun h => hk37 h) (fun h => hk87 h) F h
theorem tbX9_findTogether_87 {E : En} {p : Program} {l : Launch} {e : Env} {s : State} {m : MethodId} {args : Array Value} {below : List Frame} {meth : Method} {c : Code} {q : Int × Mem} {k37 : Int → Int → Int → Int → Int → Mem → Option (Int × Mem)} (hk37 : ∀ {l0 l1 l2 l3 l4 : Int} {M : Mem}, k37 l0 l1 l2 l3 l4 M = some q → G E p l e (rmOf 8 0 0) s m args below meth c 7 (QZ E below args s (rmOf 8 0 0) none q.2) 0 0 M 37 [(0, vR l0), (1, vI l1), (2, vI l2), (3, vI l3), (4, vI l4)] []) {k87 : Int → Int → Int → Int → Int → Int → Int → Mem → Option (Int × Mem)} (hk87 : ∀ {l0 l1 l2 l3 l4 l5 l6 : Int} {M : Mem}, k87 l0 l1 l2 l3 l4 l5 l6 M = some q → G E p l e (rmOf 8 0 0) s m args below meth c 7 (QZ E below args s (rmOf 8 0 0) none q.2) 0 0 M 87 [(0, vR l0), (1, vI l1), (2, vI l2), (3, vI l3), (4, vI l4), (5, vI l5), (6, vI l6)] []) {l0 l1 l2 l3 l4 l5 l6 : Int} {M : Mem} (F : Fx E p s m args meth c cX9_findTogether 7 yX9_findTogether.cls none yX9_findTogether.name) (h : bX9_findTogether_87 k37 k87 l0 l1 l2 l3 l4 l5 l6 M = some q) : G E p l e (rmOf 8 0 0) s m args below meth c 7 (QZ E below args s (rmOf 8 0 0) none q.2) 0 0 M 87 [(0, vR l0), (1, vI l1), (2, vI l2), (3, vI l3), (4, vI l4), (5, vI l5), (6, vI l6)] [] := by
  unfold bX9_findTogether_87 at h
  refine r_iload (j := 6) F rfl dX9_findTogether_87 ?_
  refine r_aload_n (j := 0) F rfl rfl dX9_findTogether_89 ?_
  replace h := bind_so h
  obtain ⟨a90, h90, h⟩ := h
  refine r_getT (t := 2) rfl clok_9 F (by decide) h90 tw_1309 dX9_findTogether_90 ?_
  refine r_iconst F rfl dX9_findTogether_93 ?_
  replace h := bind_so h
  obtain ⟨a94, h94, h⟩ := h
  refine r_iald F h94 dX9_findTogether_94 ?_
  refine r_icmp_ge (tgt := 135) F (by decide) dX9_findTogether_95 (fun hc => ?_) (fun hc => ?_)
  · replace h := ite_p h hc
    refine r_aload_n (j := 0) F rfl rfl dX9_findTogether_135 ?_
    replace h := bind_so h
    obtain ⟨a136, h136, h⟩ := h
    refine r_getT (t := 2) rfl clok_9 F (by decide) h136 tw_1352 dX9_findTogether_136 ?_
    refine r_iload (j := 5) F rfl dX9_findTogether_139 ?_
    refine r_iconst F rfl dX9_findTogether_141 ?_
    replace h := bind_so h
    obtain ⟨M142, h142, h⟩ := h
    refine r_zast F h142 dX9_findTogether_142 ?_
    refine r_sub [0, 1, 2, 3, 4] (ls' := [(0, vR l0), (1, vI l1), (2, vI l2), (3, vI l3), (4, vI l4)]) rfl ?_
    exact tX9_findTogether_143 (fun h => hk37 h) F h
  · replace h := ite_n h hc
    refine r_iload (j := 5) F rfl dX9_findTogether_98 ?_
    refine r_iload_n (j := 3) F rfl rfl dX9_findTogether_100 ?_
    refine r_iload (j := 6) F rfl dX9_findTogether_101 ?_
    refine r_ishr F dX9_findTogether_103 ?_
    refine r_iconst F rfl dX9_findTogether_104 ?_
    refine r_iand F dX9_findTogether_105 ?_
    refine r_if_eq (tgt := 125) F (by decide) dX9_findTogether_106 (fun hc => ?_) (fun hc => ?_)
    · replace h := ite_p h hc
      refine r_sub [0, 1, 2, 3, 4, 6] (ls' := [(0, vR l0), (1, vI l1), (2, vI l2), (3, vI l3), (4, vI l4), (6, vI l6)]) rfl ?_
      exact tX9_findTogether_125 (fun h => hk37 h) (fun h => hk87 h) F h
    · replace h := ite_n h hc
      refine r_aload_n (j := 0) F rfl rfl dX9_findTogether_109 ?_
      refine r_iload (j := 6) F rfl dX9_findTogether_110 ?_
      replace h := bind_so h
      obtain ⟨_, g112, h⟩ := h
      replace h := bind_so h
      obtain ⟨q112, h112, h⟩ := h
      refine r_callV (as := [vI l6]) (rv := (some (vI q112.1))) (kc := 0) (nc := 0) (tX9_means h112) clok_9 F (gK_so g112) tw_1720 tw_1722 tw_86 tw_1723 tw_122 ⟨by decide, by decide, show (parseMethodDescriptor yX9_means.desc).map (fun d => d.parameters.length) = some 1 by decide +kernel⟩ ⟨by decide, by decide⟩ (Nat.le_of_ble_eq_true rfl) dX9_findTogether_112 ?_
      refine r_if_eq (tgt := 125) F (by decide) dX9_findTogether_115 (fun hc => ?_) (fun hc => ?_)
      · replace h := ite_p h hc
        refine r_sub [0, 1, 2, 3, 4, 6] (ls' := [(0, vR l0), (1, vI l1), (2, vI l2), (3, vI l3), (4, vI l4), (6, vI l6)]) rfl ?_
        exact tX9_findTogether_125 (fun h => hk37 h) (fun h => hk87 h) F h
      · replace h := ite_n h hc
        refine r_iconst F rfl dX9_findTogether_118 ?_
        refine r_iload (j := 6) F rfl dX9_findTogether_119 ?_
        refine r_ishl F dX9_findTogether_121 ?_
        refine r_goto (tgt := 126) F (by decide) dX9_findTogether_122 ?_
        refine r_sub [0, 1, 2, 3, 4, 6] (ls' := [(0, vR l0), (1, vI l1), (2, vI l2), (3, vI l3), (4, vI l4), (6, vI l6)]) rfl ?_
        exact tX9_findTogether_126 (fun h => hk37 h) (fun h => hk87 h) F h
theorem tX9_findTogether_87 {E : En} {p : Program} {l : Launch} {e : Env} {s : State} {m : MethodId} {args : Array Value} {below : List Frame} {meth : Method} {c : Code} {q : Int × Mem} {k37 : Int → Int → Int → Int → Int → Mem → Option (Int × Mem)} (hk37 : ∀ {l0 l1 l2 l3 l4 : Int} {M : Mem}, k37 l0 l1 l2 l3 l4 M = some q → G E p l e (rmOf 8 0 0) s m args below meth c 7 (QZ E below args s (rmOf 8 0 0) none q.2) 0 0 M 37 [(0, vR l0), (1, vI l1), (2, vI l2), (3, vI l3), (4, vI l4)] []) (F : Fx E p s m args meth c cX9_findTogether 7 yX9_findTogether.cls none yX9_findTogether.name) : ∀ {fu : Nat} {l0 l1 l2 l3 l4 l5 l6 : Int} {M : Mem}, mX9_findTogether_87 k37 fu l0 l1 l2 l3 l4 l5 l6 M = some q → G E p l e (rmOf 8 0 0) s m args below meth c 7 (QZ E below args s (rmOf 8 0 0) none q.2) 0 0 M 87 [(0, vR l0), (1, vI l1), (2, vI l2), (3, vI l3), (4, vI l4), (5, vI l5), (6, vI l6)] [] := by
  intro fu
  induction fu with
  | zero => intro l0 l1 l2 l3 l4 l5 l6 M h; exact nomatch (show (none : Option (Int × Mem)) = some q from h)
  | succ fu ih => intro l0 l1 l2 l3 l4 l5 l6 M h; exact tbX9_findTogether_87 (fun h => hk37 h) (fun h => ih h) F h
theorem tX9_findTogether_81 {E : En} {p : Program} {l : Launch} {e : Env} {s : State} {m : MethodId} {args : Array Value} {below : List Frame} {meth : Method} {c : Code} {q : Int × Mem} {k37 : Int → Int → Int → Int → Int → Mem → Option (Int × Mem)} (hk37 : ∀ {l0 l1 l2 l3 l4 : Int} {M : Mem}, k37 l0 l1 l2 l3 l4 M = some q → G E p l e (rmOf 8 0 0) s m args below meth c 7 (QZ E below args s (rmOf 8 0 0) none q.2) 0 0 M 37 [(0, vR l0), (1, vI l1), (2, vI l2), (3, vI l3), (4, vI l4)] []) {l0 l1 l2 l3 l4 : Int} {M : Mem} (F : Fx E p s m args meth c cX9_findTogether 7 yX9_findTogether.cls none yX9_findTogether.name) (h : mX9_findTogether_81 k37 l0 l1 l2 l3 l4 M = some q) : G E p l e (rmOf 8 0 0) s m args below meth c 7 (QZ E below args s (rmOf 8 0 0) none q.2) 0 0 M 81 [(0, vR l0), (1, vI l1), (2, vI l2), (3, vI l3), (4, vI l4)] [] := by
  unfold mX9_findTogether_81 at h
  refine r_iconst F rfl dX9_findTogether_81 ?_
  refine r_istore (ls' := [(5, vI 0), (0, vR l0), (1, vI l1), (2, vI l2), (3, vI l3), (4, vI l4)]) F (by decide) rfl dX9_findTogether_82 ?_
  refine r_iconst F rfl dX9_findTogether_84 ?_
  refine r_istore (ls' := [(6, vI 0), (5, vI 0), (0, vR l0), (1, vI l1), (2, vI l2), (3, vI l3), (4, vI l4)]) F (by decide) rfl dX9_findTogether_85 ?_
  refine r_sub [2, 3, 4, 5, 6, 1, 0] (ls' := [(0, vR l0), (1, vI l1), (2, vI l2), (3, vI l3), (4, vI l4), (5, vI 0), (6, vI 0)]) rfl ?_
  exact tX9_findTogether_87 (fun h => hk37 h) F h
theorem tbX9_findTogether_37 {E : En} {p : Program} {l : Launch} {e : Env} {s : State} {m : MethodId} {args : Array Value} {below : List Frame} {meth : Method} {c : Code} {q : Int × Mem} {k37 : Int → Int → Int → Int → Int → Mem → Option (Int × Mem)} (hk37 : ∀ {l0 l1 l2 l3 l4 : Int} {M : Mem}, k37 l0 l1 l2 l3 l4 M = some q → G E p l e (rmOf 8 0 0) s m args below meth c 7 (QZ E below args s (rmOf 8 0 0) none q.2) 0 0 M 37 [(0, vR l0), (1, vI l1), (2, vI l2), (3, vI l3), (4, vI l4)] []) {l0 l1 l2 l3 l4 : Int} {M : Mem} (F : Fx E p s m args meth c cX9_findTogether 7 yX9_findTogether.cls none yX9_findTogether.name) (h : bX9_findTogether_37 k37 l0 l1 l2 l3 l4 M = some q) : G E p l e (rmOf 8 0 0) s m args below meth c 7 (QZ E below args s (rmOf 8 0 0) none q.2) 0 0 M 37 [(0, vR l0), (1, vI l1), (2, vI l2), (3, vI l3), (4, vI l4)] [] := by
  unfold bX9_findTogether_37 at h
  refine r_iload (j := 4) F rfl dX9_findTogether_37 ?_
  refine r_iconst F rfl dX9_findTogether_39 ?_
  refine r_aload_n (j := 0) F rfl rfl dX9_findTogether_40 ?_
  replace h := bind_so h
  obtain ⟨_, g41, h⟩ := h
  replace h := bind_so h
  obtain ⟨q41, h41, h⟩ := h
  refine r_callV (as := []) (rv := (some (vI q41.1))) (kc := 0) (nc := 0) (tX9_manyFacts h41) clok_9 F (gK_so g41) tw_1518 tw_1520 tw_58 tw_1521 tw_122 ⟨by decide, by decide, show (parseMethodDescriptor yX9_manyFacts.desc).map (fun d => d.parameters.length) = some 0 by decide +kernel⟩ ⟨by decide, by decide⟩ (Nat.le_of_ble_eq_true rfl) dX9_findTogether_41 ?_
  refine r_ishl F dX9_findTogether_44 ?_
  refine r_icmp_ge (tgt := 149) F (by decide) dX9_findTogether_45 (fun hc => ?_) (fun hc => ?_)
  · replace h := ite_p h hc
    obtain rfl := Option.some.inj h
    exact r_vret F dX9_findTogether_149
  · replace h := ite_n h hc
    refine r_aload_n (j := 0) F rfl rfl dX9_findTogether_48 ?_
    refine r_iload (j := 4) F rfl dX9_findTogether_49 ?_
    replace h := bind_so h
    obtain ⟨_, g51, h⟩ := h
    replace h := bind_so h
    obtain ⟨q51, h51, h⟩ := h
    refine r_callV (as := [vI l4]) (rv := none) (kc := 0) (nc := 0) (tX9_layWorld h51) clok_9 F (gK_so g51) tw_1786 tw_1788 tw_99 tw_1789 tw_122 ⟨by decide, by decide, show (parseMethodDescriptor yX9_layWorld.desc).map (fun d => d.parameters.length) = some 1 by decide +kernel⟩ ⟨by decide, by decide⟩ (Nat.le_of_ble_eq_true rfl) dX9_findTogether_51 ?_
    refine r_aload_n (j := 0) F rfl rfl dX9_findTogether_54 ?_
    refine r_iload (j := 4) F rfl dX9_findTogether_55 ?_
    replace h := bind_so h
    obtain ⟨_, g57, h⟩ := h
    replace h := bind_so h
    obtain ⟨q57, h57, h⟩ := h
    refine r_callV (as := [vI l4]) (rv := (some (vI q57.1))) (kc := 0) (nc := 0) (tX9_isAsKnown h57) clok_9 F (gK_so g57) tw_1782 tw_1784 tw_98 tw_1785 tw_122 ⟨by decide, by decide, show (parseMethodDescriptor yX9_isAsKnown.desc).map (fun d => d.parameters.length) = some 1 by decide +kernel⟩ ⟨by decide, by decide⟩ (Nat.le_of_ble_eq_true rfl) dX9_findTogether_57 ?_
    refine r_if_eq (tgt := 143) F (by decide) dX9_findTogether_60 (fun hc => ?_) (fun hc => ?_)
    · replace h := ite_p h hc
      refine r_sub [0, 1, 2, 3, 4] (ls' := [(0, vR l0), (1, vI l1), (2, vI l2), (3, vI l3), (4, vI l4)]) rfl ?_
      exact tX9_findTogether_143 (fun h => hk37 h) F h
    · replace h := ite_n h hc
      refine r_iload_n (j := 1) F rfl rfl dX9_findTogether_63 ?_
      refine r_iconst F rfl dX9_findTogether_64 ?_
      refine r_icmp_eq (tgt := 81) F (by decide) dX9_findTogether_65 (fun hc => ?_) (fun hc => ?_)
      · replace h := ite_p h hc
        refine r_sub [0, 1, 2, 3, 4] (ls' := [(0, vR l0), (1, vI l1), (2, vI l2), (3, vI l3), (4, vI l4)]) rfl ?_
        exact tX9_findTogether_81 (fun h => hk37 h) F h
      · replace h := ite_n h hc
        refine r_aload_n (j := 0) F rfl rfl dX9_findTogether_68 ?_
        replace h := bind_so h
        obtain ⟨a69, h69, h⟩ := h
        refine r_getT (t := 2) rfl clok_9 F (by decide) h69 tw_1325 dX9_findTogether_69 ?_
        refine r_iload_n (j := 1) F rfl rfl dX9_findTogether_72 ?_
        replace h := bind_so h
        obtain ⟨a73, h73, h⟩ := h
        refine r_zald F h73 dX9_findTogether_73 ?_
        refine r_iload_n (j := 2) F rfl rfl dX9_findTogether_74 ?_
        refine r_icmp_ne (tgt := 81) F (by decide) dX9_findTogether_75 (fun hc => ?_) (fun hc => ?_)
        · replace h := ite_n h hc
          refine r_sub [0, 1, 2, 3, 4] (ls' := [(0, vR l0), (1, vI l1), (2, vI l2), (3, vI l3), (4, vI l4)]) rfl ?_
          exact tX9_findTogether_81 (fun h => hk37 h) F h
        · replace h := ite_p h hc
          refine r_goto (tgt := 143) F (by decide) dX9_findTogether_78 ?_
          refine r_sub [0, 1, 2, 3, 4] (ls' := [(0, vR l0), (1, vI l1), (2, vI l2), (3, vI l3), (4, vI l4)]) rfl ?_
          exact tX9_findTogether_143 (fun h => hk37 h) F h
theorem tX9_findTogether_37 {E : En} {p : Program} {l : Launch} {e : Env} {s : State} {m : MethodId} {args : Array Value} {below : List Frame} {meth : Method} {c : Code} {q : Int × Mem} (F : Fx E p s m args meth c cX9_findTogether 7 yX9_findTogether.cls none yX9_findTogether.name) : ∀ {fu : Nat} {l0 l1 l2 l3 l4 : Int} {M : Mem}, mX9_findTogether_37 fu l0 l1 l2 l3 l4 M = some q → G E p l e (rmOf 8 0 0) s m args below meth c 7 (QZ E below args s (rmOf 8 0 0) none q.2) 0 0 M 37 [(0, vR l0), (1, vI l1), (2, vI l2), (3, vI l3), (4, vI l4)] [] := by
  intro fu
  induction fu with
  | zero => intro l0 l1 l2 l3 l4 M h; exact nomatch (show (none : Option (Int × Mem)) = some q from h)
  | succ fu ih => intro l0 l1 l2 l3 l4 M h; exact tbX9_findTogether_37  (fun h => ih h) F h
theorem tbX9_findTogether_8 {E : En} {p : Program} {l : Launch} {e : Env} {s : State} {m : MethodId} {args : Array Value} {below : List Frame} {meth : Method} {c : Code} {q : Int × Mem} {k8 : Int → Int → Int → Int → Int → Mem → Option (Int × Mem)} (hk8 : ∀ {l0 l1 l2 l3 l4 : Int} {M : Mem}, k8 l0 l1 l2 l3 l4 M = some q → G E p l e (rmOf 8 0 0) s m args below meth c 7 (QZ E below args s (rmOf 8 0 0) none q.2) 0 0 M 8 [(0, vR l0), (1, vI l1), (2, vI l2), (3, vI l3), (4, vI l4)] []) {l0 l1 l2 l3 l4 : Int} {M : Mem} (F : Fx E p s m args meth c cX9_findTogether 7 yX9_findTogether.cls none yX9_findTogether.name) (h : bX9_findTogether_8 k8 l0 l1 l2 l3 l4 M = some q) : G E p l e (rmOf 8 0 0) s m args below meth c 7 (QZ E below args s (rmOf 8 0 0) none q.2) 0 0 M 8 [(0, vR l0), (1, vI l1), (2, vI l2), (3, vI l3), (4, vI l4)] [] := by
  unfold bX9_findTogether_8 at h
  refine r_iload (j := 4) F rfl dX9_findTogether_8 ?_
  refine r_sipush F rfl (by decide) dX9_findTogether_10 ?_
  refine r_icmp_ge (tgt := 30) F (by decide) dX9_findTogether_13 (fun hc => ?_) (fun hc => ?_)
  · replace h := ite_p h hc
    refine r_aload_n (j := 0) F rfl rfl dX9_findTogether_30 ?_
    replace h := bind_so h
    obtain ⟨_, g31, h⟩ := h
    replace h := bind_so h
    obtain ⟨q31, h31, h⟩ := h
    refine r_callV (as := []) (rv := none) (kc := 0) (nc := 0) (tX9_findKnown h31) clok_9 F (gK_so g31) tw_1774 tw_1776 tw_96 tw_1777 tw_122 ⟨by decide, by decide, show (parseMethodDescriptor yX9_findKnown.desc).map (fun d => d.parameters.length) = some 0 by decide +kernel⟩ ⟨by decide, by decide⟩ (Nat.le_of_ble_eq_true rfl) dX9_findTogether_31 ?_
    refine r_iconst F rfl dX9_findTogether_34 ?_
    refine r_istore (ls' := [(4, vI 0), (0, vR l0), (1, vI l1), (2, vI l2), (3, vI l3)]) F (by decide) rfl dX9_findTogether_35 ?_
    refine r_sub [1, 2, 3, 4, 0] (ls' := [(0, vR l0), (1, vI l1), (2, vI l2), (3, vI l3), (4, vI 0)]) rfl ?_
    exact tX9_findTogether_37 F h
  · replace h := ite_n h hc
    refine r_aload_n (j := 0) F rfl rfl dX9_findTogether_16 ?_
    replace h := bind_so h
    obtain ⟨a17, h17, h⟩ := h
    refine r_getT (t := 2) rfl clok_9 F (by decide) h17 tw_1352 dX9_findTogether_17 ?_
    refine r_iload (j := 4) F rfl dX9_findTogether_20 ?_
    refine r_iconst F rfl dX9_findTogether_22 ?_
    replace h := bind_so h
    obtain ⟨M23, h23, h⟩ := h
    refine r_zast F h23 dX9_findTogether_23 ?_
    refine r_iinc (j := 4) (ls' := [(4, vI (wI (l4 + 1))), (0, vR l0), (1, vI l1), (2, vI l2), (3, vI l3)]) F rfl (by decide) rfl dX9_findTogether_24 ?_
    refine r_goto (tgt := 8) F (by decide) dX9_findTogether_27 ?_
    refine r_sub [1, 2, 3, 4, 0] (ls' := [(0, vR l0), (1, vI l1), (2, vI l2), (3, vI l3), (4, vI (wI (l4 + 1)))]) rfl ?_
    exact hk8 h
theorem tX9_findTogether_8 {E : En} {p : Program} {l : Launch} {e : Env} {s : State} {m : MethodId} {args : Array Value} {below : List Frame} {meth : Method} {c : Code} {q : Int × Mem} (F : Fx E p s m args meth c cX9_findTogether 7 yX9_findTogether.cls none yX9_findTogether.name) : ∀ {fu : Nat} {l0 l1 l2 l3 l4 : Int} {M : Mem}, mX9_findTogether_8 fu l0 l1 l2 l3 l4 M = some q → G E p l e (rmOf 8 0 0) s m args below meth c 7 (QZ E below args s (rmOf 8 0 0) none q.2) 0 0 M 8 [(0, vR l0), (1, vI l1), (2, vI l2), (3, vI l3), (4, vI l4)] [] := by
  intro fu
  induction fu with
  | zero => intro l0 l1 l2 l3 l4 M h; exact nomatch (show (none : Option (Int × Mem)) = some q from h)
  | succ fu ih => intro l0 l1 l2 l3 l4 M h; exact tbX9_findTogether_8  (fun h => ih h) F h
theorem tX9_findTogether {l0 l1 l2 : Int} {M : Mem} {q : Int × Mem} (h : mX9_findTogether l0 l1 l2 M = some q) : Ct 8 0 0 yX9_findTogether cX9_findTogether 7 none [vR l0, vI l1, vI l2] M none q.2 := by
  unfold mX9_findTogether at h
  refine Ct.of (by decide) (Nat.le_of_ble_eq_true rfl) ?_
  intro E p l e s m args below meth c F
  refine r_sub [0, 1, 2] (ls' := [(0, vR l0), (1, vI l1), (2, vI l2)]) rfl ?_
  refine r_aload_n (j := 0) F rfl rfl dX9_findTogether_0 ?_
  replace h := bind_so h
  obtain ⟨_, g1, h⟩ := h
  replace h := bind_so h
  obtain ⟨q1, h1, h⟩ := h
  refine r_callV (as := []) (rv := (some (vI q1.1))) (kc := 0) (nc := 0) (tX9_told h1) clok_9 F (gK_so g1) tw_1770 tw_1772 tw_95 tw_1773 tw_122 ⟨by decide, by decide, show (parseMethodDescriptor yX9_told.desc).map (fun d => d.parameters.length) = some 0 by decide +kernel⟩ ⟨by decide, by decide⟩ (Nat.le_of_ble_eq_true rfl) dX9_findTogether_1 ?_
  refine r_istore_n (ls' := [(3, vI q1.1), (0, vR l0), (1, vI l1), (2, vI l2)]) F rfl (by decide) rfl dX9_findTogether_4 ?_
  refine r_iconst F rfl dX9_findTogether_5 ?_
  refine r_istore (ls' := [(4, vI 0), (3, vI q1.1), (0, vR l0), (1, vI l1), (2, vI l2)]) F (by decide) rfl dX9_findTogether_6 ?_
  refine r_sub [2, 3, 4, 1, 0] (ls' := [(0, vR l0), (1, vI l1), (2, vI l2), (3, vI q1.1), (4, vI 0)]) rfl ?_
  exact tX9_findTogether_8 F h
theorem tX9_isTogether_28 {E : En} {p : Program} {l : Launch} {e : Env} {s : State} {m : MethodId} {args : Array Value} {below : List Frame} {meth : Method} {c : Code} {q : Int × Mem} {k2 : Int → Int → Int → Mem → Option (Int × Mem)} (hk2 : ∀ {l0 l1 l2 : Int} {M : Mem}, k2 l0 l1 l2 M = some q → G E p l e (rmOf 0 0 0) s m args below meth c 3 (QZ E below args s (rmOf 0 0 0) (some (vI q.1)) q.2) 0 0 M 2 [(0, vR l0), (1, vI l1), (2, vI l2)] []) {l0 l1 l2 : Int} {M : Mem} (F : Fx E p s m args meth c cX9_isTogether 3 yX9_isTogether.cls (some FieldType.boolean) yX9_isTogether.name) (h : mX9_isTogether_28 k2 l0 l1 l2 M = some q) : G E p l e (rmOf 0 0 0) s m args below meth c 3 (QZ E below args s (rmOf 0 0 0) (some (vI q.1)) q.2) 0 0 M 28 [(0, vR l0), (1, vI l1), (2, vI l2)] [] := by
  unfold mX9_isTogether_28 at h
  refine r_iinc (j := 2) (ls' := [(2, vI (wI (l2 + 1))), (0, vR l0), (1, vI l1)]) F rfl (by decide) rfl dX9_isTogether_28 ?_
  refine r_goto (tgt := 2) F (by decide) dX9_isTogether_31 ?_
  refine r_sub [1, 2, 0] (ls' := [(0, vR l0), (1, vI l1), (2, vI (wI (l2 + 1)))]) rfl ?_
  exact hk2 h
theorem tbX9_isTogether_2 {E : En} {p : Program} {l : Launch} {e : Env} {s : State} {m : MethodId} {args : Array Value} {below : List Frame} {meth : Method} {c : Code} {q : Int × Mem} {k2 : Int → Int → Int → Mem → Option (Int × Mem)} (hk2 : ∀ {l0 l1 l2 : Int} {M : Mem}, k2 l0 l1 l2 M = some q → G E p l e (rmOf 0 0 0) s m args below meth c 3 (QZ E below args s (rmOf 0 0 0) (some (vI q.1)) q.2) 0 0 M 2 [(0, vR l0), (1, vI l1), (2, vI l2)] []) {l0 l1 l2 : Int} {M : Mem} (F : Fx E p s m args meth c cX9_isTogether 3 yX9_isTogether.cls (some FieldType.boolean) yX9_isTogether.name) (h : bX9_isTogether_2 k2 l0 l1 l2 M = some q) : G E p l e (rmOf 0 0 0) s m args below meth c 3 (QZ E below args s (rmOf 0 0 0) (some (vI q.1)) q.2) 0 0 M 2 [(0, vR l0), (1, vI l1), (2, vI l2)] [] := by
  unfold bX9_isTogether_2 at h
  refine r_iload_n (j := 2) F rfl rfl dX9_isTogether_2 ?_
  refine r_sipush F rfl (by decide) dX9_isTogether_3 ?_
  refine r_icmp_ge (tgt := 34) F (by decide) dX9_isTogether_6 (fun hc => ?_) (fun hc => ?_)
  · replace h := ite_p h hc
    refine r_iconst F rfl dX9_isTogether_34 ?_
    obtain rfl := Option.some.inj h
    exact r_zret (Or.inl rfl) F dX9_isTogether_35
  · replace h := ite_n h hc
    refine r_aload_n (j := 0) F rfl rfl dX9_isTogether_9 ?_
    replace h := bind_so h
    obtain ⟨a10, h10, h⟩ := h
    refine r_getT (t := 2) rfl clok_9 F (by decide) h10 tw_1352 dX9_isTogether_10 ?_
    refine r_iload_n (j := 2) F rfl rfl dX9_isTogether_13 ?_
    replace h := bind_so h
    obtain ⟨a14, h14, h⟩ := h
    refine r_zald F h14 dX9_isTogether_14 ?_
    refine r_if_eq (tgt := 28) F (by decide) dX9_isTogether_15 (fun hc => ?_) (fun hc => ?_)
    · replace h := ite_p h hc
      refine r_sub [0, 1, 2] (ls' := [(0, vR l0), (1, vI l1), (2, vI l2)]) rfl ?_
      exact tX9_isTogether_28 (fun h => hk2 h) F h
    · replace h := ite_n h hc
      refine r_iload_n (j := 1) F rfl rfl dX9_isTogether_18 ?_
      refine r_iload_n (j := 2) F rfl rfl dX9_isTogether_19 ?_
      refine r_iconst F rfl dX9_isTogether_20 ?_
      refine r_ixor F dX9_isTogether_21 ?_
      refine r_iand F dX9_isTogether_22 ?_
      refine r_if_ne (tgt := 28) F (by decide) dX9_isTogether_23 (fun hc => ?_) (fun hc => ?_)
      · replace h := ite_n h hc
        refine r_sub [0, 1, 2] (ls' := [(0, vR l0), (1, vI l1), (2, vI l2)]) rfl ?_
        exact tX9_isTogether_28 (fun h => hk2 h) F h
      · replace h := ite_p h hc
        refine r_iconst F rfl dX9_isTogether_26 ?_
        obtain rfl := Option.some.inj h
        exact r_zret (Or.inr rfl) F dX9_isTogether_27
theorem tX9_isTogether_2 {E : En} {p : Program} {l : Launch} {e : Env} {s : State} {m : MethodId} {args : Array Value} {below : List Frame} {meth : Method} {c : Code} {q : Int × Mem} (F : Fx E p s m args meth c cX9_isTogether 3 yX9_isTogether.cls (some FieldType.boolean) yX9_isTogether.name) : ∀ {fu : Nat} {l0 l1 l2 : Int} {M : Mem}, mX9_isTogether_2 fu l0 l1 l2 M = some q → G E p l e (rmOf 0 0 0) s m args below meth c 3 (QZ E below args s (rmOf 0 0 0) (some (vI q.1)) q.2) 0 0 M 2 [(0, vR l0), (1, vI l1), (2, vI l2)] [] := by
  intro fu
  induction fu with
  | zero => intro l0 l1 l2 M h; exact nomatch (show (none : Option (Int × Mem)) = some q from h)
  | succ fu ih => intro l0 l1 l2 M h; exact tbX9_isTogether_2  (fun h => ih h) F h
theorem tX9_isTogether {l0 l1 : Int} {M : Mem} {q : Int × Mem} (h : mX9_isTogether l0 l1 M = some q) : Ct 0 0 0 yX9_isTogether cX9_isTogether 3 (some FieldType.boolean) [vR l0, vI l1] M (some (vI q.1)) q.2 := by
  unfold mX9_isTogether at h
  refine Ct.of (by decide) (Nat.le_of_ble_eq_true rfl) ?_
  intro E p l e s m args below meth c F
  refine r_sub [0, 1] (ls' := [(0, vR l0), (1, vI l1)]) rfl ?_
  refine r_iconst F rfl dX9_isTogether_0 ?_
  refine r_istore_n (ls' := [(2, vI 0), (0, vR l0), (1, vI l1)]) F rfl (by decide) rfl dX9_isTogether_1 ?_
  refine r_sub [1, 2, 0] (ls' := [(0, vR l0), (1, vI l1), (2, vI 0)]) rfl ?_
  exact tX9_isTogether_2 F h
theorem tX9_isLessRow {l0 l1 : Int} {M : Mem} {q : Int × Mem} (h : mX9_isLessRow l0 l1 M = some q) : Ct 0 0 0 yX9_isLessRow cX9_isLessRow 3 (some FieldType.boolean) [vI l0, vI l1] M (some (vI q.1)) q.2 := by
  unfold mX9_isLessRow at h
  refine Ct.of (by decide) (Nat.le_of_ble_eq_true rfl) ?_
  intro E p l e s m args below meth c F
  refine r_sub [0, 1] (ls' := [(0, vI l0), (1, vI l1)]) rfl ?_
  refine r_iload_n (j := 0) F rfl rfl dX9_isLessRow_0 ?_
  refine r_iload_n (j := 1) F rfl rfl dX9_isLessRow_1 ?_
  refine r_ixor F dX9_isLessRow_2 ?_
  refine r_istore_n (ls' := [(2, vI (ixor l0 l1)), (0, vI l0), (1, vI l1)]) F rfl (by decide) rfl dX9_isLessRow_3 ?_
  refine r_iload_n (j := 1) F rfl rfl dX9_isLessRow_4 ?_
  refine r_iload_n (j := 0) F rfl rfl dX9_isLessRow_5 ?_
  refine r_iand F dX9_isLessRow_6 ?_
  refine r_iload_n (j := 0) F rfl rfl dX9_isLessRow_7 ?_
  refine r_ineg F dX9_isLessRow_8 ?_
  refine r_iand F dX9_isLessRow_9 ?_
  refine r_if_eq (tgt := 17) F (by decide) dX9_isLessRow_10 (fun hc => ?_) (fun hc => ?_)
  · replace h := ite_p h hc
    refine r_iconst F rfl dX9_isLessRow_17 ?_
    obtain rfl := Option.some.inj h
    exact r_zret (Or.inl rfl) F dX9_isLessRow_18
  · replace h := ite_n h hc
    refine r_iconst F rfl dX9_isLessRow_13 ?_
    refine r_goto (tgt := 18) F (by decide) dX9_isLessRow_14 ?_
    obtain rfl := Option.some.inj h
    exact r_zret (Or.inr rfl) F dX9_isLessRow_18
theorem tX9_fewestApart_97 {E : En} {p : Program} {l : Launch} {e : Env} {s : State} {m : MethodId} {args : Array Value} {below : List Frame} {meth : Method} {c : Code} {q : Int × Mem} {k13 : Int → Int → Int → Int → Int → Mem → Option (Int × Mem)} (hk13 : ∀ {l0 l1 l2 l3 l4 : Int} {M : Mem}, k13 l0 l1 l2 l3 l4 M = some q → G E p l e (rmOf 1 0 0) s m args below meth c 7 (QZ E below args s (rmOf 1 0 0) (some (vI q.1)) q.2) 0 0 M 13 [(0, vR l0), (1, vI l1), (2, vI l2), (3, vI l3), (4, vI l4)] []) {l0 l1 l2 l3 l4 : Int} {M : Mem} (F : Fx E p s m args meth c cX9_fewestApart 7 yX9_fewestApart.cls (some FieldType.int) yX9_fewestApart.name) (h : mX9_fewestApart_97 k13 l0 l1 l2 l3 l4 M = some q) : G E p l e (rmOf 1 0 0) s m args below meth c 7 (QZ E below args s (rmOf 1 0 0) (some (vI q.1)) q.2) 0 0 M 97 [(0, vR l0), (1, vI l1), (2, vI l2), (3, vI l3), (4, vI l4)] [] := by
  unfold mX9_fewestApart_97 at h
  refine r_iinc (j := 4) (ls' := [(4, vI (wI (l4 + 1))), (0, vR l0), (1, vI l1), (2, vI l2), (3, vI l3)]) F rfl (by decide) rfl dX9_fewestApart_97 ?_
  refine r_goto (tgt := 13) F (by decide) dX9_fewestApart_100 ?_
  refine r_sub [1, 2, 3, 4, 0] (ls' := [(0, vR l0), (1, vI l1), (2, vI l2), (3, vI l3), (4, vI (wI (l4 + 1)))]) rfl ?_
  exact hk13 h
theorem tX9_fewestApart_91 {E : En} {p : Program} {l : Launch} {e : Env} {s : State} {m : MethodId} {args : Array Value} {below : List Frame} {meth : Method} {c : Code} {q : Int × Mem} {k13 : Int → Int → Int → Int → Int → Mem → Option (Int × Mem)} (hk13 : ∀ {l0 l1 l2 l3 l4 : Int} {M : Mem}, k13 l0 l1 l2 l3 l4 M = some q → G E p l e (rmOf 1 0 0) s m args below meth c 7 (QZ E below args s (rmOf 1 0 0) (some (vI q.1)) q.2) 0 0 M 13 [(0, vR l0), (1, vI l1), (2, vI l2), (3, vI l3), (4, vI l4)] []) {l0 l1 l4 l5 : Int} {M : Mem} (F : Fx E p s m args meth c cX9_fewestApart 7 yX9_fewestApart.cls (some FieldType.int) yX9_fewestApart.name) (h : mX9_fewestApart_91 k13 l0 l1 l4 l5 M = some q) : G E p l e (rmOf 1 0 0) s m args below meth c 7 (QZ E below args s (rmOf 1 0 0) (some (vI q.1)) q.2) 0 0 M 91 [(0, vR l0), (1, vI l1), (4, vI l4), (5, vI l5)] [] := by
  unfold mX9_fewestApart_91 at h
  refine r_iload (j := 2) F rfl dX9_fewestApart_91 ?_
  refine r_istore_n (ls' := [(2, vI l4), (0, vR l0), (1, vI l1), (4, vI l4), (5, vI l5)]) F rfl (by decide) rfl dX9_fewestApart_93 ?_
  refine r_iload (j := 4) F rfl dX9_fewestApart_94 ?_
  refine r_istore_n (ls' := [(3, vI l5), (2, vI l4), (0, vR l0), (1, vI l1), (4, vI l4), (5, vI l5)]) F rfl (by decide) rfl dX9_fewestApart_96 ?_
  refine r_sub [2, 3, 1, 0, 4] (ls' := [(0, vR l0), (1, vI l1), (2, vI l4), (3, vI l5), (4, vI l4)]) rfl ?_
  exact tX9_fewestApart_97 (fun h => hk13 h) F h
theorem tbX9_fewestApart_27 {E : En} {p : Program} {l : Launch} {e : Env} {s : State} {m : MethodId} {args : Array Value} {below : List Frame} {meth : Method} {c : Code} {q : Int × Mem} {k13 : Int → Int → Int → Int → Int → Mem → Option (Int × Mem)} (hk13 : ∀ {l0 l1 l2 l3 l4 : Int} {M : Mem}, k13 l0 l1 l2 l3 l4 M = some q → G E p l e (rmOf 1 0 0) s m args below meth c 7 (QZ E below args s (rmOf 1 0 0) (some (vI q.1)) q.2) 0 0 M 13 [(0, vR l0), (1, vI l1), (2, vI l2), (3, vI l3), (4, vI l4)] []) {k27 : Int → Int → Int → Int → Int → Int → Int → Mem → Option (Int × Mem)} (hk27 : ∀ {l0 l1 l2 l3 l4 l5 l6 : Int} {M : Mem}, k27 l0 l1 l2 l3 l4 l5 l6 M = some q → G E p l e (rmOf 1 0 0) s m args below meth c 7 (QZ E below args s (rmOf 1 0 0) (some (vI q.1)) q.2) 0 0 M 27 [(0, vR l0), (1, vI l1), (2, vI l2), (3, vI l3), (4, vI l4), (5, vI l5), (6, vI l6)] []) {l0 l1 l2 l3 l4 l5 l6 : Int} {M : Mem} (F : Fx E p s m args meth c cX9_fewestApart 7 yX9_fewestApart.cls (some FieldType.int) yX9_fewestApart.name) (h : bX9_fewestApart_27 k13 k27 l0 l1 l2 l3 l4 l5 l6 M = some q) : G E p l e (rmOf 1 0 0) s m args below meth c 7 (QZ E below args s (rmOf 1 0 0) (some (vI q.1)) q.2) 0 0 M 27 [(0, vR l0), (1, vI l1), (2, vI l2), (3, vI l3), (4, vI l4), (5, vI l5), (6, vI l6)] [] := by
  unfold bX9_fewestApart_27 at h
  refine r_iload (j := 6) F rfl dX9_fewestApart_27 ?_
  refine r_bipush F rfl (by decide) dX9_fewestApart_29 ?_
  refine r_icmp_ge (tgt := 52) F (by decide) dX9_fewestApart_31 (fun hc => ?_) (fun hc => ?_)
  · replace h := ite_p h hc
    refine r_iload (j := 4) F rfl dX9_fewestApart_52 ?_
    refine r_iload_n (j := 1) F rfl rfl dX9_fewestApart_54 ?_
    refine r_iconst F rfl dX9_fewestApart_55 ?_
    refine r_ixor F dX9_fewestApart_56 ?_
    refine r_iand F dX9_fewestApart_57 ?_
    refine r_if_ne (tgt := 97) F (by decide) dX9_fewestApart_58 (fun hc => ?_) (fun hc => ?_)
    · replace h := ite_n h hc
      refine r_sub [0, 1, 2, 3, 4] (ls' := [(0, vR l0), (1, vI l1), (2, vI l2), (3, vI l3), (4, vI l4)]) rfl ?_
      exact tX9_fewestApart_97 (fun h => hk13 h) F h
    · replace h := ite_p h hc
      refine r_iload (j := 5) F rfl dX9_fewestApart_61 ?_
      refine r_iload_n (j := 3) F rfl rfl dX9_fewestApart_63 ?_
      refine r_icmp_gt (tgt := 97) F (by decide) dX9_fewestApart_64 (fun hc => ?_) (fun hc => ?_)
      · replace h := ite_p h hc
        refine r_sub [0, 1, 2, 3, 4] (ls' := [(0, vR l0), (1, vI l1), (2, vI l2), (3, vI l3), (4, vI l4)]) rfl ?_
        exact tX9_fewestApart_97 (fun h => hk13 h) F h
      · replace h := ite_n h hc
        refine r_aload_n (j := 0) F rfl rfl dX9_fewestApart_67 ?_
        refine r_iload (j := 4) F rfl dX9_fewestApart_68 ?_
        replace h := bind_so h
        obtain ⟨_, g70, h⟩ := h
        replace h := bind_so h
        obtain ⟨q70, h70, h⟩ := h
        refine r_callV (as := [vI l4]) (rv := (some (vI q70.1))) (kc := 0) (nc := 0) (tX9_isTogether h70) clok_9 F (gK_so g70) tw_1834 tw_1836 tw_106 tw_1837 tw_122 ⟨by decide, by decide, show (parseMethodDescriptor yX9_isTogether.desc).map (fun d => d.parameters.length) = some 1 by decide +kernel⟩ ⟨by decide, by decide⟩ (Nat.le_of_ble_eq_true rfl) dX9_fewestApart_70 ?_
        refine r_if_ne (tgt := 97) F (by decide) dX9_fewestApart_73 (fun hc => ?_) (fun hc => ?_)
        · replace h := ite_n h hc
          refine r_sub [0, 1, 2, 3, 4] (ls' := [(0, vR l0), (1, vI l1), (2, vI l2), (3, vI l3), (4, vI l4)]) rfl ?_
          exact tX9_fewestApart_97 (fun h => hk13 h) F h
        · replace h := ite_p h hc
          refine r_iload (j := 5) F rfl dX9_fewestApart_76 ?_
          refine r_iload_n (j := 3) F rfl rfl dX9_fewestApart_78 ?_
          refine r_icmp_lt (tgt := 91) F (by decide) dX9_fewestApart_79 (fun hc => ?_) (fun hc => ?_)
          · replace h := ite_p h hc
            refine r_sub [0, 1, 4, 5] (ls' := [(0, vR l0), (1, vI l1), (4, vI l4), (5, vI l5)]) rfl ?_
            exact tX9_fewestApart_91 (fun h => hk13 h) F h
          · replace h := ite_n h hc
            refine r_iload (j := 4) F rfl dX9_fewestApart_82 ?_
            refine r_iload_n (j := 2) F rfl rfl dX9_fewestApart_84 ?_
            replace h := bind_so h
            obtain ⟨q85, h85, h⟩ := h
            refine r_callS (as := [vI l4, vI l2]) (rv := (some (vI q85.1))) (kc := 0) (nc := 0) (tX9_isLessRow h85) F tw_1838 tw_1839 tw_1840 tw_122 ⟨by decide, by decide, show (parseMethodDescriptor yX9_isLessRow.desc).map (fun d => d.parameters.length) = some 2 by decide +kernel⟩ ⟨by decide, by decide⟩ (Nat.le_of_ble_eq_true rfl) dX9_fewestApart_85 ?_
            refine r_if_eq (tgt := 97) F (by decide) dX9_fewestApart_88 (fun hc => ?_) (fun hc => ?_)
            · replace h := ite_p h hc
              refine r_sub [0, 1, 2, 3, 4] (ls' := [(0, vR l0), (1, vI l1), (2, vI l2), (3, vI l3), (4, vI l4)]) rfl ?_
              exact tX9_fewestApart_97 (fun h => hk13 h) F h
            · replace h := ite_n h hc
              refine r_sub [0, 1, 4, 5] (ls' := [(0, vR l0), (1, vI l1), (4, vI l4), (5, vI l5)]) rfl ?_
              exact tX9_fewestApart_91 (fun h => hk13 h) F h
  · replace h := ite_n h hc
    refine r_iload (j := 5) F rfl dX9_fewestApart_34 ?_
    refine r_iload (j := 4) F rfl dX9_fewestApart_36 ?_
    refine r_iload (j := 6) F rfl dX9_fewestApart_38 ?_
    refine r_ishr F dX9_fewestApart_40 ?_
    refine r_iconst F rfl dX9_fewestApart_41 ?_
    refine r_iand F dX9_fewestApart_42 ?_
    refine r_iadd F dX9_fewestApart_43 ?_
    replace h := bind_so h
    obtain ⟨b44, e44, h⟩ := h
    refine r_eq (y := b44) (Option.some.inj e44) ?_
    refine r_istore (ls' := [(5, vI b44), (0, vR l0), (1, vI l1), (2, vI l2), (3, vI l3), (4, vI l4), (6, vI l6)]) F (by decide) rfl dX9_fewestApart_44 ?_
    refine r_iinc (j := 6) (ls' := [(6, vI (wI (l6 + 1))), (5, vI b44), (0, vR l0), (1, vI l1), (2, vI l2), (3, vI l3), (4, vI l4)]) F rfl (by decide) rfl dX9_fewestApart_46 ?_
    refine r_goto (tgt := 27) F (by decide) dX9_fewestApart_49 ?_
    refine r_sub [2, 3, 4, 5, 6, 1, 0] (ls' := [(0, vR l0), (1, vI l1), (2, vI l2), (3, vI l3), (4, vI l4), (5, vI b44), (6, vI (wI (l6 + 1)))]) rfl ?_
    exact hk27 h
theorem tX9_fewestApart_27 {E : En} {p : Program} {l : Launch} {e : Env} {s : State} {m : MethodId} {args : Array Value} {below : List Frame} {meth : Method} {c : Code} {q : Int × Mem} {k13 : Int → Int → Int → Int → Int → Mem → Option (Int × Mem)} (hk13 : ∀ {l0 l1 l2 l3 l4 : Int} {M : Mem}, k13 l0 l1 l2 l3 l4 M = some q → G E p l e (rmOf 1 0 0) s m args below meth c 7 (QZ E below args s (rmOf 1 0 0) (some (vI q.1)) q.2) 0 0 M 13 [(0, vR l0), (1, vI l1), (2, vI l2), (3, vI l3), (4, vI l4)] []) (F : Fx E p s m args meth c cX9_fewestApart 7 yX9_fewestApart.cls (some FieldType.int) yX9_fewestApart.name) : ∀ {fu : Nat} {l0 l1 l2 l3 l4 l5 l6 : Int} {M : Mem}, mX9_fewestApart_27 k13 fu l0 l1 l2 l3 l4 l5 l6 M = some q → G E p l e (rmOf 1 0 0) s m args below meth c 7 (QZ E below args s (rmOf 1 0 0) (some (vI q.1)) q.2) 0 0 M 27 [(0, vR l0), (1, vI l1), (2, vI l2), (3, vI l3), (4, vI l4), (5, vI l5), (6, vI l6)] [] := by
  intro fu
  induction fu with
  | zero => intro l0 l1 l2 l3 l4 l5 l6 M h; exact nomatch (show (none : Option (Int × Mem)) = some q from h)
  | succ fu ih => intro l0 l1 l2 l3 l4 l5 l6 M h; exact tbX9_fewestApart_27 (fun h => hk13 h) (fun h => ih h) F h
theorem tbX9_fewestApart_13 {E : En} {p : Program} {l : Launch} {e : Env} {s : State} {m : MethodId} {args : Array Value} {below : List Frame} {meth : Method} {c : Code} {q : Int × Mem} {k13 : Int → Int → Int → Int → Int → Mem → Option (Int × Mem)} (hk13 : ∀ {l0 l1 l2 l3 l4 : Int} {M : Mem}, k13 l0 l1 l2 l3 l4 M = some q → G E p l e (rmOf 1 0 0) s m args below meth c 7 (QZ E below args s (rmOf 1 0 0) (some (vI q.1)) q.2) 0 0 M 13 [(0, vR l0), (1, vI l1), (2, vI l2), (3, vI l3), (4, vI l4)] []) {l0 l1 l2 l3 l4 : Int} {M : Mem} (F : Fx E p s m args meth c cX9_fewestApart 7 yX9_fewestApart.cls (some FieldType.int) yX9_fewestApart.name) (h : bX9_fewestApart_13 k13 l0 l1 l2 l3 l4 M = some q) : G E p l e (rmOf 1 0 0) s m args below meth c 7 (QZ E below args s (rmOf 1 0 0) (some (vI q.1)) q.2) 0 0 M 13 [(0, vR l0), (1, vI l1), (2, vI l2), (3, vI l3), (4, vI l4)] [] := by
  unfold bX9_fewestApart_13 at h
  refine r_iload (j := 4) F rfl dX9_fewestApart_13 ?_
  refine r_sipush F rfl (by decide) dX9_fewestApart_15 ?_
  refine r_icmp_ge (tgt := 103) F (by decide) dX9_fewestApart_18 (fun hc => ?_) (fun hc => ?_)
  · replace h := ite_p h hc
    refine r_iload_n (j := 2) F rfl rfl dX9_fewestApart_103 ?_
    obtain rfl := Option.some.inj h
    exact r_iret F dX9_fewestApart_104
  · replace h := ite_n h hc
    refine r_iconst F rfl dX9_fewestApart_21 ?_
    refine r_istore (ls' := [(5, vI 0), (0, vR l0), (1, vI l1), (2, vI l2), (3, vI l3), (4, vI l4)]) F (by decide) rfl dX9_fewestApart_22 ?_
    refine r_iconst F rfl dX9_fewestApart_24 ?_
    refine r_istore (ls' := [(6, vI 0), (5, vI 0), (0, vR l0), (1, vI l1), (2, vI l2), (3, vI l3), (4, vI l4)]) F (by decide) rfl dX9_fewestApart_25 ?_
    refine r_sub [2, 3, 4, 5, 6, 1, 0] (ls' := [(0, vR l0), (1, vI l1), (2, vI l2), (3, vI l3), (4, vI l4), (5, vI 0), (6, vI 0)]) rfl ?_
    exact tX9_fewestApart_27 (fun h => hk13 h) F h
theorem tX9_fewestApart_13 {E : En} {p : Program} {l : Launch} {e : Env} {s : State} {m : MethodId} {args : Array Value} {below : List Frame} {meth : Method} {c : Code} {q : Int × Mem} (F : Fx E p s m args meth c cX9_fewestApart 7 yX9_fewestApart.cls (some FieldType.int) yX9_fewestApart.name) : ∀ {fu : Nat} {l0 l1 l2 l3 l4 : Int} {M : Mem}, mX9_fewestApart_13 fu l0 l1 l2 l3 l4 M = some q → G E p l e (rmOf 1 0 0) s m args below meth c 7 (QZ E below args s (rmOf 1 0 0) (some (vI q.1)) q.2) 0 0 M 13 [(0, vR l0), (1, vI l1), (2, vI l2), (3, vI l3), (4, vI l4)] [] := by
  intro fu
  induction fu with
  | zero => intro l0 l1 l2 l3 l4 M h; exact nomatch (show (none : Option (Int × Mem)) = some q from h)
  | succ fu ih => intro l0 l1 l2 l3 l4 M h; exact tbX9_fewestApart_13  (fun h => ih h) F h
theorem tX9_fewestApart {l0 : Int} {M : Mem} {q : Int × Mem} (h : mX9_fewestApart l0 M = some q) : Ct 1 0 0 yX9_fewestApart cX9_fewestApart 7 (some FieldType.int) [vR l0] M (some (vI q.1)) q.2 := by
  unfold mX9_fewestApart at h
  refine Ct.of (by decide) (Nat.le_of_ble_eq_true rfl) ?_
  intro E p l e s m args below meth c F
  refine r_sub [0] (ls' := [(0, vR l0)]) rfl ?_
  refine r_aload_n (j := 0) F rfl rfl dX9_fewestApart_0 ?_
  replace h := bind_so h
  obtain ⟨_, g1, h⟩ := h
  replace h := bind_so h
  obtain ⟨q1, h1, h⟩ := h
  refine r_callV (as := []) (rv := (some (vI q1.1))) (kc := 0) (nc := 0) (tX9_told h1) clok_9 F (gK_so g1) tw_1770 tw_1772 tw_95 tw_1773 tw_122 ⟨by decide, by decide, show (parseMethodDescriptor yX9_told.desc).map (fun d => d.parameters.length) = some 0 by decide +kernel⟩ ⟨by decide, by decide⟩ (Nat.le_of_ble_eq_true rfl) dX9_fewestApart_1 ?_
  refine r_istore_n (ls' := [(1, vI q1.1), (0, vR l0)]) F rfl (by decide) rfl dX9_fewestApart_4 ?_
  refine r_iconst F rfl dX9_fewestApart_5 ?_
  refine r_istore_n (ls' := [(2, vI (-1)), (1, vI q1.1), (0, vR l0)]) F rfl (by decide) rfl dX9_fewestApart_6 ?_
  refine r_bipush F rfl (by decide) dX9_fewestApart_7 ?_
  refine r_istore_n (ls' := [(3, vI 9), (2, vI (-1)), (1, vI q1.1), (0, vR l0)]) F rfl (by decide) rfl dX9_fewestApart_9 ?_
  refine r_iconst F rfl dX9_fewestApart_10 ?_
  refine r_istore (ls' := [(4, vI 0), (3, vI 9), (2, vI (-1)), (1, vI q1.1), (0, vR l0)]) F (by decide) rfl dX9_fewestApart_11 ?_
  refine r_sub [4, 3, 2, 1, 0] (ls' := [(0, vR l0), (1, vI q1.1), (2, vI (-1)), (3, vI 9), (4, vI 0)]) rfl ?_
  exact tX9_fewestApart_13 F h
theorem tX9_numberIn_33 {E : En} {p : Program} {l : Launch} {e : Env} {s : State} {m : MethodId} {args : Array Value} {below : List Frame} {meth : Method} {c : Code} {q : Int × Mem} {k4 : Int → Int → Int → Int → Mem → Option (Int × Mem)} (hk4 : ∀ {l0 l1 l2 l3 : Int} {M : Mem}, k4 l0 l1 l2 l3 M = some q → G E p l e (rmOf 0 0 0) s m args below meth c 4 (QZ E below args s (rmOf 0 0 0) (some (vI q.1)) q.2) 0 0 M 4 [(0, vI l0), (1, vI l1), (2, vI l2), (3, vI l3)] []) {l0 l1 l2 l3 : Int} {M : Mem} (F : Fx E p s m args meth c cX9_numberIn 4 yX9_numberIn.cls (some FieldType.int) yX9_numberIn.name) (h : mX9_numberIn_33 k4 l0 l1 l2 l3 M = some q) : G E p l e (rmOf 0 0 0) s m args below meth c 4 (QZ E below args s (rmOf 0 0 0) (some (vI q.1)) q.2) 0 0 M 33 [(0, vI l0), (1, vI l1), (2, vI l2), (3, vI l3)] [] := by
  unfold mX9_numberIn_33 at h
  refine r_iinc (j := 3) (ls' := [(3, vI (wI (l3 + 1))), (0, vI l0), (1, vI l1), (2, vI l2)]) F rfl (by decide) rfl dX9_numberIn_33 ?_
  refine r_goto (tgt := 4) F (by decide) dX9_numberIn_36 ?_
  refine r_sub [1, 2, 3, 0] (ls' := [(0, vI l0), (1, vI l1), (2, vI l2), (3, vI (wI (l3 + 1)))]) rfl ?_
  exact hk4 h
theorem tbX9_numberIn_4 {E : En} {p : Program} {l : Launch} {e : Env} {s : State} {m : MethodId} {args : Array Value} {below : List Frame} {meth : Method} {c : Code} {q : Int × Mem} {k4 : Int → Int → Int → Int → Mem → Option (Int × Mem)} (hk4 : ∀ {l0 l1 l2 l3 : Int} {M : Mem}, k4 l0 l1 l2 l3 M = some q → G E p l e (rmOf 0 0 0) s m args below meth c 4 (QZ E below args s (rmOf 0 0 0) (some (vI q.1)) q.2) 0 0 M 4 [(0, vI l0), (1, vI l1), (2, vI l2), (3, vI l3)] []) {l0 l1 l2 l3 : Int} {M : Mem} (F : Fx E p s m args meth c cX9_numberIn 4 yX9_numberIn.cls (some FieldType.int) yX9_numberIn.name) (h : bX9_numberIn_4 k4 l0 l1 l2 l3 M = some q) : G E p l e (rmOf 0 0 0) s m args below meth c 4 (QZ E below args s (rmOf 0 0 0) (some (vI q.1)) q.2) 0 0 M 4 [(0, vI l0), (1, vI l1), (2, vI l2), (3, vI l3)] [] := by
  unfold bX9_numberIn_4 at h
  refine r_iload_n (j := 3) F rfl rfl dX9_numberIn_4 ?_
  refine r_bipush F rfl (by decide) dX9_numberIn_5 ?_
  refine r_icmp_ge (tgt := 39) F (by decide) dX9_numberIn_7 (fun hc => ?_) (fun hc => ?_)
  · replace h := ite_p h hc
    refine r_iconst F rfl dX9_numberIn_39 ?_
    obtain rfl := Option.some.inj h
    exact r_iret F dX9_numberIn_40
  · replace h := ite_n h hc
    refine r_iload_n (j := 0) F rfl rfl dX9_numberIn_10 ?_
    refine r_iconst F rfl dX9_numberIn_11 ?_
    refine r_icmp_eq (tgt := 39) F (by decide) dX9_numberIn_12 (fun hc => ?_) (fun hc => ?_)
    · replace h := ite_p h hc
      refine r_iconst F rfl dX9_numberIn_39 ?_
      obtain rfl := Option.some.inj h
      exact r_iret F dX9_numberIn_40
    · replace h := ite_n h hc
      refine r_iload_n (j := 0) F rfl rfl dX9_numberIn_15 ?_
      refine r_iload_n (j := 3) F rfl rfl dX9_numberIn_16 ?_
      refine r_ishr F dX9_numberIn_17 ?_
      refine r_iconst F rfl dX9_numberIn_18 ?_
      refine r_iand F dX9_numberIn_19 ?_
      refine r_if_eq (tgt := 33) F (by decide) dX9_numberIn_20 (fun hc => ?_) (fun hc => ?_)
      · replace h := ite_p h hc
        refine r_sub [0, 1, 2, 3] (ls' := [(0, vI l0), (1, vI l1), (2, vI l2), (3, vI l3)]) rfl ?_
        exact tX9_numberIn_33 (fun h => hk4 h) F h
      · replace h := ite_n h hc
        refine r_iload_n (j := 2) F rfl rfl dX9_numberIn_23 ?_
        refine r_iload_n (j := 1) F rfl rfl dX9_numberIn_24 ?_
        refine r_icmp_ne (tgt := 30) F (by decide) dX9_numberIn_25 (fun hc => ?_) (fun hc => ?_)
        · replace h := ite_n h hc
          refine r_iinc (j := 2) (ls' := [(2, vI (wI (l2 + 1))), (0, vI l0), (1, vI l1), (3, vI l3)]) F rfl (by decide) rfl dX9_numberIn_30 ?_
          refine r_sub [1, 2, 0, 3] (ls' := [(0, vI l0), (1, vI l1), (2, vI (wI (l2 + 1))), (3, vI l3)]) rfl ?_
          exact tX9_numberIn_33 (fun h => hk4 h) F h
        · replace h := ite_p h hc
          refine r_iload_n (j := 3) F rfl rfl dX9_numberIn_28 ?_
          obtain rfl := Option.some.inj h
          exact r_iret F dX9_numberIn_29
theorem tX9_numberIn_4 {E : En} {p : Program} {l : Launch} {e : Env} {s : State} {m : MethodId} {args : Array Value} {below : List Frame} {meth : Method} {c : Code} {q : Int × Mem} (F : Fx E p s m args meth c cX9_numberIn 4 yX9_numberIn.cls (some FieldType.int) yX9_numberIn.name) : ∀ {fu : Nat} {l0 l1 l2 l3 : Int} {M : Mem}, mX9_numberIn_4 fu l0 l1 l2 l3 M = some q → G E p l e (rmOf 0 0 0) s m args below meth c 4 (QZ E below args s (rmOf 0 0 0) (some (vI q.1)) q.2) 0 0 M 4 [(0, vI l0), (1, vI l1), (2, vI l2), (3, vI l3)] [] := by
  intro fu
  induction fu with
  | zero => intro l0 l1 l2 l3 M h; exact nomatch (show (none : Option (Int × Mem)) = some q from h)
  | succ fu ih => intro l0 l1 l2 l3 M h; exact tbX9_numberIn_4  (fun h => ih h) F h
theorem tX9_numberIn {l0 l1 : Int} {M : Mem} {q : Int × Mem} (h : mX9_numberIn l0 l1 M = some q) : Ct 0 0 0 yX9_numberIn cX9_numberIn 4 (some FieldType.int) [vI l0, vI l1] M (some (vI q.1)) q.2 := by
  unfold mX9_numberIn at h
  refine Ct.of (by decide) (Nat.le_of_ble_eq_true rfl) ?_
  intro E p l e s m args below meth c F
  refine r_sub [0, 1] (ls' := [(0, vI l0), (1, vI l1)]) rfl ?_
  refine r_iconst F rfl dX9_numberIn_0 ?_
  refine r_istore_n (ls' := [(2, vI 0), (0, vI l0), (1, vI l1)]) F rfl (by decide) rfl dX9_numberIn_1 ?_
  refine r_iconst F rfl dX9_numberIn_2 ?_
  refine r_istore_n (ls' := [(3, vI 0), (2, vI 0), (0, vI l0), (1, vI l1)]) F rfl (by decide) rfl dX9_numberIn_3 ?_
  refine r_sub [2, 3, 1, 0] (ls' := [(0, vI l0), (1, vI l1), (2, vI 0), (3, vI 0)]) rfl ?_
  exact tX9_numberIn_4 F h
theorem tX9_core {l0 l1 : Int} {M : Mem} {q : Int × Mem} (h : mX9_core l0 l1 M = some q) : Ct 9 0 0 yX9_core cX9_core 3 (some FieldType.int) [vR l0, vI l1] M (some (vI q.1)) q.2 := by
  unfold mX9_core at h
  refine Ct.of (by decide) (Nat.le_of_ble_eq_true rfl) ?_
  intro E p l e s m args below meth c F
  refine r_sub [0, 1] (ls' := [(0, vR l0), (1, vI l1)]) rfl ?_
  refine r_aload_n (j := 0) F rfl rfl dX9_core_0 ?_
  refine r_iconst F rfl dX9_core_1 ?_
  replace h := bind_so h
  obtain ⟨M2, h2, h⟩ := h
  refine r_put clok_9 F (by decide) rfl (by decide) (by decide) h2 tw_1297 dX9_core_2 ?_
  refine r_aload_n (j := 0) F rfl rfl dX9_core_5 ?_
  replace h := bind_so h
  obtain ⟨_, g6, h⟩ := h
  replace h := bind_so h
  obtain ⟨q6, h6, h⟩ := h
  refine r_callV (as := []) (rv := (some (vI q6.1))) (kc := 0) (nc := 0) (tX9_canTell h6) clok_9 F (gK_so g6) tw_1554 tw_1556 tw_62 tw_1557 tw_122 ⟨by decide, by decide, show (parseMethodDescriptor yX9_canTell.desc).map (fun d => d.parameters.length) = some 0 by decide +kernel⟩ ⟨by decide, by decide⟩ (Nat.le_of_ble_eq_true rfl) dX9_core_6 ?_
  refine r_if_ne (tgt := 14) F (by decide) dX9_core_9 (fun hc => ?_) (fun hc => ?_)
  · replace h := ite_n h hc
    refine r_aload_n (j := 0) F rfl rfl dX9_core_14 ?_
    refine r_iconst F rfl dX9_core_15 ?_
    refine r_iconst F rfl dX9_core_16 ?_
    replace h := bind_so h
    obtain ⟨_, g17, h⟩ := h
    replace h := bind_so h
    obtain ⟨q17, h17, h⟩ := h
    refine r_callV (as := [vI (-1), vI 0]) (rv := none) (kc := 0) (nc := 0) (tX9_findTogether h17) clok_9 F (gK_so g17) tw_1826 tw_1828 tw_104 tw_1829 tw_122 ⟨by decide, by decide, show (parseMethodDescriptor yX9_findTogether.desc).map (fun d => d.parameters.length) = some 2 by decide +kernel⟩ ⟨by decide, by decide⟩ (Nat.le_of_ble_eq_true rfl) dX9_core_17 ?_
    refine r_aload_n (j := 0) F rfl rfl dX9_core_20 ?_
    replace h := bind_so h
    obtain ⟨_, g21, h⟩ := h
    replace h := bind_so h
    obtain ⟨q21, h21, h⟩ := h
    refine r_callV (as := []) (rv := (some (vI q21.1))) (kc := 0) (nc := 0) (tX9_fewestApart h21) clok_9 F (gK_so g21) tw_1830 tw_1832 tw_105 tw_1833 tw_122 ⟨by decide, by decide, show (parseMethodDescriptor yX9_fewestApart.desc).map (fun d => d.parameters.length) = some 0 by decide +kernel⟩ ⟨by decide, by decide⟩ (Nat.le_of_ble_eq_true rfl) dX9_core_21 ?_
    refine r_istore_n (ls' := [(2, vI q21.1), (0, vR l0), (1, vI l1)]) F rfl (by decide) rfl dX9_core_24 ?_
    refine r_iload_n (j := 0) F rfl rfl dX9_core_25 ?_
    refine r_iload_n (j := 2) F rfl rfl dX9_core_26 ?_
    replace h := bind_so h
    obtain ⟨q27, h27, h⟩ := h
    refine r_callS (as := [vI q21.1, vI l1]) (rv := (some (vI q27.1))) (kc := 0) (nc := 0) (tX9_numberIn h27) F tw_1841 tw_1842 tw_1843 tw_122 ⟨by decide, by decide, show (parseMethodDescriptor yX9_numberIn.desc).map (fun d => d.parameters.length) = some 2 by decide +kernel⟩ ⟨by decide, by decide⟩ (Nat.le_of_ble_eq_true rfl) dX9_core_27 ?_
    obtain rfl := Option.some.inj h
    exact r_iret F dX9_core_30
  · replace h := ite_p h hc
    refine r_iconst F rfl dX9_core_12 ?_
    obtain rfl := Option.some.inj h
    exact r_iret F dX9_core_13
theorem tX9_countFacts_99 {E : En} {p : Program} {l : Launch} {e : Env} {s : State} {m : MethodId} {args : Array Value} {below : List Frame} {meth : Method} {c : Code} {q : Int × Mem} {k32 : Int → Int → Mem → Option (Int × Mem)} (hk32 : ∀ {l0 l1 : Int} {M : Mem}, k32 l0 l1 M = some q → G E p l e (rmOf 9 0 0) s m args below meth c 3 (QZ E below args s (rmOf 9 0 0) none q.2) 0 0 M 32 [(0, vR l0), (1, vI l1)] []) {l0 l1 : Int} {M : Mem} (F : Fx E p s m args meth c cX9_countFacts 3 yX9_countFacts.cls none yX9_countFacts.name) (h : mX9_countFacts_99 k32 l0 l1 M = some q) : G E p l e (rmOf 9 0 0) s m args below meth c 3 (QZ E below args s (rmOf 9 0 0) none q.2) 0 0 M 99 [(0, vR l0), (1, vI l1)] [] := by
  unfold mX9_countFacts_99 at h
  refine r_iinc (j := 1) (ls' := [(1, vI (wI (l1 + 1))), (0, vR l0)]) F rfl (by decide) rfl dX9_countFacts_99 ?_
  refine r_goto (tgt := 32) F (by decide) dX9_countFacts_102 ?_
  refine r_sub [1, 0] (ls' := [(0, vR l0), (1, vI (wI (l1 + 1)))]) rfl ?_
  exact hk32 h
theorem tX9_countFacts_91 {E : En} {p : Program} {l : Launch} {e : Env} {s : State} {m : MethodId} {args : Array Value} {below : List Frame} {meth : Method} {c : Code} {q : Int × Mem} {k32 : Int → Int → Mem → Option (Int × Mem)} {k62 : Int → Int → Int → Mem → Option (Int × Mem)} (hk32 : ∀ {l0 l1 : Int} {M : Mem}, k32 l0 l1 M = some q → G E p l e (rmOf 9 0 0) s m args below meth c 3 (QZ E below args s (rmOf 9 0 0) none q.2) 0 0 M 32 [(0, vR l0), (1, vI l1)] []) (hk62 : ∀ {l0 l1 l2 : Int} {M : Mem}, k62 l0 l1 l2 M = some q → G E p l e (rmOf 9 0 0) s m args below meth c 3 (QZ E below args s (rmOf 9 0 0) none q.2) 0 0 M 62 [(0, vR l0), (1, vI l1), (2, vI l2)] []) {l0 l1 l2 s0 s1 s2 s3 : Int} {M : Mem} (F : Fx E p s m args meth c cX9_countFacts 3 yX9_countFacts.cls none yX9_countFacts.name) (h : mX9_countFacts_91 k32 k62 l0 l1 l2 s0 s1 s2 s3 M = some q) : G E p l e (rmOf 9 0 0) s m args below meth c 3 (QZ E below args s (rmOf 9 0 0) none q.2) 0 0 M 91 [(0, vR l0), (1, vI l1), (2, vI l2)] [vI s3, vI s2, vI s1, vR s0] := by
  unfold mX9_countFacts_91 at h
  refine r_iadd F dX9_countFacts_91 ?_
  replace h := bind_so h
  obtain ⟨M92, h92, h⟩ := h
  refine r_iast F h92 dX9_countFacts_92 ?_
  refine r_iinc (j := 2) (ls' := [(2, vI (wI (l2 + 1))), (0, vR l0), (1, vI l1)]) F rfl (by decide) rfl dX9_countFacts_93 ?_
  refine r_goto (tgt := 62) F (by decide) dX9_countFacts_96 ?_
  refine r_sub [1, 2, 0] (ls' := [(0, vR l0), (1, vI l1), (2, vI (wI (l2 + 1)))]) rfl ?_
  exact hk62 h
theorem tbX9_countFacts_62 {E : En} {p : Program} {l : Launch} {e : Env} {s : State} {m : MethodId} {args : Array Value} {below : List Frame} {meth : Method} {c : Code} {q : Int × Mem} {k32 : Int → Int → Mem → Option (Int × Mem)} (hk32 : ∀ {l0 l1 : Int} {M : Mem}, k32 l0 l1 M = some q → G E p l e (rmOf 9 0 0) s m args below meth c 3 (QZ E below args s (rmOf 9 0 0) none q.2) 0 0 M 32 [(0, vR l0), (1, vI l1)] []) {k62 : Int → Int → Int → Mem → Option (Int × Mem)} (hk62 : ∀ {l0 l1 l2 : Int} {M : Mem}, k62 l0 l1 l2 M = some q → G E p l e (rmOf 9 0 0) s m args below meth c 3 (QZ E below args s (rmOf 9 0 0) none q.2) 0 0 M 62 [(0, vR l0), (1, vI l1), (2, vI l2)] []) {l0 l1 l2 : Int} {M : Mem} (F : Fx E p s m args meth c cX9_countFacts 3 yX9_countFacts.cls none yX9_countFacts.name) (h : bX9_countFacts_62 k32 k62 l0 l1 l2 M = some q) : G E p l e (rmOf 9 0 0) s m args below meth c 3 (QZ E below args s (rmOf 9 0 0) none q.2) 0 0 M 62 [(0, vR l0), (1, vI l1), (2, vI l2)] [] := by
  unfold bX9_countFacts_62 at h
  refine r_iload_n (j := 2) F rfl rfl dX9_countFacts_62 ?_
  refine r_aload_n (j := 0) F rfl rfl dX9_countFacts_63 ?_
  replace h := bind_so h
  obtain ⟨_, g64, h⟩ := h
  replace h := bind_so h
  obtain ⟨q64, h64, h⟩ := h
  refine r_callV (as := []) (rv := (some (vI q64.1))) (kc := 0) (nc := 0) (tX9_manyFacts h64) clok_9 F (gK_so g64) tw_1518 tw_1520 tw_58 tw_1521 tw_122 ⟨by decide, by decide, show (parseMethodDescriptor yX9_manyFacts.desc).map (fun d => d.parameters.length) = some 0 by decide +kernel⟩ ⟨by decide, by decide⟩ (Nat.le_of_ble_eq_true rfl) dX9_countFacts_64 ?_
  refine r_icmp_ge (tgt := 99) F (by decide) dX9_countFacts_67 (fun hc => ?_) (fun hc => ?_)
  · replace h := ite_p h hc
    refine r_sub [0, 1] (ls' := [(0, vR l0), (1, vI l1)]) rfl ?_
    exact tX9_countFacts_99 (fun h => hk32 h) F h
  · replace h := ite_n h hc
    refine r_aload_n (j := 0) F rfl rfl dX9_countFacts_70 ?_
    replace h := bind_so h
    obtain ⟨a71, h71, h⟩ := h
    refine r_getT (t := 2) rfl clok_9 F (by decide) h71 tw_1353 dX9_countFacts_71 ?_
    refine r_iload_n (j := 2) F rfl rfl dX9_countFacts_74 ?_
    refine r_dup2 F rfl rfl dX9_countFacts_75 ?_
    replace h := bind_so h
    obtain ⟨a76, h76, h⟩ := h
    refine r_iald F h76 dX9_countFacts_76 ?_
    refine r_aload_n (j := 0) F rfl rfl dX9_countFacts_77 ?_
    replace h := bind_so h
    obtain ⟨a78, h78, h⟩ := h
    refine r_getT (t := 2) rfl clok_9 F (by decide) h78 tw_1325 dX9_countFacts_78 ?_
    refine r_iload_n (j := 2) F rfl rfl dX9_countFacts_81 ?_
    replace h := bind_so h
    obtain ⟨a82, h82, h⟩ := h
    refine r_zald F h82 dX9_countFacts_82 ?_
    refine r_if_eq (tgt := 90) F (by decide) dX9_countFacts_83 (fun hc => ?_) (fun hc => ?_)
    · replace h := ite_p h hc
      refine r_iconst F rfl dX9_countFacts_90 ?_
      refine r_sub [0, 1, 2] (ls' := [(0, vR l0), (1, vI l1), (2, vI l2)]) rfl ?_
      exact tX9_countFacts_91 (fun h => hk32 h) (fun h => hk62 h) F h
    · replace h := ite_n h hc
      refine r_iconst F rfl dX9_countFacts_86 ?_
      refine r_goto (tgt := 91) F (by decide) dX9_countFacts_87 ?_
      refine r_sub [0, 1, 2] (ls' := [(0, vR l0), (1, vI l1), (2, vI l2)]) rfl ?_
      exact tX9_countFacts_91 (fun h => hk32 h) (fun h => hk62 h) F h
theorem tX9_countFacts_62 {E : En} {p : Program} {l : Launch} {e : Env} {s : State} {m : MethodId} {args : Array Value} {below : List Frame} {meth : Method} {c : Code} {q : Int × Mem} {k32 : Int → Int → Mem → Option (Int × Mem)} (hk32 : ∀ {l0 l1 : Int} {M : Mem}, k32 l0 l1 M = some q → G E p l e (rmOf 9 0 0) s m args below meth c 3 (QZ E below args s (rmOf 9 0 0) none q.2) 0 0 M 32 [(0, vR l0), (1, vI l1)] []) (F : Fx E p s m args meth c cX9_countFacts 3 yX9_countFacts.cls none yX9_countFacts.name) : ∀ {fu : Nat} {l0 l1 l2 : Int} {M : Mem}, mX9_countFacts_62 k32 fu l0 l1 l2 M = some q → G E p l e (rmOf 9 0 0) s m args below meth c 3 (QZ E below args s (rmOf 9 0 0) none q.2) 0 0 M 62 [(0, vR l0), (1, vI l1), (2, vI l2)] [] := by
  intro fu
  induction fu with
  | zero => intro l0 l1 l2 M h; exact nomatch (show (none : Option (Int × Mem)) = some q from h)
  | succ fu ih => intro l0 l1 l2 M h; exact tbX9_countFacts_62 (fun h => hk32 h) (fun h => ih h) F h
theorem tbX9_countFacts_32 {E : En} {p : Program} {l : Launch} {e : Env} {s : State} {m : MethodId} {args : Array Value} {below : List Frame} {meth : Method} {c : Code} {q : Int × Mem} {k32 : Int → Int → Mem → Option (Int × Mem)} (hk32 : ∀ {l0 l1 : Int} {M : Mem}, k32 l0 l1 M = some q → G E p l e (rmOf 9 0 0) s m args below meth c 3 (QZ E below args s (rmOf 9 0 0) none q.2) 0 0 M 32 [(0, vR l0), (1, vI l1)] []) {l0 l1 : Int} {M : Mem} (F : Fx E p s m args meth c cX9_countFacts 3 yX9_countFacts.cls none yX9_countFacts.name) (h : bX9_countFacts_32 k32 l0 l1 M = some q) : G E p l e (rmOf 9 0 0) s m args below meth c 3 (QZ E below args s (rmOf 9 0 0) none q.2) 0 0 M 32 [(0, vR l0), (1, vI l1)] [] := by
  unfold bX9_countFacts_32 at h
  refine r_iload_n (j := 1) F rfl rfl dX9_countFacts_32 ?_
  refine r_iconst F rfl dX9_countFacts_33 ?_
  refine r_aload_n (j := 0) F rfl rfl dX9_countFacts_34 ?_
  replace h := bind_so h
  obtain ⟨_, g35, h⟩ := h
  replace h := bind_so h
  obtain ⟨q35, h35, h⟩ := h
  refine r_callV (as := []) (rv := (some (vI q35.1))) (kc := 0) (nc := 0) (tX9_manyFacts h35) clok_9 F (gK_so g35) tw_1518 tw_1520 tw_58 tw_1521 tw_122 ⟨by decide, by decide, show (parseMethodDescriptor yX9_manyFacts.desc).map (fun d => d.parameters.length) = some 0 by decide +kernel⟩ ⟨by decide, by decide⟩ (Nat.le_of_ble_eq_true rfl) dX9_countFacts_35 ?_
  refine r_ishl F dX9_countFacts_38 ?_
  refine r_icmp_ge (tgt := 105) F (by decide) dX9_countFacts_39 (fun hc => ?_) (fun hc => ?_)
  · replace h := ite_p h hc
    obtain rfl := Option.some.inj h
    exact r_vret F dX9_countFacts_105
  · replace h := ite_n h hc
    refine r_aload_n (j := 0) F rfl rfl dX9_countFacts_42 ?_
    refine r_iload_n (j := 1) F rfl rfl dX9_countFacts_43 ?_
    replace h := bind_so h
    obtain ⟨_, g44, h⟩ := h
    replace h := bind_so h
    obtain ⟨q44, h44, h⟩ := h
    refine r_callV (as := [vI l1]) (rv := (some (vI q44.1))) (kc := 0) (nc := 0) (tX9_isWorld h44) clok_9 F (gK_so g44) tw_1778 tw_1780 tw_97 tw_1781 tw_122 ⟨by decide, by decide, show (parseMethodDescriptor yX9_isWorld.desc).map (fun d => d.parameters.length) = some 1 by decide +kernel⟩ ⟨by decide, by decide⟩ (Nat.le_of_ble_eq_true rfl) dX9_countFacts_44 ?_
    refine r_if_eq (tgt := 99) F (by decide) dX9_countFacts_47 (fun hc => ?_) (fun hc => ?_)
    · replace h := ite_p h hc
      refine r_sub [0, 1] (ls' := [(0, vR l0), (1, vI l1)]) rfl ?_
      exact tX9_countFacts_99 (fun h => hk32 h) F h
    · replace h := ite_n h hc
      refine r_aload_n (j := 0) F rfl rfl dX9_countFacts_50 ?_
      refine r_dup1 F rfl dX9_countFacts_51 ?_
      replace h := bind_so h
      obtain ⟨a52, h52, h⟩ := h
      refine r_getT (t := 0) rfl clok_9 F (by decide) h52 tw_1354 dX9_countFacts_52 ?_
      refine r_iconst F rfl dX9_countFacts_55 ?_
      refine r_iadd F dX9_countFacts_56 ?_
      replace h := bind_so h
      obtain ⟨M57, h57, h⟩ := h
      refine r_put clok_9 F (by decide) rfl (by decide) (by decide) h57 tw_1354 dX9_countFacts_57 ?_
      refine r_iconst F rfl dX9_countFacts_60 ?_
      refine r_istore_n (ls' := [(2, vI 0), (0, vR l0), (1, vI l1)]) F rfl (by decide) rfl dX9_countFacts_61 ?_
      refine r_sub [1, 2, 0] (ls' := [(0, vR l0), (1, vI l1), (2, vI 0)]) rfl ?_
      exact tX9_countFacts_62 (fun h => hk32 h) F h
theorem tX9_countFacts_32 {E : En} {p : Program} {l : Launch} {e : Env} {s : State} {m : MethodId} {args : Array Value} {below : List Frame} {meth : Method} {c : Code} {q : Int × Mem} (F : Fx E p s m args meth c cX9_countFacts 3 yX9_countFacts.cls none yX9_countFacts.name) : ∀ {fu : Nat} {l0 l1 : Int} {M : Mem}, mX9_countFacts_32 fu l0 l1 M = some q → G E p l e (rmOf 9 0 0) s m args below meth c 3 (QZ E below args s (rmOf 9 0 0) none q.2) 0 0 M 32 [(0, vR l0), (1, vI l1)] [] := by
  intro fu
  induction fu with
  | zero => intro l0 l1 M h; exact nomatch (show (none : Option (Int × Mem)) = some q from h)
  | succ fu ih => intro l0 l1 M h; exact tbX9_countFacts_32  (fun h => ih h) F h
theorem tbX9_countFacts_11 {E : En} {p : Program} {l : Launch} {e : Env} {s : State} {m : MethodId} {args : Array Value} {below : List Frame} {meth : Method} {c : Code} {q : Int × Mem} {k11 : Int → Int → Mem → Option (Int × Mem)} (hk11 : ∀ {l0 l1 : Int} {M : Mem}, k11 l0 l1 M = some q → G E p l e (rmOf 9 0 0) s m args below meth c 3 (QZ E below args s (rmOf 9 0 0) none q.2) 0 0 M 11 [(0, vR l0), (1, vI l1)] []) {l0 l1 : Int} {M : Mem} (F : Fx E p s m args meth c cX9_countFacts 3 yX9_countFacts.cls none yX9_countFacts.name) (h : bX9_countFacts_11 k11 l0 l1 M = some q) : G E p l e (rmOf 9 0 0) s m args below meth c 3 (QZ E below args s (rmOf 9 0 0) none q.2) 0 0 M 11 [(0, vR l0), (1, vI l1)] [] := by
  unfold bX9_countFacts_11 at h
  refine r_iload_n (j := 1) F rfl rfl dX9_countFacts_11 ?_
  refine r_bipush F rfl (by decide) dX9_countFacts_12 ?_
  refine r_icmp_ge (tgt := 30) F (by decide) dX9_countFacts_14 (fun hc => ?_) (fun hc => ?_)
  · replace h := ite_p h hc
    refine r_iconst F rfl dX9_countFacts_30 ?_
    refine r_istore_n (ls' := [(1, vI 0), (0, vR l0)]) F rfl (by decide) rfl dX9_countFacts_31 ?_
    refine r_sub [1, 0] (ls' := [(0, vR l0), (1, vI 0)]) rfl ?_
    exact tX9_countFacts_32 F h
  · replace h := ite_n h hc
    refine r_aload_n (j := 0) F rfl rfl dX9_countFacts_17 ?_
    replace h := bind_so h
    obtain ⟨a18, h18, h⟩ := h
    refine r_getT (t := 2) rfl clok_9 F (by decide) h18 tw_1353 dX9_countFacts_18 ?_
    refine r_iload_n (j := 1) F rfl rfl dX9_countFacts_21 ?_
    refine r_iconst F rfl dX9_countFacts_22 ?_
    replace h := bind_so h
    obtain ⟨M23, h23, h⟩ := h
    refine r_iast F h23 dX9_countFacts_23 ?_
    refine r_iinc (j := 1) (ls' := [(1, vI (wI (l1 + 1))), (0, vR l0)]) F rfl (by decide) rfl dX9_countFacts_24 ?_
    refine r_goto (tgt := 11) F (by decide) dX9_countFacts_27 ?_
    refine r_sub [1, 0] (ls' := [(0, vR l0), (1, vI (wI (l1 + 1)))]) rfl ?_
    exact hk11 h
theorem tX9_countFacts_11 {E : En} {p : Program} {l : Launch} {e : Env} {s : State} {m : MethodId} {args : Array Value} {below : List Frame} {meth : Method} {c : Code} {q : Int × Mem} (F : Fx E p s m args meth c cX9_countFacts 3 yX9_countFacts.cls none yX9_countFacts.name) : ∀ {fu : Nat} {l0 l1 : Int} {M : Mem}, mX9_countFacts_11 fu l0 l1 M = some q → G E p l e (rmOf 9 0 0) s m args below meth c 3 (QZ E below args s (rmOf 9 0 0) none q.2) 0 0 M 11 [(0, vR l0), (1, vI l1)] [] := by
  intro fu
  induction fu with
  | zero => intro l0 l1 M h; exact nomatch (show (none : Option (Int × Mem)) = some q from h)
  | succ fu ih => intro l0 l1 M h; exact tbX9_countFacts_11  (fun h => ih h) F h
theorem tX9_countFacts {l0 : Int} {M : Mem} {q : Int × Mem} (h : mX9_countFacts l0 M = some q) : Ct 9 0 0 yX9_countFacts cX9_countFacts 3 none [vR l0] M none q.2 := by
  unfold mX9_countFacts at h
  refine Ct.of (by decide) (Nat.le_of_ble_eq_true rfl) ?_
  intro E p l e s m args below meth c F
  refine r_sub [0] (ls' := [(0, vR l0)]) rfl ?_
  refine r_aload_n (j := 0) F rfl rfl dX9_countFacts_0 ?_
  replace h := bind_so h
  obtain ⟨_, g1, h⟩ := h
  replace h := bind_so h
  obtain ⟨q1, h1, h⟩ := h
  refine r_callV (as := []) (rv := none) (kc := 0) (nc := 0) (tX9_prepare h1) clok_9 F (gK_so g1) tw_1766 tw_1768 tw_94 tw_1769 tw_122 ⟨by decide, by decide, show (parseMethodDescriptor yX9_prepare.desc).map (fun d => d.parameters.length) = some 0 by decide +kernel⟩ ⟨by decide, by decide⟩ (Nat.le_of_ble_eq_true rfl) dX9_countFacts_1 ?_
  refine r_aload_n (j := 0) F rfl rfl dX9_countFacts_4 ?_
  refine r_iconst F rfl dX9_countFacts_5 ?_
  replace h := bind_so h
  obtain ⟨M6, h6, h⟩ := h
  refine r_put clok_9 F (by decide) rfl (by decide) (by decide) h6 tw_1354 dX9_countFacts_6 ?_
  refine r_iconst F rfl dX9_countFacts_9 ?_
  refine r_istore_n (ls' := [(1, vI 0), (0, vR l0)]) F rfl (by decide) rfl dX9_countFacts_10 ?_
  refine r_sub [1, 0] (ls' := [(0, vR l0), (1, vI 0)]) rfl ?_
  exact tX9_countFacts_11 F h
theorem tX9_sure {l0 l1 l2 l3 : Int} {M : Mem} {q : Int × Mem} (h : mX9_sure l0 l1 l2 l3 M = some q) : Ct 10 0 0 yX9_sure cX9_sure 5 (some FieldType.int) [vR l0, vI l1, vI l2, vI l3] M (some (vI q.1)) q.2 := by
  unfold mX9_sure at h
  refine Ct.of (by decide) (Nat.le_of_ble_eq_true rfl) ?_
  intro E p l e s m args below meth c F
  refine r_sub [0, 1, 2, 3] (ls' := [(0, vR l0), (1, vI l1), (2, vI l2), (3, vI l3)]) rfl ?_
  refine r_aload_n (j := 0) F rfl rfl dX9_sure_0 ?_
  refine r_iconst F rfl dX9_sure_1 ?_
  replace h := bind_so h
  obtain ⟨M2, h2, h⟩ := h
  refine r_put clok_9 F (by decide) rfl (by decide) (by decide) h2 tw_1297 dX9_sure_2 ?_
  refine r_aload_n (j := 0) F rfl rfl dX9_sure_5 ?_
  refine r_iload_n (j := 1) F rfl rfl dX9_sure_6 ?_
  refine r_iload_n (j := 2) F rfl rfl dX9_sure_7 ?_
  refine r_iload_n (j := 3) F rfl rfl dX9_sure_8 ?_
  replace h := bind_so h
  obtain ⟨_, g9, h⟩ := h
  replace h := bind_so h
  obtain ⟨q9, h9, h⟩ := h
  refine r_callV (as := [vI l1, vI l2, vI l3]) (rv := (some (vI q9.1))) (kc := 0) (nc := 0) (tX9_toldFact h9) clok_9 F (gK_so g9) tw_1526 tw_1528 tw_59 tw_1529 tw_122 ⟨by decide, by decide, show (parseMethodDescriptor yX9_toldFact.desc).map (fun d => d.parameters.length) = some 3 by decide +kernel⟩ ⟨by decide, by decide⟩ (Nat.le_of_ble_eq_true rfl) dX9_sure_9 ?_
  refine r_istore (ls' := [(4, vI q9.1), (0, vR l0), (1, vI l1), (2, vI l2), (3, vI l3)]) F (by decide) rfl dX9_sure_12 ?_
  refine r_iload (j := 0) F rfl dX9_sure_14 ?_
  refine r_iconst F rfl dX9_sure_16 ?_
  refine r_icmp_eq (tgt := 27) F (by decide) dX9_sure_17 (fun hc => ?_) (fun hc => ?_)
  · replace h := ite_p h hc
    refine r_iconst F rfl dX9_sure_27 ?_
    obtain rfl := Option.some.inj h
    exact r_iret F dX9_sure_28
  · replace h := ite_n h hc
    refine r_aload_n (j := 1) F rfl rfl dX9_sure_20 ?_
    replace h := bind_so h
    obtain ⟨_, g21, h⟩ := h
    replace h := bind_so h
    obtain ⟨q21, h21, h⟩ := h
    refine r_callV (as := []) (rv := (some (vI q21.1))) (kc := 0) (nc := 0) (tX9_canTell h21) clok_9 F (gK_so g21) tw_1554 tw_1556 tw_62 tw_1557 tw_122 ⟨by decide, by decide, show (parseMethodDescriptor yX9_canTell.desc).map (fun d => d.parameters.length) = some 0 by decide +kernel⟩ ⟨by decide, by decide⟩ (Nat.le_of_ble_eq_true rfl) dX9_sure_21 ?_
    refine r_if_ne (tgt := 29) F (by decide) dX9_sure_24 (fun hc => ?_) (fun hc => ?_)
    · replace h := ite_n h hc
      refine r_aload_n (j := 1) F rfl rfl dX9_sure_29 ?_
      replace h := bind_so h
      obtain ⟨_, g30, h⟩ := h
      replace h := bind_so h
      obtain ⟨q30, h30, h⟩ := h
      refine r_callV (as := []) (rv := none) (kc := 0) (nc := 0) (tX9_countFacts h30) clok_9 F (gK_so g30) tw_1848 tw_1850 tw_107 tw_1851 tw_122 ⟨by decide, by decide, show (parseMethodDescriptor yX9_countFacts.desc).map (fun d => d.parameters.length) = some 0 by decide +kernel⟩ ⟨by decide, by decide⟩ (Nat.le_of_ble_eq_true rfl) dX9_sure_30 ?_
      refine r_aload_n (j := 1) F rfl rfl dX9_sure_33 ?_
      replace h := bind_so h
      obtain ⟨a34, h34, h⟩ := h
      refine r_getT (t := 0) rfl clok_9 F (by decide) h34 tw_1354 dX9_sure_34 ?_
      refine r_if_ne (tgt := 44) F (by decide) dX9_sure_37 (fun hc => ?_) (fun hc => ?_)
      · replace h := ite_n h hc
        refine r_aload_n (j := 1) F rfl rfl dX9_sure_44 ?_
        replace h := bind_so h
        obtain ⟨a45, h45, h⟩ := h
        refine r_getT (t := 2) rfl clok_9 F (by decide) h45 tw_1353 dX9_sure_45 ?_
        refine r_iload (j := 0) F rfl dX9_sure_48 ?_
        replace h := bind_so h
        obtain ⟨a50, h50, h⟩ := h
        refine r_iald F h50 dX9_sure_50 ?_
        refine r_aload_n (j := 1) F rfl rfl dX9_sure_51 ?_
        replace h := bind_so h
        obtain ⟨a52, h52, h⟩ := h
        refine r_getT (t := 0) rfl clok_9 F (by decide) h52 tw_1354 dX9_sure_52 ?_
        refine r_icmp_ne (tgt := 62) F (by decide) dX9_sure_55 (fun hc => ?_) (fun hc => ?_)
        · replace h := ite_n h hc
          refine r_aload_n (j := 1) F rfl rfl dX9_sure_62 ?_
          replace h := bind_so h
          obtain ⟨a63, h63, h⟩ := h
          refine r_getT (t := 2) rfl clok_9 F (by decide) h63 tw_1353 dX9_sure_63 ?_
          refine r_iload (j := 0) F rfl dX9_sure_66 ?_
          replace h := bind_so h
          obtain ⟨a68, h68, h⟩ := h
          refine r_iald F h68 dX9_sure_68 ?_
          refine r_if_ne (tgt := 76) F (by decide) dX9_sure_69 (fun hc => ?_) (fun hc => ?_)
          · replace h := ite_n h hc
            refine r_iconst F rfl dX9_sure_76 ?_
            obtain rfl := Option.some.inj h
            exact r_iret F dX9_sure_77
          · replace h := ite_p h hc
            refine r_iconst F rfl dX9_sure_72 ?_
            refine r_goto (tgt := 77) F (by decide) dX9_sure_73 ?_
            obtain rfl := Option.some.inj h
            exact r_iret F dX9_sure_77
        · replace h := ite_p h hc
          refine r_iconst F rfl dX9_sure_58 ?_
          refine r_goto (tgt := 77) F (by decide) dX9_sure_59 ?_
          obtain rfl := Option.some.inj h
          exact r_iret F dX9_sure_77
      · replace h := ite_p h hc
        refine r_iconst F rfl dX9_sure_40 ?_
        refine r_goto (tgt := 77) F (by decide) dX9_sure_41 ?_
        obtain rfl := Option.some.inj h
        exact r_iret F dX9_sure_77
    · replace h := ite_p h hc
      refine r_iconst F rfl dX9_sure_27 ?_
      obtain rfl := Option.some.inj h
      exact r_iret F dX9_sure_28
theorem tX9_cause_84 {E : En} {p : Program} {l : Launch} {e : Env} {s : State} {m : MethodId} {args : Array Value} {below : List Frame} {meth : Method} {c : Code} {q : Int × Mem} {l0 l4 s0 s1 s2 : Int} {M : Mem} (F : Fx E p s m args meth c cX9_cause 6 yX9_cause.cls (some FieldType.int) yX9_cause.name) (h : mX9_cause_84 l0 l4 s0 s1 s2 M = some q) : G E p l e (rmOf 10 0 0) s m args below meth c 6 (QZ E below args s (rmOf 10 0 0) (some (vI q.1)) q.2) 0 0 M 84 [(0, vR l0), (4, vI l4)] [vI s2, vI s1, vR s0] := by
  unfold mX9_cause_84 at h
  replace h := bind_so h
  obtain ⟨_, g84, h⟩ := h
  replace h := bind_so h
  obtain ⟨q84, h84, h⟩ := h
  refine r_callV (as := [vI s1, vI s2]) (rv := none) (kc := 0) (nc := 0) (tX9_findTogether h84) clok_9 F (gK_so g84) tw_1826 tw_1828 tw_104 tw_1829 tw_122 ⟨by decide, by decide, show (parseMethodDescriptor yX9_findTogether.desc).map (fun d => d.parameters.length) = some 2 by decide +kernel⟩ ⟨by decide, by decide⟩ (Nat.le_of_ble_eq_true rfl) dX9_cause_84 ?_
  refine r_aload_n (j := 0) F rfl rfl dX9_cause_87 ?_
  replace h := bind_so h
  obtain ⟨_, g88, h⟩ := h
  replace h := bind_so h
  obtain ⟨q88, h88, h⟩ := h
  refine r_callV (as := []) (rv := (some (vI q88.1))) (kc := 0) (nc := 0) (tX9_fewestApart h88) clok_9 F (gK_so g88) tw_1830 tw_1832 tw_105 tw_1833 tw_122 ⟨by decide, by decide, show (parseMethodDescriptor yX9_fewestApart.desc).map (fun d => d.parameters.length) = some 0 by decide +kernel⟩ ⟨by decide, by decide⟩ (Nat.le_of_ble_eq_true rfl) dX9_cause_88 ?_
  refine r_iload (j := 1) F rfl dX9_cause_91 ?_
  replace h := bind_so h
  obtain ⟨q93, h93, h⟩ := h
  refine r_callS (as := [vI q88.1, vI l4]) (rv := (some (vI q93.1))) (kc := 0) (nc := 0) (tX9_numberIn h93) F tw_1841 tw_1842 tw_1843 tw_122 ⟨by decide, by decide, show (parseMethodDescriptor yX9_numberIn.desc).map (fun d => d.parameters.length) = some 2 by decide +kernel⟩ ⟨by decide, by decide⟩ (Nat.le_of_ble_eq_true rfl) dX9_cause_93 ?_
  obtain rfl := Option.some.inj h
  exact r_iret F dX9_cause_96
theorem tX9_cause_66 {E : En} {p : Program} {l : Launch} {e : Env} {s : State} {m : MethodId} {args : Array Value} {below : List Frame} {meth : Method} {c : Code} {q : Int × Mem} {l0 l4 l5 : Int} {M : Mem} (F : Fx E p s m args meth c cX9_cause 6 yX9_cause.cls (some FieldType.int) yX9_cause.name) (h : mX9_cause_66 l0 l4 l5 M = some q) : G E p l e (rmOf 10 0 0) s m args below meth c 6 (QZ E below args s (rmOf 10 0 0) (some (vI q.1)) q.2) 0 0 M 66 [(0, vR l0), (4, vI l4), (5, vI l5)] [] := by
  unfold mX9_cause_66 at h
  refine r_aload_n (j := 0) F rfl rfl dX9_cause_66 ?_
  refine r_iload (j := 2) F rfl dX9_cause_67 ?_
  refine r_aload_n (j := 0) F rfl rfl dX9_cause_69 ?_
  replace h := bind_so h
  obtain ⟨a70, h70, h⟩ := h
  refine r_getT (t := 2) rfl clok_9 F (by decide) h70 tw_1353 dX9_cause_70 ?_
  refine r_iload (j := 2) F rfl dX9_cause_73 ?_
  replace h := bind_so h
  obtain ⟨a75, h75, h⟩ := h
  refine r_iald F h75 dX9_cause_75 ?_
  refine r_if_le (tgt := 83) F (by decide) dX9_cause_76 (fun hc => ?_) (fun hc => ?_)
  · replace h := ite_p h hc
    refine r_iconst F rfl dX9_cause_83 ?_
    refine r_sub [0, 1] (ls' := [(0, vR l0), (4, vI l4)]) rfl ?_
    exact tX9_cause_84 F h
  · replace h := ite_n h hc
    refine r_iconst F rfl dX9_cause_79 ?_
    refine r_goto (tgt := 84) F (by decide) dX9_cause_80 ?_
    refine r_sub [0, 1] (ls' := [(0, vR l0), (4, vI l4)]) rfl ?_
    exact tX9_cause_84 F h
theorem tX9_cause {l0 l1 l2 l3 l4 : Int} {M : Mem} {q : Int × Mem} (h : mX9_cause l0 l1 l2 l3 l4 M = some q) : Ct 10 0 0 yX9_cause cX9_cause 6 (some FieldType.int) [vR l0, vI l1, vI l2, vI l3, vI l4] M (some (vI q.1)) q.2 := by
  unfold mX9_cause at h
  refine Ct.of (by decide) (Nat.le_of_ble_eq_true rfl) ?_
  intro E p l e s m args below meth c F
  refine r_sub [0, 1, 2, 3, 4] (ls' := [(0, vR l0), (1, vI l1), (2, vI l2), (3, vI l3), (4, vI l4)]) rfl ?_
  refine r_aload_n (j := 0) F rfl rfl dX9_cause_0 ?_
  refine r_iconst F rfl dX9_cause_1 ?_
  replace h := bind_so h
  obtain ⟨M2, h2, h⟩ := h
  refine r_put clok_9 F (by decide) rfl (by decide) (by decide) h2 tw_1297 dX9_cause_2 ?_
  refine r_aload_n (j := 0) F rfl rfl dX9_cause_5 ?_
  refine r_iload_n (j := 1) F rfl rfl dX9_cause_6 ?_
  refine r_iload_n (j := 2) F rfl rfl dX9_cause_7 ?_
  refine r_iload_n (j := 3) F rfl rfl dX9_cause_8 ?_
  replace h := bind_so h
  obtain ⟨_, g9, h⟩ := h
  replace h := bind_so h
  obtain ⟨q9, h9, h⟩ := h
  refine r_callV (as := [vI l1, vI l2, vI l3]) (rv := (some (vI q9.1))) (kc := 0) (nc := 0) (tX9_toldFact h9) clok_9 F (gK_so g9) tw_1526 tw_1528 tw_59 tw_1529 tw_122 ⟨by decide, by decide, show (parseMethodDescriptor yX9_toldFact.desc).map (fun d => d.parameters.length) = some 3 by decide +kernel⟩ ⟨by decide, by decide⟩ (Nat.le_of_ble_eq_true rfl) dX9_cause_9 ?_
  refine r_istore (ls' := [(5, vI q9.1), (0, vR l0), (1, vI l1), (2, vI l2), (3, vI l3), (4, vI l4)]) F (by decide) rfl dX9_cause_12 ?_
  refine r_iload (j := 0) F rfl dX9_cause_14 ?_
  refine r_iconst F rfl dX9_cause_16 ?_
  refine r_icmp_eq (tgt := 27) F (by decide) dX9_cause_17 (fun hc => ?_) (fun hc => ?_)
  · replace h := ite_p h hc
    refine r_iconst F rfl dX9_cause_27 ?_
    obtain rfl := Option.some.inj h
    exact r_iret F dX9_cause_28
  · replace h := ite_n h hc
    refine r_aload_n (j := 1) F rfl rfl dX9_cause_20 ?_
    replace h := bind_so h
    obtain ⟨_, g21, h⟩ := h
    replace h := bind_so h
    obtain ⟨q21, h21, h⟩ := h
    refine r_callV (as := []) (rv := (some (vI q21.1))) (kc := 0) (nc := 0) (tX9_canTell h21) clok_9 F (gK_so g21) tw_1554 tw_1556 tw_62 tw_1557 tw_122 ⟨by decide, by decide, show (parseMethodDescriptor yX9_canTell.desc).map (fun d => d.parameters.length) = some 0 by decide +kernel⟩ ⟨by decide, by decide⟩ (Nat.le_of_ble_eq_true rfl) dX9_cause_21 ?_
    refine r_if_ne (tgt := 29) F (by decide) dX9_cause_24 (fun hc => ?_) (fun hc => ?_)
    · replace h := ite_n h hc
      refine r_aload_n (j := 1) F rfl rfl dX9_cause_29 ?_
      replace h := bind_so h
      obtain ⟨_, g30, h⟩ := h
      replace h := bind_so h
      obtain ⟨q30, h30, h⟩ := h
      refine r_callV (as := []) (rv := none) (kc := 0) (nc := 0) (tX9_countFacts h30) clok_9 F (gK_so g30) tw_1848 tw_1850 tw_107 tw_1851 tw_122 ⟨by decide, by decide, show (parseMethodDescriptor yX9_countFacts.desc).map (fun d => d.parameters.length) = some 0 by decide +kernel⟩ ⟨by decide, by decide⟩ (Nat.le_of_ble_eq_true rfl) dX9_cause_30 ?_
      refine r_aload_n (j := 1) F rfl rfl dX9_cause_33 ?_
      replace h := bind_so h
      obtain ⟨a34, h34, h⟩ := h
      refine r_getT (t := 0) rfl clok_9 F (by decide) h34 tw_1354 dX9_cause_34 ?_
      refine r_if_eq (tgt := 64) F (by decide) dX9_cause_37 (fun hc => ?_) (fun hc => ?_)
      · replace h := ite_p h hc
        refine r_iconst F rfl dX9_cause_64 ?_
        obtain rfl := Option.some.inj h
        exact r_iret F dX9_cause_65
      · replace h := ite_n h hc
        refine r_aload_n (j := 1) F rfl rfl dX9_cause_40 ?_
        replace h := bind_so h
        obtain ⟨a41, h41, h⟩ := h
        refine r_getT (t := 2) rfl clok_9 F (by decide) h41 tw_1353 dX9_cause_41 ?_
        refine r_iload (j := 0) F rfl dX9_cause_44 ?_
        replace h := bind_so h
        obtain ⟨a46, h46, h⟩ := h
        refine r_iald F h46 dX9_cause_46 ?_
        refine r_if_eq (tgt := 66) F (by decide) dX9_cause_47 (fun hc => ?_) (fun hc => ?_)
        · replace h := ite_p h hc
          refine r_sub [1, 5, 0] (ls' := [(0, vR l0), (4, vI l4), (5, vI q9.1)]) rfl ?_
          exact tX9_cause_66 F h
        · replace h := ite_n h hc
          refine r_aload_n (j := 1) F rfl rfl dX9_cause_50 ?_
          replace h := bind_so h
          obtain ⟨a51, h51, h⟩ := h
          refine r_getT (t := 2) rfl clok_9 F (by decide) h51 tw_1353 dX9_cause_51 ?_
          refine r_iload (j := 0) F rfl dX9_cause_54 ?_
          replace h := bind_so h
          obtain ⟨a56, h56, h⟩ := h
          refine r_iald F h56 dX9_cause_56 ?_
          refine r_aload_n (j := 1) F rfl rfl dX9_cause_57 ?_
          replace h := bind_so h
          obtain ⟨a58, h58, h⟩ := h
          refine r_getT (t := 0) rfl clok_9 F (by decide) h58 tw_1354 dX9_cause_58 ?_
          refine r_icmp_eq (tgt := 66) F (by decide) dX9_cause_61 (fun hc => ?_) (fun hc => ?_)
          · replace h := ite_p h hc
            refine r_sub [1, 5, 0] (ls' := [(0, vR l0), (4, vI l4), (5, vI q9.1)]) rfl ?_
            exact tX9_cause_66 F h
          · replace h := ite_n h hc
            refine r_iconst F rfl dX9_cause_64 ?_
            obtain rfl := Option.some.inj h
            exact r_iret F dX9_cause_65
    · replace h := ite_p h hc
      refine r_iconst F rfl dX9_cause_27 ?_
      obtain rfl := Option.some.inj h
      exact r_iret F dX9_cause_28
theorem tX9_without_87 {E : En} {p : Program} {l : Launch} {e : Env} {s : State} {m : MethodId} {args : Array Value} {below : List Frame} {meth : Method} {c : Code} {q : Int × Mem} {k63 : Int → Int → Int → Mem → Option (Int × Mem)} (hk63 : ∀ {l0 l2 l3 : Int} {M : Mem}, k63 l0 l2 l3 M = some q → G E p l e (rmOf 9 0 0) s m args below meth c 4 (QZ E below args s (rmOf 9 0 0) (some (vI q.1)) q.2) 0 0 M 63 [(0, vR l0), (2, vI l2), (3, vI l3)] []) {l0 l3 s0 s1 : Int} {M : Mem} (F : Fx E p s m args meth c cX9_without 4 yX9_without.cls (some FieldType.int) yX9_without.name) (h : mX9_without_87 k63 l0 l3 s0 s1 M = some q) : G E p l e (rmOf 9 0 0) s m args below meth c 4 (QZ E below args s (rmOf 9 0 0) (some (vI q.1)) q.2) 0 0 M 87 [(0, vR l0), (3, vI l3)] [vI s1, vI s0] := by
  unfold mX9_without_87 at h
  refine r_iadd F dX9_without_87 ?_
  refine r_istore_n (ls' := [(2, vI (wI (s0 + s1))), (0, vR l0), (3, vI l3)]) F rfl (by decide) rfl dX9_without_88 ?_
  refine r_iinc (j := 2) (ls' := [(3, vI (wI (l3 + 1))), (2, vI (wI (s0 + s1))), (0, vR l0)]) F rfl (by decide) rfl dX9_without_89 ?_
  refine r_goto (tgt := 63) F (by decide) dX9_without_92 ?_
  refine r_sub [2, 1, 0] (ls' := [(0, vR l0), (2, vI (wI (s0 + s1))), (3, vI (wI (l3 + 1)))]) rfl ?_
  exact hk63 h
theorem tbX9_without_63 {E : En} {p : Program} {l : Launch} {e : Env} {s : State} {m : MethodId} {args : Array Value} {below : List Frame} {meth : Method} {c : Code} {q : Int × Mem} {k63 : Int → Int → Int → Mem → Option (Int × Mem)} (hk63 : ∀ {l0 l2 l3 : Int} {M : Mem}, k63 l0 l2 l3 M = some q → G E p l e (rmOf 9 0 0) s m args below meth c 4 (QZ E below args s (rmOf 9 0 0) (some (vI q.1)) q.2) 0 0 M 63 [(0, vR l0), (2, vI l2), (3, vI l3)] []) {l0 l2 l3 : Int} {M : Mem} (F : Fx E p s m args meth c cX9_without 4 yX9_without.cls (some FieldType.int) yX9_without.name) (h : bX9_without_63 k63 l0 l2 l3 M = some q) : G E p l e (rmOf 9 0 0) s m args below meth c 4 (QZ E below args s (rmOf 9 0 0) (some (vI q.1)) q.2) 0 0 M 63 [(0, vR l0), (2, vI l2), (3, vI l3)] [] := by
  unfold bX9_without_63 at h
  refine r_iload_n (j := 2) F rfl rfl dX9_without_63 ?_
  refine r_iconst F rfl dX9_without_64 ?_
  refine r_aload_n (j := 0) F rfl rfl dX9_without_65 ?_
  replace h := bind_so h
  obtain ⟨_, g66, h⟩ := h
  replace h := bind_so h
  obtain ⟨q66, h66, h⟩ := h
  refine r_callV (as := []) (rv := (some (vI q66.1))) (kc := 0) (nc := 0) (tX9_manyFacts h66) clok_9 F (gK_so g66) tw_1518 tw_1520 tw_58 tw_1521 tw_122 ⟨by decide, by decide, show (parseMethodDescriptor yX9_manyFacts.desc).map (fun d => d.parameters.length) = some 0 by decide +kernel⟩ ⟨by decide, by decide⟩ (Nat.le_of_ble_eq_true rfl) dX9_without_66 ?_
  refine r_ishl F dX9_without_69 ?_
  refine r_icmp_ge (tgt := 95) F (by decide) dX9_without_70 (fun hc => ?_) (fun hc => ?_)
  · replace h := ite_p h hc
    refine r_iload_n (j := 1) F rfl rfl dX9_without_95 ?_
    obtain rfl := Option.some.inj h
    exact r_iret F dX9_without_96
  · replace h := ite_n h hc
    refine r_iload_n (j := 1) F rfl rfl dX9_without_73 ?_
    refine r_aload_n (j := 0) F rfl rfl dX9_without_74 ?_
    refine r_iload_n (j := 2) F rfl rfl dX9_without_75 ?_
    replace h := bind_so h
    obtain ⟨_, g76, h⟩ := h
    replace h := bind_so h
    obtain ⟨q76, h76, h⟩ := h
    refine r_callV (as := [vI l3]) (rv := (some (vI q76.1))) (kc := 0) (nc := 0) (tX9_isWorld h76) clok_9 F (gK_so g76) tw_1778 tw_1780 tw_97 tw_1781 tw_122 ⟨by decide, by decide, show (parseMethodDescriptor yX9_isWorld.desc).map (fun d => d.parameters.length) = some 1 by decide +kernel⟩ ⟨by decide, by decide⟩ (Nat.le_of_ble_eq_true rfl) dX9_without_76 ?_
    refine r_if_eq (tgt := 86) F (by decide) dX9_without_79 (fun hc => ?_) (fun hc => ?_)
    · replace h := ite_p h hc
      refine r_iconst F rfl dX9_without_86 ?_
      refine r_sub [0, 2] (ls' := [(0, vR l0), (3, vI l3)]) rfl ?_
      exact tX9_without_87 (fun h => hk63 h) F h
    · replace h := ite_n h hc
      refine r_iconst F rfl dX9_without_82 ?_
      refine r_goto (tgt := 87) F (by decide) dX9_without_83 ?_
      refine r_sub [0, 2] (ls' := [(0, vR l0), (3, vI l3)]) rfl ?_
      exact tX9_without_87 (fun h => hk63 h) F h
theorem tX9_without_63 {E : En} {p : Program} {l : Launch} {e : Env} {s : State} {m : MethodId} {args : Array Value} {below : List Frame} {meth : Method} {c : Code} {q : Int × Mem} (F : Fx E p s m args meth c cX9_without 4 yX9_without.cls (some FieldType.int) yX9_without.name) : ∀ {fu : Nat} {l0 l2 l3 : Int} {M : Mem}, mX9_without_63 fu l0 l2 l3 M = some q → G E p l e (rmOf 9 0 0) s m args below meth c 4 (QZ E below args s (rmOf 9 0 0) (some (vI q.1)) q.2) 0 0 M 63 [(0, vR l0), (2, vI l2), (3, vI l3)] [] := by
  intro fu
  induction fu with
  | zero => intro l0 l2 l3 M h; exact nomatch (show (none : Option (Int × Mem)) = some q from h)
  | succ fu ih => intro l0 l2 l3 M h; exact tbX9_without_63  (fun h => ih h) F h
theorem tX9_without {l0 l1 : Int} {M : Mem} {q : Int × Mem} (h : mX9_without l0 l1 M = some q) : Ct 9 0 0 yX9_without cX9_without 4 (some FieldType.int) [vR l0, vI l1] M (some (vI q.1)) q.2 := by
  unfold mX9_without at h
  refine Ct.of (by decide) (Nat.le_of_ble_eq_true rfl) ?_
  intro E p l e s m args below meth c F
  refine r_sub [0, 1] (ls' := [(0, vR l0), (1, vI l1)]) rfl ?_
  refine r_aload_n (j := 0) F rfl rfl dX9_without_0 ?_
  refine r_iconst F rfl dX9_without_1 ?_
  replace h := bind_so h
  obtain ⟨M2, h2, h⟩ := h
  refine r_put clok_9 F (by decide) rfl (by decide) (by decide) h2 tw_1297 dX9_without_2 ?_
  refine r_iload_n (j := 1) F rfl rfl dX9_without_5 ?_
  refine r_iconst F rfl dX9_without_6 ?_
  refine r_aload_n (j := 0) F rfl rfl dX9_without_7 ?_
  replace h := bind_so h
  obtain ⟨a8, h8, h⟩ := h
  refine r_getT (t := 2) rfl clok_9 F (by decide) h8 tw_1309 dX9_without_8 ?_
  refine r_iconst F rfl dX9_without_11 ?_
  replace h := bind_so h
  obtain ⟨a12, h12, h⟩ := h
  refine r_iald F h12 dX9_without_12 ?_
  refine r_iconst F rfl dX9_without_13 ?_
  refine r_isub F dX9_without_14 ?_
  replace h := bind_so h
  obtain ⟨q15, h15, h⟩ := h
  refine r_callS (as := [vI l1, vI 0, vI (wI (a12 - 1))]) (rv := (some (vI q15.1))) (kc := 0) (nc := 0) (tX9_in h15) F tw_1491 tw_1492 tw_1493 tw_122 ⟨by decide, by decide, show (parseMethodDescriptor yX9_in.desc).map (fun d => d.parameters.length) = some 3 by decide +kernel⟩ ⟨by decide, by decide⟩ (Nat.le_of_ble_eq_true rfl) dX9_without_15 ?_
  refine r_if_eq (tgt := 28) F (by decide) dX9_without_18 (fun hc => ?_) (fun hc => ?_)
  · replace h := ite_p h hc
    refine r_iconst F rfl dX9_without_28 ?_
    obtain rfl := Option.some.inj h
    exact r_iret F dX9_without_29
  · replace h := ite_n h hc
    refine r_aload_n (j := 0) F rfl rfl dX9_without_21 ?_
    replace h := bind_so h
    obtain ⟨_, g22, h⟩ := h
    replace h := bind_so h
    obtain ⟨q22, h22, h⟩ := h
    refine r_callV (as := []) (rv := (some (vI q22.1))) (kc := 0) (nc := 0) (tX9_canTell h22) clok_9 F (gK_so g22) tw_1554 tw_1556 tw_62 tw_1557 tw_122 ⟨by decide, by decide, show (parseMethodDescriptor yX9_canTell.desc).map (fun d => d.parameters.length) = some 0 by decide +kernel⟩ ⟨by decide, by decide⟩ (Nat.le_of_ble_eq_true rfl) dX9_without_22 ?_
    refine r_if_ne (tgt := 30) F (by decide) dX9_without_25 (fun hc => ?_) (fun hc => ?_)
    · replace h := ite_n h hc
      refine r_aload_n (j := 0) F rfl rfl dX9_without_30 ?_
      replace h := bind_so h
      obtain ⟨_, g31, h⟩ := h
      replace h := bind_so h
      obtain ⟨q31, h31, h⟩ := h
      refine r_callV (as := []) (rv := none) (kc := 0) (nc := 0) (tX9_prepare h31) clok_9 F (gK_so g31) tw_1766 tw_1768 tw_94 tw_1769 tw_122 ⟨by decide, by decide, show (parseMethodDescriptor yX9_prepare.desc).map (fun d => d.parameters.length) = some 0 by decide +kernel⟩ ⟨by decide, by decide⟩ (Nat.le_of_ble_eq_true rfl) dX9_without_31 ?_
      refine r_aload_n (j := 0) F rfl rfl dX9_without_34 ?_
      replace h := bind_so h
      obtain ⟨a35, h35, h⟩ := h
      refine r_getT (t := 0) rfl clok_9 F (by decide) h35 tw_1345 dX9_without_35 ?_
      refine r_iload_n (j := 1) F rfl rfl dX9_without_38 ?_
      refine r_ishr F dX9_without_39 ?_
      refine r_iconst F rfl dX9_without_40 ?_
      refine r_iand F dX9_without_41 ?_
      refine r_if_ne (tgt := 47) F (by decide) dX9_without_42 (fun hc => ?_) (fun hc => ?_)
      · replace h := ite_n h hc
        refine r_aload_n (j := 0) F rfl rfl dX9_without_47 ?_
        refine r_dup1 F rfl dX9_without_48 ?_
        replace h := bind_so h
        obtain ⟨a49, h49, h⟩ := h
        refine r_getT (t := 0) rfl clok_9 F (by decide) h49 tw_1345 dX9_without_49 ?_
        refine r_iconst F rfl dX9_without_52 ?_
        refine r_iload_n (j := 1) F rfl rfl dX9_without_53 ?_
        refine r_ishl F dX9_without_54 ?_
        refine r_ixor F dX9_without_55 ?_
        replace h := bind_so h
        obtain ⟨M56, h56, h⟩ := h
        refine r_put clok_9 F (by decide) rfl (by decide) (by decide) h56 tw_1345 dX9_without_56 ?_
        refine r_iconst F rfl dX9_without_59 ?_
        refine r_istore_n (ls' := [(2, vI 0), (0, vR l0), (1, vI l1)]) F rfl (by decide) rfl dX9_without_60 ?_
        refine r_iconst F rfl dX9_without_61 ?_
        refine r_istore_n (ls' := [(3, vI 0), (2, vI 0), (0, vR l0), (1, vI l1)]) F rfl (by decide) rfl dX9_without_62 ?_
        refine r_sub [2, 1, 0] (ls' := [(0, vR l0), (2, vI 0), (3, vI 0)]) rfl ?_
        exact tX9_without_63 F h
      · replace h := ite_p h hc
        refine r_iconst F rfl dX9_without_45 ?_
        obtain rfl := Option.some.inj h
        exact r_iret F dX9_without_46
    · replace h := ite_p h hc
      refine r_iconst F rfl dX9_without_28 ?_
      obtain rfl := Option.some.inj h
      exact r_iret F dX9_without_29
