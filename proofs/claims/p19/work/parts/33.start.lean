/-! ===== the law's start ===== -/
def M0 : Mem := (fun _ => (99, 0), fun _ _ => 0, 0)
theorem M0_ok : MOK M0 := ⟨fun a k => trivial, fun a h => absurd h (show ¬ (99 < 17) by decide), fun a => (by decide : 0 < 2147483648)⟩
def fl : List Cond := flatC (Jvm.Cond.and given_1 narrow_1)
def stm (i : Nat) : Term := .string "VillageStories$Reader" (sIdx.getD i 0)
theorem fl_s1 : ∀ i, i < 14 → Cond.exactly (stm i) "java/lang/String" ∈ fl ∧ Cond.eq (.field (stm i) "java/lang/String" "coder" "B") (.int 0) ∈ fl ∧ Cond.arrayOf (.field (stm i) "java/lang/String" "value" "[B") .byte ∈ fl ∧ Cond.eq (.length (.field (stm i) "java/lang/String" "value" "[B")) (.int (Int32.ofNat (sLen.getD i 0))) ∈ fl := by decide +kernel
theorem fl_s2 : ∀ i, i < 14 → ∀ j, j < sLen.getD i 0 → Cond.eq (.elem (.field (stm i) "java/lang/String" "value" "[B") (.int (Int32.ofNat j))) (.int ((sByt.getD i []).getD j 0)) ∈ fl := by decide +kernel
def flP : List (Nat × Nat × Nat) := [(0, 1, 91), (0, 2, 101), (1, 2, 102), (0, 3, 111), (1, 3, 112), (2, 3, 113), (0, 4, 121), (1, 4, 122), (2, 4, 123), (3, 4, 124), (0, 5, 132), (1, 5, 133), (2, 5, 134), (3, 5, 135), (4, 5, 136), (0, 6, 143), (1, 6, 144), (2, 6, 145), (3, 6, 146), (4, 6, 147), (5, 6, 148), (0, 7, 155), (1, 7, 156), (2, 7, 157), (3, 7, 158), (4, 7, 159), (5, 7, 160), (6, 7, 161), (0, 8, 170), (1, 8, 171), (2, 8, 172), (3, 8, 173), (4, 8, 174), (5, 8, 175), (6, 8, 176), (7, 8, 177), (0, 9, 187), (1, 9, 188), (2, 9, 189), (3, 9, 190), (4, 9, 191), (5, 9, 192), (6, 9, 193), (7, 9, 194), (8, 9, 195), (0, 10, 204), (1, 10, 205), (2, 10, 206), (3, 10, 207), (4, 10, 208), (5, 10, 209), (6, 10, 210), (7, 10, 211), (8, 10, 212), (9, 10, 213), (0, 11, 221), (1, 11, 222), (2, 11, 223), (3, 11, 224), (4, 11, 225), (5, 11, 226), (6, 11, 227), (7, 11, 228), (8, 11, 229), (9, 11, 230), (10, 11, 231), (0, 12, 241), (1, 12, 242), (2, 12, 243), (3, 12, 244), (4, 12, 245), (5, 12, 246), (6, 12, 247), (7, 12, 248), (8, 12, 249), (9, 12, 250), (10, 12, 251), (11, 12, 252), (0, 13, 260), (1, 13, 261), (2, 13, 262), (3, 13, 263), (4, 13, 264), (5, 13, 265), (6, 13, 266), (7, 13, 267), (8, 13, 268), (9, 13, 269), (10, 13, 270), (11, 13, 271), (12, 13, 272)]
theorem fl_s30 : flP.all (fun q => decide (fl[q.2.2]? = some (Cond.not (Cond.eq (stm q.1) (stm q.2.1))))) = true := by decide +kernel
theorem fl_s31 : ∀ i, i < 14 → ∀ j, j < 14 → i ≠ j → ∃ q ∈ flP, (q.1 = i ∧ q.2.1 = j) ∨ (q.1 = j ∧ q.2.1 = i) := by decide +kernel
theorem fl_s3 (i j : Nat) (hi : i < 14) (hj : j < 14) (hij : i ≠ j) : Cond.not (Cond.eq (stm i) (stm j)) ∈ fl ∨ Cond.not (Cond.eq (stm j) (stm i)) ∈ fl := by
  obtain ⟨q, hq, h⟩ := fl_s31 i hi j hj hij
  have h2 := List.mem_of_getElem? (of_decide_eq_true (List.all_eq_true.mp fl_s30 q hq))
  rcases h with ⟨h3, h4⟩ | ⟨h3, h4⟩
  · rw [h3, h4] at h2; exact Or.inl h2
  · rw [h3, h4] at h2; exact Or.inr h2
theorem fl_p : Cond.arrayOf (.static "VillageStories" "PATTERNS" "[J") .long ∈ fl ∧ Cond.eq (.length (.static "VillageStories" "PATTERNS" "[J")) (.int (Int32.ofNat 6)) ∈ fl ∧ ∀ j, j < 6 → Cond.eq (.elem (.static "VillageStories" "PATTERNS" "[J") (.int (Int32.ofNat j))) (.long (Int64.ofInt (patL.getD j 0))) ∈ fl := by decide +kernel
theorem fl_o : Cond.arrayOf (.static "VillageStories$OtherNumbers" "ORDERS" "[I") .int ∈ fl ∧ Cond.eq (.length (.static "VillageStories$OtherNumbers" "ORDERS" "[I")) (.int (Int32.ofNat 18)) ∈ fl ∧ ∀ j, j < 18 → Cond.eq (.elem (.static "VillageStories$OtherNumbers" "ORDERS" "[I") (.int (Int32.ofNat j))) (.int (Int32.ofInt (ordL.getD j 0))) ∈ fl := by decide +kernel
theorem fl_n : Cond.arrayOf (.static "VillageStories$OtherNumbers" "ORDERS_OF" "[I") .int ∈ fl ∧ Cond.eq (.length (.static "VillageStories$OtherNumbers" "ORDERS_OF" "[I")) (.int (Int32.ofNat 4)) ∈ fl ∧ ∀ j, j < 4 → Cond.eq (.elem (.static "VillageStories$OtherNumbers" "ORDERS_OF" "[I") (.int (Int32.ofNat j))) (.int (Int32.ofInt (ordN.getD j 0))) ∈ fl := by decide +kernel
theorem fl_c : Cond.eq (.static "java/lang/String" "COMPACT_STRINGS" "Z") (.int 1) ∈ fl ∧ Cond.isRef (.static "jdk/internal/util/Preconditions" "SIOOBE_FORMATTER" "Ljava/util/function/BiFunction;") ∈ fl := by decide +kernel
set_option maxRecDepth 400000 in
theorem tb_s : ∀ i, i < 14 → Cond.stringRef "VillageStories$Reader" (sIdx.getD i 0) (sTx.getD i "") ∈ lw_tbl := by
  intro i hi
  match i, hi with
  | 0, _ => exact (inT_3 _ (List.mem_of_getElem? (i := 90) (by rfl)))
  | 1, _ => exact (inT_3 _ (List.mem_of_getElem? (i := 143) (by rfl)))
  | 2, _ => exact (inT_3 _ (List.mem_of_getElem? (i := 144) (by rfl)))
  | 3, _ => exact (inT_3 _ (List.mem_of_getElem? (i := 145) (by rfl)))
  | 4, _ => exact (inT_3 _ (List.mem_of_getElem? (i := 146) (by rfl)))
  | 5, _ => exact (inT_3 _ (List.mem_of_getElem? (i := 147) (by rfl)))
  | 6, _ => exact (inT_3 _ (List.mem_of_getElem? (i := 148) (by rfl)))
  | 7, _ => exact (inT_3 _ (List.mem_of_getElem? (i := 149) (by rfl)))
  | 8, _ => exact (inT_3 _ (List.mem_of_getElem? (i := 150) (by rfl)))
  | 9, _ => exact (inT_3 _ (List.mem_of_getElem? (i := 151) (by rfl)))
  | 10, _ => exact (inT_3 _ (List.mem_of_getElem? (i := 152) (by rfl)))
  | 11, _ => exact (inT_3 _ (List.mem_of_getElem? (i := 185) (by rfl)))
  | 12, _ => exact (inT_3 _ (List.mem_of_getElem? (i := 186) (by rfl)))
  | 13, _ => exact (inT_3 _ (List.mem_of_getElem? (i := 187) (by rfl)))
set_option maxRecDepth 400000 in
theorem tb_pat : Cond.laysStatic "VillageStories" "PATTERNS" "[J" ∈ lw_tbl := (inT_4 _ (List.mem_of_getElem? (i := 171) (by rfl)))
set_option maxRecDepth 400000 in
theorem tb_ord : Cond.laysStatic "VillageStories$OtherNumbers" "ORDERS" "[I" ∈ lw_tbl := (inT_3 _ (List.mem_of_getElem? (i := 26) (by rfl)))
set_option maxRecDepth 400000 in
theorem tb_orn : Cond.laysStatic "VillageStories$OtherNumbers" "ORDERS_OF" "[I" ∈ lw_tbl := (inT_3 _ (List.mem_of_getElem? (i := 16) (by rfl)))
set_option maxRecDepth 400000 in
theorem tb_cs : Cond.laysStatic "java/lang/String" "COMPACT_STRINGS" "Z" ∈ lw_tbl := (inT_3 _ (List.mem_of_getElem? (i := 104) (by rfl)))
set_option maxRecDepth 400000 in
theorem tb_si : Cond.laysStatic "jdk/internal/util/Preconditions" "SIOOBE_FORMATTER" "Ljava/util/function/BiFunction;" ∈ lw_tbl := (inT_3 _ (List.mem_of_getElem? (i := 120) (by rfl)))
set_option maxRecDepth 400000 in
theorem tb_nest : ∀ q ∈ nestM, Cond.methodLinkNest q.1 q.2.1 q.2.2 "VillageStories" ∈ lw_tbl := by
  intro q hq
  obtain ⟨k, hk⟩ := List.getElem?_of_mem hq
  match k, hk with
  | 0, hk => cases hk; exact (inT_1 _ (List.mem_of_getElem? (i := 35) (by rfl)))
  | 1, hk => cases hk; exact (inT_1 _ (List.mem_of_getElem? (i := 41) (by rfl)))
  | 2, hk => cases hk; exact (inT_1 _ (List.mem_of_getElem? (i := 179) (by rfl)))
  | 3, hk => cases hk; exact (inT_1 _ (List.mem_of_getElem? (i := 204) (by rfl)))
  | 4, hk => cases hk; exact (inT_1 _ (List.mem_of_getElem? (i := 210) (by rfl)))
  | 5, hk => cases hk; exact (inT_2 _ (List.mem_of_getElem? (i := 12) (by rfl)))
  | 6, hk => cases hk; exact (inT_2 _ (List.mem_of_getElem? (i := 14) (by rfl)))
  | 7, hk => cases hk; exact (inT_2 _ (List.mem_of_getElem? (i := 56) (by rfl)))
  | 8, hk => cases hk; exact (inT_2 _ (List.mem_of_getElem? (i := 135) (by rfl)))
  | k + 9, hk => simp [nestM] at hk
set_option maxRecDepth 400000 in
theorem tb_fn : Cond.fieldLinkNest "VillageStories$WorldSet" 57 "VillageStories" "PATTERNS" "[J" "VillageStories" ∈ lw_tbl := (inT_4 _ (List.mem_of_getElem? (i := 170) (by rfl)))
set_option maxRecDepth 400000 in
theorem tb_aoText : Cond.arrayOver (.object "VillageStories$Text") ∈ lw_tbl := (inT_1 _ (List.mem_of_getElem? (i := 94) (by rfl)))
set_option maxRecDepth 400000 in
theorem tb_aoTold : Cond.arrayOver (.object "VillageStories$Told") ∈ lw_tbl := (inT_2 _ (List.mem_of_getElem? (i := 134) (by rfl)))
set_option maxRecDepth 400000 in
theorem tb_aoWorldSet : Cond.arrayOver (.object "VillageStories$WorldSet") ∈ lw_tbl := (inT_2 _ (List.mem_of_getElem? (i := 11) (by rfl)))
theorem arr_known {s : State} {args : Array Value} {ty : FieldType} (hp : ∀ C, ty ≠ .object C) (h : (Cond.arrayClass ty).before args s = true) : ∃ cA : ClassId, ArrOfT s cA ty ∧ va_RA s cA ty := by
  obtain ⟨c, k, comp, h1, h2, h3⟩ := Cond.arrayClass_spec h
  refine ⟨c, fun n z => ⟨fun k h => (by cases h), k, h2, comp, h3⟩, ?_⟩
  cases ty with
  | object C => exact absurd rfl (hp C)
  | _ => exact h1
theorem arr_knownO {s : State} {args : Array Value} {C : String} (h : (Cond.arrayOver (.object C)).before args s = true) : ∃ cA : ClassId, ArrOfT s cA (.object C) ∧ va_RA s cA (.object C) := by
  obtain ⟨comp, c, k, h1, h2, h3, h4, h5⟩ := Cond.arrayOver_spec h
  exact ⟨c, fun n z => ⟨fun k h => (by cases h), k, h3, comp, h4⟩, k, comp, h3, h4, h1, h5⟩
set_option maxHeartbeats 4000000 in
theorem start_of {p : Program} {e : Env} {s : State} {m : MethodId} {below : List Frame} {meth : Method} {c : Code} (l : Launch) {b L : Nat} {xs : Nat → Int32} (hL : L ≤ 3072) (C0 : lw_At p s m meth c b L xs) {q : Int × Mem} (hq : mL_law L xs M0 = some q) (hq1 : q.1 = 1) : W p l e room_1 s m #[Value.ref b] below meth c s.heap [] 0 0 (lw_Z below #[Value.ref b] s) (entryFrame m ([Value.ref b] : List Value).toArray 4) := by
  obtain ⟨hx, hb, hr, hml, hown, hts, hX, hbl, hlocks, hgv⟩ := id C0
  have hf := flat_of_before _ hgv
  have hf : ∀ c ∈ fl, c.before #[Value.ref b] s = true := hf
  have htG : ∀ w ∈ tblG, w.before #[Value.ref b] s = true := fun w hw => hts w (tblG_tbl w hw)
  have hA0 : ∀ a : Nat, a < s.heap.size → ¬ (fun q : Nat => s.heap.size ≤ q) a := fun a h => Nat.not_le.mpr h
  obtain ⟨t1, ht1, hT1⟩ := va_Tof (A := fun q : Nat => s.heap.size ≤ q) (f := fun j => .long (Int64.ofInt (patL.getD j 0))) (N := 6) (by decide) (hf _ fl_p.1) (va_eqt (hf _ fl_p.2.1)) (fun j hj => va_eqtl (hf _ (fl_p.2.2 j hj))) hA0
  obtain ⟨t2, ht2, hT2⟩ := va_Tof (A := fun q : Nat => s.heap.size ≤ q) (f := fun j => .int (Int32.ofInt (ordL.getD j 0))) (N := 18) (by decide) (hf _ fl_o.1) (va_eqt (hf _ fl_o.2.1)) (fun j hj => va_eqt (hf _ (fl_o.2.2 j hj))) hA0
  obtain ⟨t3, ht3, hT3⟩ := va_Tof (A := fun q : Nat => s.heap.size ≤ q) (f := fun j => .int (Int32.ofInt (ordN.getD j 0))) (N := 4) (by decide) (hf _ fl_n.1) (va_eqt (hf _ fl_n.2.1)) (fun j hj => va_eqt (hf _ (fl_n.2.2 j hj))) hA0
  obtain ⟨adK, adV, hvk, hvr⟩ := vk_Sof (N := 14) (tm := stm) (len := sLen) (byt := sByt) (A := fun q : Nat => s.heap.size ≤ q) (by decide) (fun i hi => hf _ (fl_s1 i hi).1) (fun i hi => hf _ (fl_s1 i hi).2.1) (fun i hi => hf _ (fl_s1 i hi).2.2.1) (fun i hi => hf _ (fl_s1 i hi).2.2.2) (fun i hi j hj => hf _ (fl_s2 i hi j hj)) (fun i j hi hj hij => (fl_s3 i j hi hj hij).imp (hf _) (hf _)) hA0
  obtain ⟨t60, hZ60⟩ : ∃ t60 : Nat, va_Z "jdk/internal/util/Preconditions" "SIOOBE_FORMATTER" "Ljava/util/function/BiFunction;" .null (fun q : Nat => s.heap.size ≤ q) s s.heap ∨ va_Z "jdk/internal/util/Preconditions" "SIOOBE_FORMATTER" "Ljava/util/function/BiFunction;" (.ref t60) (fun q : Nat => s.heap.size ≤ q) s s.heap := by
    rcases va_Zqof (hts _ tb_si) (htG _ tw_126) (hf _ fl_c.2) hA0 with z | ⟨t, z⟩
    · exact ⟨0, Or.inl z⟩
    · exact ⟨t, Or.inr z⟩
  obtain ⟨sp, e1, e2, e3, e50, e60, eK, eV⟩ : ∃ sp : Nat → Nat, sp 1 = t1 ∧ sp 2 = t2 ∧ sp 3 = t3 ∧ sp 50 = b ∧ sp 60 = t60 ∧ (∀ i, i < 14 → sp (100 + i) = adK i) ∧ ∀ i, i < 14 → sp (200 + i) = adV i := by
    refine ⟨fun k => if k = 1 then t1 else if k = 2 then t2 else if k = 3 then t3 else if k = 50 then b else if k = 60 then t60 else if k < 200 then adK (k - 100) else adV (k - 200), rfl, rfl, rfl, rfl, rfl, fun i hi => ?_, fun i hi => ?_⟩
    · show (if 100 + i = 1 then t1 else if 100 + i = 2 then t2 else if 100 + i = 3 then t3 else if 100 + i = 50 then b else if 100 + i = 60 then t60 else if 100 + i < 200 then adK (100 + i - 100) else adV (100 + i - 200)) = adK i
      rw [if_neg (by omega), if_neg (by omega), if_neg (by omega), if_neg (by omega), if_neg (by omega), if_pos (by omega), Nat.add_sub_cancel_left]
    · show (if 200 + i = 1 then t1 else if 200 + i = 2 then t2 else if 200 + i = 3 then t3 else if 200 + i = 50 then b else if 200 + i = 60 then t60 else if 200 + i < 200 then adK (200 + i - 100) else adV (200 + i - 200)) = adV i
      rw [if_neg (by omega), if_neg (by omega), if_neg (by omega), if_neg (by omega), if_neg (by omega), if_neg (by omega), Nat.add_sub_cancel_left]
  obtain ⟨c0, iS0, hKn0⟩ := u_known (C := RX0) (T := TX0) (N := 6) (n := 6) htG inX0 (htG _ tw_289)
  obtain ⟨c1, iS1, hKn1⟩ := u_known (C := RX1) (T := TX1) (N := 8) (n := 8) htG inX1 (htG _ tw_314)
  obtain ⟨c2, iS2, hKn2⟩ := u_known (C := RX2) (T := TX2) (N := 12) (n := 12) htG inX2 (htG _ tw_406)
  obtain ⟨c3, iS3, hKn3⟩ := u_known (C := RX3) (T := TX3) (N := 8) (n := 8) htG inX3 (htG _ tw_151)
  obtain ⟨c4, iS4, hKn4⟩ := u_known (C := RX4) (T := TX4) (N := 12) (n := 12) htG inX4 (htG _ tw_139)
  obtain ⟨c5, iS5, hKn5⟩ := u_known (C := RX5) (T := TX5) (N := 6) (n := 6) htG inX5 (htG _ tw_412)
  obtain ⟨c6, iS6, hKn6⟩ := u_known (C := RX6) (T := TX6) (N := 19) (n := 19) htG inX6 (htG _ tw_145)
  obtain ⟨c7, iS7, hKn7⟩ := u_known (C := RX7) (T := TX7) (N := 3) (n := 3) htG inX7 (htG _ tw_320)
  obtain ⟨c8, iS8, hKn8⟩ := u_known (C := RX8) (T := TX8) (N := 5) (n := 5) htG inX8 (htG _ tw_131)
  obtain ⟨c9, iS9, hKn9⟩ := u_known (C := RX9) (T := TX9) (N := 63) (n := 63) htG inX9 (htG _ tw_1291)
  obtain ⟨a10, hA10⟩ := arr_known (ty := .int) (fun C h => by cases h) (htG _ tw_203)
  obtain ⟨a11, hA11⟩ := arr_known (ty := .boolean) (fun C h => by cases h) (htG _ tw_287)
  obtain ⟨a12, hA12⟩ := arr_known (ty := .byte) (fun C h => by cases h) (htG _ tw_849)
  obtain ⟨a13, hA13⟩ := arr_known (ty := .long) (fun C h => by cases h) (htG _ tw_286)
  obtain ⟨a14, hA14⟩ := arr_knownO (hts _ tb_aoText)
  obtain ⟨a15, hA15⟩ := arr_knownO (hts _ tb_aoTold)
  obtain ⟨a16, hA16⟩ := arr_knownO (hts _ tb_aoWorldSet)
  obtain ⟨dC, dI, hKc⟩ : ∃ (dC : Nat → ClassId) (dI : Nat → Nat → Nat), ∀ (k : Nat) (q : vw_C), vwCl[k]? = some q → u_Kn s q.1 q.2.1 q.2.2 (dC k) (dI k) := by
    refine ⟨fun k => match k with | 0 => c0 | 1 => c1 | 2 => c2 | 3 => c3 | 4 => c4 | 5 => c5 | 6 => c6 | 7 => c7 | 8 => c8 | _ => c9, fun k => match k with | 0 => iS0 | 1 => iS1 | 2 => iS2 | 3 => iS3 | 4 => iS4 | 5 => iS5 | 6 => iS6 | 7 => iS7 | 8 => iS8 | _ => iS9, ?_⟩
    intro k q hq
    match k, hq with
    | 0, hq => cases hq; exact hKn0
    | 1, hq => cases hq; exact hKn1
    | 2, hq => cases hq; exact hKn2
    | 3, hq => cases hq; exact hKn3
    | 4, hq => cases hq; exact hKn4
    | 5, hq => cases hq; exact hKn5
    | 6, hq => cases hq; exact hKn6
    | 7, hq => cases hq; exact hKn7
    | 8, hq => cases hq; exact hKn8
    | 9, hq => cases hq; exact hKn9
    | k + 10, hq => simp [vwCl] at hq
  obtain ⟨cA, hcA⟩ : ∃ cA : Nat → ClassId, ∀ k, k < 7 → ArrOfT s (cA (10 + k)) (aty (10 + k)) ∧ va_RA s (cA (10 + k)) (aty (10 + k)) := by
    refine ⟨fun k => match k with | 10 => a10 | 11 => a11 | 12 => a12 | 13 => a13 | 14 => a14 | 15 => a15 | _ => a16, ?_⟩
    intro k hk
    match k, hk with
    | 0, _ => exact hA10
    | 1, _ => exact hA11
    | 2, _ => exact hA12
    | 3, _ => exact hA13
    | 4, _ => exact hA14
    | 5, _ => exact hA15
    | 6, _ => exact hA16
  obtain ⟨E, hE⟩ : ∃ E : En, E = ((dC, dI), s.heap.size, cA, sp) := ⟨_, rfl⟩
  have hB : eB E = s.heap.size := by rw [hE]
  have hSpE : E.2.2.2 = sp := by rw [hE]
  have hAE : AE E = fun q : Nat => s.heap.size ≤ q := by rw [hE]
  have hK : va_K E.1 vwCl (tysOf E) s := by
    rw [hE]
    refine ⟨hKc, fun k q hk => ?_⟩
    have hk7 : k < 7 := by
      have := (List.getElem?_eq_some_iff.mp hk).1
      simpa [tysOf] using this
    have h9 := tysOf_at ((dC, dI), s.heap.size, cA, sp) (c := 10 + k) (by omega) (by omega)
    rw [show 10 + k - 10 = k by omega] at h9
    rw [h9] at hk
    cases hk
    exact hcA k hk7
  have hSp : SpF E s s.heap := by
    unfold SpF
    rw [hAE, hSpE, e1, e2, e3, e60]
    refine ⟨⟨va_Zref (hts _ tb_pat) (htG _ tw_112) ht1 hA0, hT1⟩, ⟨va_Zref (hts _ tb_ord) (htG _ tw_117) ht2 hA0, hT2⟩, ⟨va_Zref (hts _ tb_orn) (htG _ tw_117) ht3 hA0, hT3⟩, va_Zof (hts _ tb_cs) (htG _ tw_124) (va_eqt (hf _ fl_c.1)) hA0, hZ60, ⟨fun i hi => ?_, fun i j hi hj h => ?_⟩, fun i hi => ?_, ?_⟩
    · have h9 := hvk.1 i hi
      rw [← eK i hi, ← eV i hi] at h9
      exact h9
    · have h9 : sp (100 + i) = sp (100 + j) := h
      rw [eK i hi, eK j hj] at h9
      exact hvk.2 i j hi hj h9
    · rw [eK i hi]; exact vk_R.of (hts _ (tb_s i hi)) (hvr i hi)
    · exact ⟨fun q hq => va_Nw.of rfl (hts _ (tb_nest q hq)), va_Nw.of rfl (hts _ tb_fn), va_AO.of (hts _ tb_aoText), va_AO.of (hts _ tb_aoTold), va_AO.of (hts _ tb_aoWorldSet)⟩
  have F : Fx E p s m #[Value.ref b] meth c code 4 R_law (some .boolean) meth.name := ⟨hx, hb, hml, hown, htG, hK, hSp, Nat.le_of_eq hB, hr, hlocks, rfl⟩
  have X : LX E s b L xs := ⟨hX, hbl, hB, by rw [hSpE, e50], by omega⟩
  have hG := tL_law (l := l) (e := e) (below := below) F X hq1 hq
  have hl := lv_entry ([.ref b]) (n := 4) (Nat.le_of_ble_eq_true rfl)
  rw [lg_entry_eq]
  generalize (lg_sl ([.ref b]) ++ List.replicate (4 - (lg_sl ([.ref b])).length) Slot.unset).toArray = ls at hl ⊢
  have hl : lv_has ls 4 [(0, .ref b)] := hl
  have hS : va_S (AE E) s.heap s.heap [] := va_S.rf
  have hRep : Rep E M0 s.heap := ⟨by rw [hB]; rfl, fun q h => absurd h (Nat.not_lt_zero q)⟩
  have hl2 : lv_has ls 4 (enc E [(0, vR (-50))]) := by
    show lv_has ls 4 [(0, e_v E (vR (-50)))]
    rw [LX_ref X]
    exact hl
  exact hG (fun q hq => (List.mem_cons.mp hq).elim (fun h => by rw [h]; trivial) (fun h => by cases h)) (fun v hv => by cases hv) M0_ok s.heap [] ls 0 0 hRep hS hl2 (by decide) (by decide)
