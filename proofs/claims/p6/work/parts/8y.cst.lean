/-! ===== cells that stay what they are ===== -/
def cstL : List (Int × Int × Int) := [(2, 0, 3), (2, 1, 20), (2, 2, 24), (2, 3, 31), (2, 5, 32), (2, 6, 34), (2, 7, 36), (2, 8, 38), (2, 9, 45), (2, 11, 46), (3, 0, 4), (3, 2, 11), (3, 3, 12), (3, 4, 13), (3, 8, 14), (3, 9, 15), (3, 10, 16), (3, 15, 17), (3, 16, 18), (3, 17, 19), (4, 0, 5), (4, 1, 6), (4, 2, 7), (4, 3, 8), (4, 4, 9), (4, 5, 10), (20, 2, 21), (20, 3, 22), (20, 4, 23), (24, 0, 25), (24, 1, 26), (24, 2, 27), (24, 3, 29), (31, 0, 47), (31, 1, 49), (31, 2, 51), (31, 3, 53), (31, 4, 55), (31, 5, 57), (31, 6, 59), (31, 7, 61), (31, 8, 63), (38, 0, 39), (38, 1, 40), (38, 2, 41), (38, 3, 42), (38, 4, 43), (38, 5, 44), (27, 0, 28), (29, 0, 30), (32, 0, 33), (34, 0, 35), (36, 0, 37), (47, 0, 48), (49, 0, 50), (51, 0, 52), (53, 0, 54), (55, 0, 56), (57, 0, 58), (59, 0, 60), (61, 0, 62), (63, 0, 64)]
def K2 (M : Mem) : Prop := ∀ x, x ∈ cstL → mG M x.1 x.2.1 = x.2.2
section
variable {M M' : Mem}
theorem K2.kp (h : K2 M) (g : ∀ x, x ∈ cstL → mG M' x.1 x.2.1 = mG M x.1 x.2.1) : K2 M' := fun x hx => (g x hx).trans (h x hx)
theorem all_cons {x : Int × Int × Int} {L : List (Int × Int × Int)} {P : Int × Int × Int → Prop} (h : P x) (k : ∀ y, y ∈ L → P y) : ∀ y, y ∈ x :: L → P y := fun y hy => by
  rcases List.mem_cons.mp hy with e | e
  · rw [e]; exact h
  · exact k y e
theorem all_nil {P : Int × Int × Int → Prop} : ∀ y, y ∈ ([] : List (Int × Int × Int)) → P y := fun y hy => absurd hy (List.not_mem_nil)
theorem K2.of {n : Nat} (iM : I n M) : K2 M := by
  unfold K2 cstL
  exact all_cons (P := fun x => mG M x.1 x.2.1 = x.2.2) (rd_Solver_0 iM rfl) (all_cons (P := fun x => mG M x.1 x.2.1 = x.2.2) (rd_Solver_1 iM rfl) (all_cons (P := fun x => mG M x.1 x.2.1 = x.2.2) (rd_Solver_2 iM rfl) (all_cons (P := fun x => mG M x.1 x.2.1 = x.2.2) (rd_Solver_3 iM rfl) (all_cons (P := fun x => mG M x.1 x.2.1 = x.2.2) (rd_Solver_5 iM rfl) (all_cons (P := fun x => mG M x.1 x.2.1 = x.2.2) (rd_Solver_6 iM rfl) (all_cons (P := fun x => mG M x.1 x.2.1 = x.2.2) (rd_Solver_7 iM rfl) (all_cons (P := fun x => mG M x.1 x.2.1 = x.2.2) (rd_Solver_8 iM rfl) (all_cons (P := fun x => mG M x.1 x.2.1 = x.2.2) (rd_Solver_9 iM rfl) (all_cons (P := fun x => mG M x.1 x.2.1 = x.2.2) (rd_Solver_11 iM rfl) (all_cons (P := fun x => mG M x.1 x.2.1 = x.2.2) (rd_Told_0 iM rfl) (all_cons (P := fun x => mG M x.1 x.2.1 = x.2.2) (rd_Told_2 iM rfl) (all_cons (P := fun x => mG M x.1 x.2.1 = x.2.2) (rd_Told_3 iM rfl) (all_cons (P := fun x => mG M x.1 x.2.1 = x.2.2) (rd_Told_4 iM rfl) (all_cons (P := fun x => mG M x.1 x.2.1 = x.2.2) (rd_Told_8 iM rfl) (all_cons (P := fun x => mG M x.1 x.2.1 = x.2.2) (rd_Told_9 iM rfl) (all_cons (P := fun x => mG M x.1 x.2.1 = x.2.2) (rd_Told_10 iM rfl) (all_cons (P := fun x => mG M x.1 x.2.1 = x.2.2) (rd_Told_15 iM rfl) (all_cons (P := fun x => mG M x.1 x.2.1 = x.2.2) (rd_Told_16 iM rfl) (all_cons (P := fun x => mG M x.1 x.2.1 = x.2.2) (rd_Told_17 iM rfl) (all_cons (P := fun x => mG M x.1 x.2.1 = x.2.2) (rd_Shape_0 iM rfl) (all_cons (P := fun x => mG M x.1 x.2.1 = x.2.2) (rd_Shape_1 iM rfl) (all_cons (P := fun x => mG M x.1 x.2.1 = x.2.2) (rd_Shape_2 iM rfl) (all_cons (P := fun x => mG M x.1 x.2.1 = x.2.2) (rd_Shape_3 iM rfl) (all_cons (P := fun x => mG M x.1 x.2.1 = x.2.2) (rd_Shape_4 iM rfl) (all_cons (P := fun x => mG M x.1 x.2.1 = x.2.2) (rd_Shape_5 iM rfl) (all_cons (P := fun x => mG M x.1 x.2.1 = x.2.2) (rd_Judge_2 iM rfl) (all_cons (P := fun x => mG M x.1 x.2.1 = x.2.2) (rd_Judge_3 iM rfl) (all_cons (P := fun x => mG M x.1 x.2.1 = x.2.2) (rd_Judge_4 iM rfl) (all_cons (P := fun x => mG M x.1 x.2.1 = x.2.2) (rd_Others_0 iM rfl) (all_cons (P := fun x => mG M x.1 x.2.1 = x.2.2) (rd_Others_1 iM rfl) (all_cons (P := fun x => mG M x.1 x.2.1 = x.2.2) (rd_Others_2 iM rfl) (all_cons (P := fun x => mG M x.1 x.2.1 = x.2.2) (rd_Others_3 iM rfl) (all_cons (P := fun x => mG M x.1 x.2.1 = x.2.2) (rd_Vtruths (i := 0) iM rfl (by decide) (by decide)) (all_cons (P := fun x => mG M x.1 x.2.1 = x.2.2) (rd_Vtruths (i := 1) iM rfl (by decide) (by decide)) (all_cons (P := fun x => mG M x.1 x.2.1 = x.2.2) (rd_Vtruths (i := 2) iM rfl (by decide) (by decide)) (all_cons (P := fun x => mG M x.1 x.2.1 = x.2.2) (rd_Vtruths (i := 3) iM rfl (by decide) (by decide)) (all_cons (P := fun x => mG M x.1 x.2.1 = x.2.2) (rd_Vtruths (i := 4) iM rfl (by decide) (by decide)) (all_cons (P := fun x => mG M x.1 x.2.1 = x.2.2) (rd_Vtruths (i := 5) iM rfl (by decide) (by decide)) (all_cons (P := fun x => mG M x.1 x.2.1 = x.2.2) (rd_Vtruths (i := 6) iM rfl (by decide) (by decide)) (all_cons (P := fun x => mG M x.1 x.2.1 = x.2.2) (rd_Vtruths (i := 7) iM rfl (by decide) (by decide)) (all_cons (P := fun x => mG M x.1 x.2.1 = x.2.2) (rd_Vtruths (i := 8) iM rfl (by decide) (by decide)) (all_cons (P := fun x => mG M x.1 x.2.1 = x.2.2) (rd_Shape_0 iM rfl) (all_cons (P := fun x => mG M x.1 x.2.1 = x.2.2) (rd_Shape_1 iM rfl) (all_cons (P := fun x => mG M x.1 x.2.1 = x.2.2) (rd_Shape_2 iM rfl) (all_cons (P := fun x => mG M x.1 x.2.1 = x.2.2) (rd_Shape_3 iM rfl) (all_cons (P := fun x => mG M x.1 x.2.1 = x.2.2) (rd_Shape_4 iM rfl) (all_cons (P := fun x => mG M x.1 x.2.1 = x.2.2) (rd_Shape_5 iM rfl) (all_cons (P := fun x => mG M x.1 x.2.1 = x.2.2) (rd_WS_0 iM rfl) (all_cons (P := fun x => mG M x.1 x.2.1 = x.2.2) (rd_WS_0 iM rfl) (all_cons (P := fun x => mG M x.1 x.2.1 = x.2.2) (rd_WS_0 iM rfl) (all_cons (P := fun x => mG M x.1 x.2.1 = x.2.2) (rd_WS_0 iM rfl) (all_cons (P := fun x => mG M x.1 x.2.1 = x.2.2) (rd_WS_0 iM rfl) (all_cons (P := fun x => mG M x.1 x.2.1 = x.2.2) (rd_WS_0 iM rfl) (all_cons (P := fun x => mG M x.1 x.2.1 = x.2.2) (rd_WS_0 iM rfl) (all_cons (P := fun x => mG M x.1 x.2.1 = x.2.2) (rd_WS_0 iM rfl) (all_cons (P := fun x => mG M x.1 x.2.1 = x.2.2) (rd_WS_0 iM rfl) (all_cons (P := fun x => mG M x.1 x.2.1 = x.2.2) (rd_WS_0 iM rfl) (all_cons (P := fun x => mG M x.1 x.2.1 = x.2.2) (rd_WS_0 iM rfl) (all_cons (P := fun x => mG M x.1 x.2.1 = x.2.2) (rd_WS_0 iM rfl) (all_cons (P := fun x => mG M x.1 x.2.1 = x.2.2) (rd_WS_0 iM rfl) (all_cons (P := fun x => mG M x.1 x.2.1 = x.2.2) (rd_WS_0 iM rfl) (all_nil))))))))))))))))))))))))))))))))))))))))))))))))))))))))))))))
theorem K2.c2_0 (h : K2 M) : mG M 2 0 = 3 := h (2, 0, 3) (by decide)
theorem K2.c2_1 (h : K2 M) : mG M 2 1 = 20 := h (2, 1, 20) (by decide)
theorem K2.c2_2 (h : K2 M) : mG M 2 2 = 24 := h (2, 2, 24) (by decide)
theorem K2.c2_3 (h : K2 M) : mG M 2 3 = 31 := h (2, 3, 31) (by decide)
theorem K2.c2_5 (h : K2 M) : mG M 2 5 = 32 := h (2, 5, 32) (by decide)
theorem K2.c2_6 (h : K2 M) : mG M 2 6 = 34 := h (2, 6, 34) (by decide)
theorem K2.c2_7 (h : K2 M) : mG M 2 7 = 36 := h (2, 7, 36) (by decide)
theorem K2.c2_8 (h : K2 M) : mG M 2 8 = 38 := h (2, 8, 38) (by decide)
theorem K2.c2_9 (h : K2 M) : mG M 2 9 = 45 := h (2, 9, 45) (by decide)
theorem K2.c2_11 (h : K2 M) : mG M 2 11 = 46 := h (2, 11, 46) (by decide)
theorem K2.c3_0 (h : K2 M) : mG M 3 0 = 4 := h (3, 0, 4) (by decide)
theorem K2.c3_2 (h : K2 M) : mG M 3 2 = 11 := h (3, 2, 11) (by decide)
theorem K2.c3_3 (h : K2 M) : mG M 3 3 = 12 := h (3, 3, 12) (by decide)
theorem K2.c3_4 (h : K2 M) : mG M 3 4 = 13 := h (3, 4, 13) (by decide)
theorem K2.c3_8 (h : K2 M) : mG M 3 8 = 14 := h (3, 8, 14) (by decide)
theorem K2.c3_9 (h : K2 M) : mG M 3 9 = 15 := h (3, 9, 15) (by decide)
theorem K2.c3_10 (h : K2 M) : mG M 3 10 = 16 := h (3, 10, 16) (by decide)
theorem K2.c3_15 (h : K2 M) : mG M 3 15 = 17 := h (3, 15, 17) (by decide)
theorem K2.c3_16 (h : K2 M) : mG M 3 16 = 18 := h (3, 16, 18) (by decide)
theorem K2.c3_17 (h : K2 M) : mG M 3 17 = 19 := h (3, 17, 19) (by decide)
theorem K2.c4_0 (h : K2 M) : mG M 4 0 = 5 := h (4, 0, 5) (by decide)
theorem K2.c4_1 (h : K2 M) : mG M 4 1 = 6 := h (4, 1, 6) (by decide)
theorem K2.c4_2 (h : K2 M) : mG M 4 2 = 7 := h (4, 2, 7) (by decide)
theorem K2.c4_3 (h : K2 M) : mG M 4 3 = 8 := h (4, 3, 8) (by decide)
theorem K2.c4_4 (h : K2 M) : mG M 4 4 = 9 := h (4, 4, 9) (by decide)
theorem K2.c4_5 (h : K2 M) : mG M 4 5 = 10 := h (4, 5, 10) (by decide)
theorem K2.c20_2 (h : K2 M) : mG M 20 2 = 21 := h (20, 2, 21) (by decide)
theorem K2.c20_3 (h : K2 M) : mG M 20 3 = 22 := h (20, 3, 22) (by decide)
theorem K2.c20_4 (h : K2 M) : mG M 20 4 = 23 := h (20, 4, 23) (by decide)
theorem K2.c24_0 (h : K2 M) : mG M 24 0 = 25 := h (24, 0, 25) (by decide)
theorem K2.c24_1 (h : K2 M) : mG M 24 1 = 26 := h (24, 1, 26) (by decide)
theorem K2.c24_2 (h : K2 M) : mG M 24 2 = 27 := h (24, 2, 27) (by decide)
theorem K2.c24_3 (h : K2 M) : mG M 24 3 = 29 := h (24, 3, 29) (by decide)
theorem K2.c31_0 (h : K2 M) : mG M 31 0 = 47 := h (31, 0, 47) (by decide)
theorem K2.c31_1 (h : K2 M) : mG M 31 1 = 49 := h (31, 1, 49) (by decide)
theorem K2.c31_2 (h : K2 M) : mG M 31 2 = 51 := h (31, 2, 51) (by decide)
theorem K2.c31_3 (h : K2 M) : mG M 31 3 = 53 := h (31, 3, 53) (by decide)
theorem K2.c31_4 (h : K2 M) : mG M 31 4 = 55 := h (31, 4, 55) (by decide)
theorem K2.c31_5 (h : K2 M) : mG M 31 5 = 57 := h (31, 5, 57) (by decide)
theorem K2.c31_6 (h : K2 M) : mG M 31 6 = 59 := h (31, 6, 59) (by decide)
theorem K2.c31_7 (h : K2 M) : mG M 31 7 = 61 := h (31, 7, 61) (by decide)
theorem K2.c31_8 (h : K2 M) : mG M 31 8 = 63 := h (31, 8, 63) (by decide)
theorem K2.c38_0 (h : K2 M) : mG M 38 0 = 39 := h (38, 0, 39) (by decide)
theorem K2.c38_1 (h : K2 M) : mG M 38 1 = 40 := h (38, 1, 40) (by decide)
theorem K2.c38_2 (h : K2 M) : mG M 38 2 = 41 := h (38, 2, 41) (by decide)
theorem K2.c38_3 (h : K2 M) : mG M 38 3 = 42 := h (38, 3, 42) (by decide)
theorem K2.c38_4 (h : K2 M) : mG M 38 4 = 43 := h (38, 4, 43) (by decide)
theorem K2.c38_5 (h : K2 M) : mG M 38 5 = 44 := h (38, 5, 44) (by decide)
theorem K2.c27_0 (h : K2 M) : mG M 27 0 = 28 := h (27, 0, 28) (by decide)
theorem K2.c29_0 (h : K2 M) : mG M 29 0 = 30 := h (29, 0, 30) (by decide)
theorem K2.c32_0 (h : K2 M) : mG M 32 0 = 33 := h (32, 0, 33) (by decide)
theorem K2.c34_0 (h : K2 M) : mG M 34 0 = 35 := h (34, 0, 35) (by decide)
theorem K2.c36_0 (h : K2 M) : mG M 36 0 = 37 := h (36, 0, 37) (by decide)
theorem K2.c47_0 (h : K2 M) : mG M 47 0 = 48 := h (47, 0, 48) (by decide)
theorem K2.c49_0 (h : K2 M) : mG M 49 0 = 50 := h (49, 0, 50) (by decide)
theorem K2.c51_0 (h : K2 M) : mG M 51 0 = 52 := h (51, 0, 52) (by decide)
theorem K2.c53_0 (h : K2 M) : mG M 53 0 = 54 := h (53, 0, 54) (by decide)
theorem K2.c55_0 (h : K2 M) : mG M 55 0 = 56 := h (55, 0, 56) (by decide)
theorem K2.c57_0 (h : K2 M) : mG M 57 0 = 58 := h (57, 0, 58) (by decide)
theorem K2.c59_0 (h : K2 M) : mG M 59 0 = 60 := h (59, 0, 60) (by decide)
theorem K2.c61_0 (h : K2 M) : mG M 61 0 = 62 := h (61, 0, 62) (by decide)
theorem K2.c63_0 (h : K2 M) : mG M 63 0 = 64 := h (63, 0, 64) (by decide)
theorem cst_out : ∀ x, x ∈ cstL → ¬ x.1 = 33 ∧ ¬ x.1 = 35 ∧ ¬ x.1 = 37 ∧ ¬ x.1 = 28 ∧ ¬ x.1 = 30 ∧ (¬ 48 ≤ x.1 ∨ x.2.1 = 0 ∧ x.1 % 2 = 1) ∧ ¬ x.1 = 21 ∧ ¬ x.1 = 22 ∧ ¬ x.1 = 23 ∧ ¬ x.1 = 25 ∧ ¬ x.1 = 26 ∧ ¬ (39 ≤ x.1 ∧ x.1 ≤ 46) ∧ (x.2.1 = 1 ∨ x.2.1 = 2 → x.1 = 2 ∨ x.1 = 3 ∨ x.1 = 4 ∨ x.1 = 20 ∨ x.1 = 24 ∨ x.1 = 31 ∨ x.1 = 38) ∧ ¬ (x.1 = 2 ∧ (x.2.1 = 4 ∨ x.2.1 = 10)) ∧ ¬ (x.1 = 20 ∧ (x.2.1 = 0 ∨ x.2.1 = 1 ∨ x.2.1 = 5)) ∧ ¬ (x.1 = 24 ∧ 4 ≤ x.2.1) ∧ ¬ ((x.1 = 4 ∨ x.1 = 38) ∧ 6 ≤ x.2.1) ∧ (2 ≤ x.1 ∧ x.1 ≤ 63) := by decide +kernel
theorem K2.fx (h : K2 M) {l : Int} (k : FX l M M') (hl : l = 33 ∨ l = 35 ∨ l = 37 ∨ l = 28 ∨ l = 30 ∨ (48 ≤ l ∧ l % 2 = 0) ∨ (l = 21 ∨ l = 22 ∨ l = 23 ∨ l = 25 ∨ l = 26) ∨ (39 ≤ l ∧ l ≤ 46)) : K2 M' := h.kp (fun x hx => k _ _ (fun e => by
  have c := cst_out x hx
  omega))
theorem K2.fw (h : K2 M) {l : Int} (k : FW l M M') (hl : l = 32 ∨ l = 34 ∨ l = 36 ∨ l = 27 ∨ l = 29 ∨ (47 ≤ l ∧ l % 2 = 1)) : K2 M' := h.kp (fun x hx => by
  have c := cst_out x hx
  exact k _ _ (fun e => by omega) (fun e => by omega))
theorem K2.st (h : K2 M) {c i x : Int} (hM : M' = mS M c i x) (hl : (c = 2 ∧ (i = 4 ∨ i = 10)) ∨ (c = 20 ∧ (i = 0 ∨ i = 1 ∨ i = 5)) ∨ (c = 24 ∧ 4 ≤ i) ∨ ((c = 4 ∨ c = 38) ∧ 6 ≤ i) ∨ (21 ≤ c ∧ c ≤ 23) ∨ (25 ≤ c ∧ c ≤ 26) ∨ (39 ≤ c ∧ c ≤ 46)) : K2 M' := h.kp (fun y hy => by
  have cc := cst_out y hy
  exact st_ne hM (fun e => by omega))
theorem K2.ws (h : K2 M) {s : Nat} (hs : s < 9) : mG M 31 (s : Int) = 47 + 2 * (s : Int) ∧ mG M (47 + 2 * (s : Int)) 0 = 47 + 2 * (s : Int) + 1 := by
  have m : ∀ s : Nat, s < 9 → ((31, (s : Int), 47 + 2 * (s : Int)) : Int × Int × Int) ∈ cstL ∧ ((47 + 2 * (s : Int), 0, 47 + 2 * (s : Int) + 1) : Int × Int × Int) ∈ cstL := by decide +kernel
  exact ⟨h _ (m s hs).1, h _ (m s hs).2⟩
end
def k9L : List (Int × Int × Int) := [(126, 1, 127), (126, 2, 128), (126, 3, 129), (126, 4, 130), (126, 5, 131), (126, 6, 132), (126, 7, 133), (126, 8, 134), (126, 9, 135), (126, 10, 136), (126, 11, 137), (126, 12, 138), (126, 13, 139), (126, 14, 140), (126, 15, 141), (126, 16, 142), (126, 17, 143), (126, 18, 144), (126, 19, 145), (126, 20, 146), (126, 21, 147), (126, 22, 148), (126, 23, 149), (126, 24, 150), (126, 25, 151), (126, 26, 152), (126, 27, 153), (126, 28, 154), (126, 39, 155), (126, 41, 156), (126, 42, 157), (126, 43, 158), (126, 44, 159), (126, 45, 160), (126, 47, 161), (126, 51, 162), (126, 55, 163), (126, 56, 164), (126, 58, 165), (126, 59, 166), (126, 60, 167), (126, 61, 168), (126, 62, 169)]
def K9 (M : Mem) : Prop := ∀ x, x ∈ k9L → mG M x.1 x.2.1 = x.2.2
section
variable {M M' : Mem}
theorem k9_in : ∀ x, x ∈ k9L → x.1 = 126 ∧ ((1 ≤ x.2.1 ∧ x.2.1 ≤ 28) ∨ x.2.1 = 39 ∨ (41 ≤ x.2.1 ∧ x.2.1 ≤ 45) ∨ x.2.1 = 47 ∨ x.2.1 = 51 ∨ x.2.1 = 55 ∨ x.2.1 = 56 ∨ (58 ≤ x.2.1 ∧ x.2.1 ≤ 62)) := by decide +kernel
theorem K9.kp (h : K9 M) (g : ∀ j : Int, ((1 ≤ j ∧ j ≤ 28) ∨ j = 39 ∨ (41 ≤ j ∧ j ≤ 45) ∨ j = 47 ∨ j = 51 ∨ j = 55 ∨ j = 56 ∨ (58 ≤ j ∧ j ≤ 62)) → mG M' 126 j = mG M 126 j) : K9 M' := fun x hx => by
  obtain ⟨e, z⟩ := k9_in x hx
  have := h x hx
  rw [e] at this ⊢
  exact (g _ z).trans this
theorem K9.of {n : Nat} (iM : I n M) : K9 M := by
  unfold K9 k9L
  exact all_cons (P := fun x => mG M x.1 x.2.1 = x.2.2) (rd_Model_1 iM rfl) (all_cons (P := fun x => mG M x.1 x.2.1 = x.2.2) (rd_Model_2 iM rfl) (all_cons (P := fun x => mG M x.1 x.2.1 = x.2.2) (rd_Model_3 iM rfl) (all_cons (P := fun x => mG M x.1 x.2.1 = x.2.2) (rd_Model_4 iM rfl) (all_cons (P := fun x => mG M x.1 x.2.1 = x.2.2) (rd_Model_5 iM rfl) (all_cons (P := fun x => mG M x.1 x.2.1 = x.2.2) (rd_Model_6 iM rfl) (all_cons (P := fun x => mG M x.1 x.2.1 = x.2.2) (rd_Model_7 iM rfl) (all_cons (P := fun x => mG M x.1 x.2.1 = x.2.2) (rd_Model_8 iM rfl) (all_cons (P := fun x => mG M x.1 x.2.1 = x.2.2) (rd_Model_9 iM rfl) (all_cons (P := fun x => mG M x.1 x.2.1 = x.2.2) (rd_Model_10 iM rfl) (all_cons (P := fun x => mG M x.1 x.2.1 = x.2.2) (rd_Model_11 iM rfl) (all_cons (P := fun x => mG M x.1 x.2.1 = x.2.2) (rd_Model_12 iM rfl) (all_cons (P := fun x => mG M x.1 x.2.1 = x.2.2) (rd_Model_13 iM rfl) (all_cons (P := fun x => mG M x.1 x.2.1 = x.2.2) (rd_Model_14 iM rfl) (all_cons (P := fun x => mG M x.1 x.2.1 = x.2.2) (rd_Model_15 iM rfl) (all_cons (P := fun x => mG M x.1 x.2.1 = x.2.2) (rd_Model_16 iM rfl) (all_cons (P := fun x => mG M x.1 x.2.1 = x.2.2) (rd_Model_17 iM rfl) (all_cons (P := fun x => mG M x.1 x.2.1 = x.2.2) (rd_Model_18 iM rfl) (all_cons (P := fun x => mG M x.1 x.2.1 = x.2.2) (rd_Model_19 iM rfl) (all_cons (P := fun x => mG M x.1 x.2.1 = x.2.2) (rd_Model_20 iM rfl) (all_cons (P := fun x => mG M x.1 x.2.1 = x.2.2) (rd_Model_21 iM rfl) (all_cons (P := fun x => mG M x.1 x.2.1 = x.2.2) (rd_Model_22 iM rfl) (all_cons (P := fun x => mG M x.1 x.2.1 = x.2.2) (rd_Model_23 iM rfl) (all_cons (P := fun x => mG M x.1 x.2.1 = x.2.2) (rd_Model_24 iM rfl) (all_cons (P := fun x => mG M x.1 x.2.1 = x.2.2) (rd_Model_25 iM rfl) (all_cons (P := fun x => mG M x.1 x.2.1 = x.2.2) (rd_Model_26 iM rfl) (all_cons (P := fun x => mG M x.1 x.2.1 = x.2.2) (rd_Model_27 iM rfl) (all_cons (P := fun x => mG M x.1 x.2.1 = x.2.2) (rd_Model_28 iM rfl) (all_cons (P := fun x => mG M x.1 x.2.1 = x.2.2) (rd_Model_39 iM rfl) (all_cons (P := fun x => mG M x.1 x.2.1 = x.2.2) (rd_Model_41 iM rfl) (all_cons (P := fun x => mG M x.1 x.2.1 = x.2.2) (rd_Model_42 iM rfl) (all_cons (P := fun x => mG M x.1 x.2.1 = x.2.2) (rd_Model_43 iM rfl) (all_cons (P := fun x => mG M x.1 x.2.1 = x.2.2) (rd_Model_44 iM rfl) (all_cons (P := fun x => mG M x.1 x.2.1 = x.2.2) (rd_Model_45 iM rfl) (all_cons (P := fun x => mG M x.1 x.2.1 = x.2.2) (rd_Model_47 iM rfl) (all_cons (P := fun x => mG M x.1 x.2.1 = x.2.2) (rd_Model_51 iM rfl) (all_cons (P := fun x => mG M x.1 x.2.1 = x.2.2) (rd_Model_55 iM rfl) (all_cons (P := fun x => mG M x.1 x.2.1 = x.2.2) (rd_Model_56 iM rfl) (all_cons (P := fun x => mG M x.1 x.2.1 = x.2.2) (rd_Model_58 iM rfl) (all_cons (P := fun x => mG M x.1 x.2.1 = x.2.2) (rd_Model_59 iM rfl) (all_cons (P := fun x => mG M x.1 x.2.1 = x.2.2) (rd_Model_60 iM rfl) (all_cons (P := fun x => mG M x.1 x.2.1 = x.2.2) (rd_Model_61 iM rfl) (all_cons (P := fun x => mG M x.1 x.2.1 = x.2.2) (rd_Model_62 iM rfl) (all_nil)))))))))))))))))))))))))))))))))))))))))))
theorem K9.c1 (h : K9 M) : mG M 126 1 = 127 := h (126, 1, 127) (by decide)
theorem K9.c2 (h : K9 M) : mG M 126 2 = 128 := h (126, 2, 128) (by decide)
theorem K9.c3 (h : K9 M) : mG M 126 3 = 129 := h (126, 3, 129) (by decide)
theorem K9.c4 (h : K9 M) : mG M 126 4 = 130 := h (126, 4, 130) (by decide)
theorem K9.c5 (h : K9 M) : mG M 126 5 = 131 := h (126, 5, 131) (by decide)
theorem K9.c6 (h : K9 M) : mG M 126 6 = 132 := h (126, 6, 132) (by decide)
theorem K9.c7 (h : K9 M) : mG M 126 7 = 133 := h (126, 7, 133) (by decide)
theorem K9.c8 (h : K9 M) : mG M 126 8 = 134 := h (126, 8, 134) (by decide)
theorem K9.c9 (h : K9 M) : mG M 126 9 = 135 := h (126, 9, 135) (by decide)
theorem K9.c10 (h : K9 M) : mG M 126 10 = 136 := h (126, 10, 136) (by decide)
theorem K9.c11 (h : K9 M) : mG M 126 11 = 137 := h (126, 11, 137) (by decide)
theorem K9.c12 (h : K9 M) : mG M 126 12 = 138 := h (126, 12, 138) (by decide)
theorem K9.c13 (h : K9 M) : mG M 126 13 = 139 := h (126, 13, 139) (by decide)
theorem K9.c14 (h : K9 M) : mG M 126 14 = 140 := h (126, 14, 140) (by decide)
theorem K9.c15 (h : K9 M) : mG M 126 15 = 141 := h (126, 15, 141) (by decide)
theorem K9.c16 (h : K9 M) : mG M 126 16 = 142 := h (126, 16, 142) (by decide)
theorem K9.c17 (h : K9 M) : mG M 126 17 = 143 := h (126, 17, 143) (by decide)
theorem K9.c18 (h : K9 M) : mG M 126 18 = 144 := h (126, 18, 144) (by decide)
theorem K9.c19 (h : K9 M) : mG M 126 19 = 145 := h (126, 19, 145) (by decide)
theorem K9.c20 (h : K9 M) : mG M 126 20 = 146 := h (126, 20, 146) (by decide)
theorem K9.c21 (h : K9 M) : mG M 126 21 = 147 := h (126, 21, 147) (by decide)
theorem K9.c22 (h : K9 M) : mG M 126 22 = 148 := h (126, 22, 148) (by decide)
theorem K9.c23 (h : K9 M) : mG M 126 23 = 149 := h (126, 23, 149) (by decide)
theorem K9.c24 (h : K9 M) : mG M 126 24 = 150 := h (126, 24, 150) (by decide)
theorem K9.c25 (h : K9 M) : mG M 126 25 = 151 := h (126, 25, 151) (by decide)
theorem K9.c26 (h : K9 M) : mG M 126 26 = 152 := h (126, 26, 152) (by decide)
theorem K9.c27 (h : K9 M) : mG M 126 27 = 153 := h (126, 27, 153) (by decide)
theorem K9.c28 (h : K9 M) : mG M 126 28 = 154 := h (126, 28, 154) (by decide)
theorem K9.c39 (h : K9 M) : mG M 126 39 = 155 := h (126, 39, 155) (by decide)
theorem K9.c41 (h : K9 M) : mG M 126 41 = 156 := h (126, 41, 156) (by decide)
theorem K9.c42 (h : K9 M) : mG M 126 42 = 157 := h (126, 42, 157) (by decide)
theorem K9.c43 (h : K9 M) : mG M 126 43 = 158 := h (126, 43, 158) (by decide)
theorem K9.c44 (h : K9 M) : mG M 126 44 = 159 := h (126, 44, 159) (by decide)
theorem K9.c45 (h : K9 M) : mG M 126 45 = 160 := h (126, 45, 160) (by decide)
theorem K9.c47 (h : K9 M) : mG M 126 47 = 161 := h (126, 47, 161) (by decide)
theorem K9.c51 (h : K9 M) : mG M 126 51 = 162 := h (126, 51, 162) (by decide)
theorem K9.c55 (h : K9 M) : mG M 126 55 = 163 := h (126, 55, 163) (by decide)
theorem K9.c56 (h : K9 M) : mG M 126 56 = 164 := h (126, 56, 164) (by decide)
theorem K9.c58 (h : K9 M) : mG M 126 58 = 165 := h (126, 58, 165) (by decide)
theorem K9.c59 (h : K9 M) : mG M 126 59 = 166 := h (126, 59, 166) (by decide)
theorem K9.c60 (h : K9 M) : mG M 126 60 = 167 := h (126, 60, 167) (by decide)
theorem K9.c61 (h : K9 M) : mG M 126 61 = 168 := h (126, 61, 168) (by decide)
theorem K9.c62 (h : K9 M) : mG M 126 62 = 169 := h (126, 62, 169) (by decide)
end
