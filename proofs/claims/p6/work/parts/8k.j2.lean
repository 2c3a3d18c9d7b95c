/-! ===== both sides alike: tapes, stories, guess, what is known, what is kept ===== -/
theorem rowOK.mono {nr nr' sc bo : Int} {k1 k2 k1' k2' : Int → Int} {r : Row} (h : rowOK nr k1 k2 sc bo r) (hn : nr ≤ nr') (e : ∀ r, 0 ≤ r → r < nr → k1' r = k1 r ∧ k2' r = k2 r) : rowOK nr' k1' k2' sc bo r := by
  unfold rowOK at h ⊢
  rcases h with h | h | h | ⟨a, b, c, d, f, g⟩ | ⟨a, b, c, d, f⟩ | ⟨a, b, c, d, f, g⟩ | ⟨a, b, c, d, f, g⟩
  · exact Or.inl h
  · exact Or.inr (Or.inl h)
  · exact Or.inr (Or.inr (Or.inl h))
  · obtain ⟨e1, e2⟩ := e _ d.1 d.2
    exact Or.inr (Or.inr (Or.inr (Or.inl ⟨a, b, c, ⟨d.1, by omega⟩, by rw [e1, e2]; exact f, g⟩)))
  · obtain ⟨e1, e2⟩ := e _ d.1 d.2
    exact Or.inr (Or.inr (Or.inr (Or.inr (Or.inl ⟨a, b, c, ⟨d.1, by omega⟩, by rw [e1, e2]; exact f⟩))))
  · obtain ⟨e1, e2⟩ := e _ d.1 d.2
    exact Or.inr (Or.inr (Or.inr (Or.inr (Or.inr (Or.inl ⟨a, b, c, ⟨d.1, by omega⟩, by rw [e2]; exact f, g⟩)))))
  · obtain ⟨e1, e2⟩ := e _ d.1 d.2
    exact Or.inr (Or.inr (Or.inr (Or.inr (Or.inr (Or.inr ⟨a, b, c, ⟨d.1, by omega⟩, by rw [e2]; exact f, g⟩)))))
theorem ty.mono {nr nr' : Int} {k1 k2 k1' k2' : Int → Int} (hn : nr ≤ nr') (e : ∀ r, 0 ≤ r → r < nr → k1' r = k1 r ∧ k2' r = k2 r) : ∀ (ps : List Row) (ws : List (Int × Int)), ty nr k1 k2 ws ps → ty nr' k1' k2' ws ps := by
  intro ps
  induction ps with
  | nil =>
    intro ws h
    cases ws with
    | nil => exact rfl
    | cons x ws => exact h
  | cons p ps ih =>
    intro ws h
    cases ws with
    | nil => exact absurd h id
    | cons x ws => exact ⟨h.1.mono hn e, ih _ h.2⟩
/-- one text on both sides -/
def TXR (i t u : Int) (M : Mem) : Prop := ¬ t = 0 ∧ ∃ ps : List Row, TT ps t M ∧ RT ps u M ∧ ty (mG M 134 i) (fun r => mG M 135 (4 * i + r)) (fun r => mG M 136 (4 * i + r)) [(0, 255)] ps
theorem TXR.go {n : Nat} {i i' t u u' : Int} {M M' : Mem} (h : TXR i t u M) (ht : 169 < t ∧ t + 5 ≤ (n : Int)) (g : ∀ b j : Int, 169 < b → b ≤ (n : Int) → mG M' b j = mG M b j) (g1 : mG M' 141 u' = mG M 141 u) (g2 : ∀ c j : Int, 142 ≤ c → c ≤ 145 → 0 ≤ j → j < 40 → mG M' c (40 * u' + j) = mG M c (40 * u + j)) (g3 : mG M 134 i ≤ mG M' 134 i') (g4 : ∀ c r : Int, 135 ≤ c → c ≤ 136 → 0 ≤ r → r < mG M 134 i → mG M' c (4 * i' + r) = mG M c (4 * i + r)) : TXR i' t u' M' := by
  obtain ⟨h0, ps, h1, h2, h3⟩ := h
  exact ⟨h0, ps, h1.of (fun b j b0 b1 => g b j (by omega) (by omega)), h2.of h1.1.1 g1 g2, ty.mono g3 (fun r r0 r1 => ⟨g4 135 r (by decide) (by decide) r0 r1, g4 136 r (by decide) (by decide) r0 r1⟩) _ _ h3⟩
def Sa (i : Int) (M : Mem) : Prop := ∀ j : Int, 0 ≤ j → j < mG M 128 i → mG M (sOf i + 10) j = iand (mG M 127 (400 * i + j)) 255
def Sb (i : Int) (M : Mem) : Prop := mG M (sOf i) 11 = mG M 138 i ∧ ∀ s : Int, 0 ≤ s → s < mG M 138 i → mG M (sOf i + 12) s = mG M 139 (8 * i + s) ∧ mG M (sOf i + 13) s = mG M 140 (8 * i + s) ∧ TXR i (mG M (sOf i + 11) s) (9 * i + s) M
def Sc (i : Int) (M : Mem) : Prop := (mG M (sOf i) 12 = 0 ∧ mG M 141 (9 * i + 8) = 0) ∨ TXR i (mG M (sOf i) 12) (9 * i + 8) M
def Sd (i : Int) (M : Mem) : Prop := ∀ k : Int, 0 ≤ k → k < mG M 146 i → mG M (sOf i + 14) k = mG M 147 (40 * i + k) ∧ mG M (sOf i + 15) k = mG M 148 (40 * i + k) ∧ mG M (sOf i + 16) k = mG M 149 (40 * i + k)
def Se (i : Int) (M : Mem) : Prop := ∀ p : Int, 0 ≤ p → p < 4 → mG M (sOf i + 9) p = mG M 151 (4 * i + p)
def S2 (i : Int) (M : Mem) : Prop := Sa i M ∧ Sb i M ∧ Sc i M ∧ Sd i M ∧ Se i M
def Rel2 (M : Mem) : Prop := ∀ i : Int, 0 ≤ i → i < 4 → (i = 0 ∨ mG M 169 (i - 1) = 1) → S2 i M
def J2 (M : Mem) : Prop := J M ∧ Rel2 M
theorem isTold_s {i : Int} (h0 : 0 ≤ i) (h1 : i < 4) : isTold (sOf i) := by
  unfold isTold
  rcases sOf_c h0 h1 with ⟨e, e2⟩ | ⟨e, e2⟩
  · exact Or.inl e2
  · rw [e2]; omega
/-- where a text of a slot stands -/
theorem tx_at {n : Nat} {i s : Int} {M : Mem} (iM : I n M) (h0 : 0 ≤ i) (h1 : i < 4) (s0 : 0 ≤ s) (s1 : s < 8) (h : ¬ mG M (sOf i + 11) s = 0) : 169 < mG M (sOf i + 11) s ∧ mG M (sOf i + 11) s + 5 ≤ (n : Int) := by
  have := iM.2.2.1.1 (sOf i) s (isTold_s h0 h1) s0 s1
  rcases this with z | ⟨a, b, _⟩
  · exact absurd z h
  · exact ⟨a, b⟩
theorem tx_gu {n : Nat} {i : Int} {M : Mem} (iM : I n M) (h0 : 0 ≤ i) (h1 : i < 4) (h : ¬ mG M (sOf i) 12 = 0) : 169 < mG M (sOf i) 12 ∧ mG M (sOf i) 12 + 5 ≤ (n : Int) := by
  have := iM.2.2.1.2.1 (sOf i) (isTold_s h0 h1)
  rcases this with z | ⟨a, b, _⟩
  · exact absurd z h
  · exact ⟨a, b⟩
section
variable {n : Nat} {i i' : Int} {M M' : Mem}
theorem Sa.go (h : Sa i M) (iM : I n M) (hn : mG M' 128 i' = mG M 128 i) (g8 : ∀ j : Int, 0 ≤ j → j < 400 → mG M' (sOf i' + 10) j = mG M (sOf i + 10) j) (g9 : ∀ j : Int, 0 ≤ j → j < 400 → mG M' 127 (400 * i' + j) = mG M 127 (400 * i + j)) : Sa i' M' := fun j j0 j1 => by
  have r := rd_Msize iM (a := 128) (i := i) rfl
  rw [hn] at j1
  rw [g8 j j0 (by omega), g9 j j0 (by omega)]
  exact h j j0 j1
theorem Sb.go (h : Sb i M) (iM : I n M) (i0 : 0 ≤ i ∧ i < 4) (g : ∀ b j : Int, 169 < b → b ≤ (n : Int) → mG M' b j = mG M b j) (hn : mG M' 138 i' = mG M 138 i) (hc : mG M' (sOf i') 11 = mG M (sOf i) 11) (g8 : ∀ d j : Int, 11 ≤ d → d ≤ 13 → 0 ≤ j → j < 8 → mG M' (sOf i' + d) j = mG M (sOf i + d) j) (g9 : ∀ c j : Int, 139 ≤ c → c ≤ 140 → 0 ≤ j → j < 8 → mG M' c (8 * i' + j) = mG M c (8 * i + j)) (g41 : ∀ j : Int, 0 ≤ j → j < 8 → mG M' 141 (9 * i' + j) = mG M 141 (9 * i + j)) (g2 : ∀ c j : Int, 142 ≤ c → c ≤ 145 → 0 ≤ j → j < 320 → mG M' c (360 * i' + j) = mG M c (360 * i + j)) (g3 : mG M 134 i ≤ mG M' 134 i') (g4 : ∀ c r : Int, 135 ≤ c → c ≤ 136 → 0 ≤ r → r < mG M 134 i → mG M' c (4 * i' + r) = mG M c (4 * i + r)) : Sb i' M' := by
  have r := rd_Mstories iM (a := 138) (i := i) rfl
  refine ⟨by rw [hc, hn]; exact h.1, fun s s0 s1 => ?_⟩
  rw [hn] at s1
  obtain ⟨a, b, c⟩ := h.2 s s0 s1
  rw [g8 12 s (by decide) (by decide) s0 (by omega), g8 13 s (by decide) (by decide) s0 (by omega), g8 11 s (by decide) (by decide) s0 (by omega), g9 139 s (by decide) (by decide) s0 (by omega), g9 140 s (by decide) (by decide) s0 (by omega)]
  refine ⟨a, b, c.go (n := n) (tx_at iM i0.1 i0.2 s0 (by omega) c.1) g (g41 s s0 (by omega)) (fun c' j c0 c1 j0 j1 => ?_) g3 g4⟩
  have := g2 c' (40 * s + j) c0 c1 (by omega) (by omega)
  rw [show 40 * (9 * i' + s) + j = 360 * i' + (40 * s + j) by omega, show 40 * (9 * i + s) + j = 360 * i + (40 * s + j) by omega]
  exact this
theorem Sc.go (h : Sc i M) (iM : I n M) (i0 : 0 ≤ i ∧ i < 4) (g : ∀ b j : Int, 169 < b → b ≤ (n : Int) → mG M' b j = mG M b j) (hc : mG M' (sOf i') 12 = mG M (sOf i) 12) (g41 : mG M' 141 (9 * i' + 8) = mG M 141 (9 * i + 8)) (g2 : ∀ c j : Int, 142 ≤ c → c ≤ 145 → 320 ≤ j → j < 360 → mG M' c (360 * i' + j) = mG M c (360 * i + j)) (g3 : mG M 134 i ≤ mG M' 134 i') (g4 : ∀ c r : Int, 135 ≤ c → c ≤ 136 → 0 ≤ r → r < mG M 134 i → mG M' c (4 * i' + r) = mG M c (4 * i + r)) : Sc i' M' := by
  unfold Sc
  rw [hc]
  rcases h with h | h
  · exact Or.inl ⟨h.1, g41.trans h.2⟩
  · refine Or.inr (h.go (n := n) (tx_gu iM i0.1 i0.2 h.1) g g41 (fun c' j c0 c1 j0 j1 => ?_) g3 g4)
    have := g2 c' (320 + j) c0 c1 (by omega) (by omega)
    rw [show 40 * (9 * i' + 8) + j = 360 * i' + (320 + j) by omega, show 40 * (9 * i + 8) + j = 360 * i + (320 + j) by omega]
    exact this
theorem Sd.go (h : Sd i M) (iM : I n M) (hn : mG M' 146 i' = mG M 146 i) (g8 : ∀ d j : Int, 14 ≤ d → d ≤ 16 → 0 ≤ j → j < 40 → mG M' (sOf i' + d) j = mG M (sOf i + d) j) (g9 : ∀ c j : Int, 147 ≤ c → c ≤ 149 → 0 ≤ j → j < 40 → mG M' c (40 * i' + j) = mG M c (40 * i + j)) : Sd i' M' := fun k k0 k1 => by
  have r := rd_Mknowns iM (a := 146) (i := i) rfl
  rw [hn] at k1
  rw [g8 14 k (by decide) (by decide) k0 (by omega), g8 15 k (by decide) (by decide) k0 (by omega), g8 16 k (by decide) (by decide) k0 (by omega), g9 147 k (by decide) (by decide) k0 (by omega), g9 148 k (by decide) (by decide) k0 (by omega), g9 149 k (by decide) (by decide) k0 (by omega)]
  exact h k k0 k1
theorem Se.go (h : Se i M) (g8 : ∀ j : Int, 0 ≤ j → j < 4 → mG M' (sOf i' + 9) j = mG M (sOf i + 9) j) (g9 : ∀ j : Int, 0 ≤ j → j < 4 → mG M' 151 (4 * i' + j) = mG M 151 (4 * i + j)) : Se i' M' := fun p p0 p1 => by
  rw [g8 p p0 p1, g9 p p0 p1]; exact h p p0 p1
end
/-- the cells of a slot that S2 sees -/
def V2 (n : Nat) (i b j : Int) : Prop := (b = sOf i ∧ (j = 11 ∨ j = 12)) ∨ (sOf i + 9 ≤ b ∧ b ≤ sOf i + 16) ∨ (169 < b ∧ b ≤ (n : Int)) ∨ (b = 127 ∧ 400 * i ≤ j ∧ j < 400 * i + 400) ∨ ((b = 128 ∨ b = 134 ∨ b = 138 ∨ b = 146) ∧ j = i) ∨ ((b = 135 ∨ b = 136 ∨ b = 151) ∧ 4 * i ≤ j ∧ j < 4 * i + 4) ∨ ((b = 139 ∨ b = 140) ∧ 8 * i ≤ j ∧ j < 8 * i + 8) ∨ (b = 141 ∧ 9 * i ≤ j ∧ j < 9 * i + 9) ∨ ((142 ≤ b ∧ b ≤ 145) ∧ 360 * i ≤ j ∧ j < 360 * i + 360) ∨ ((147 ≤ b ∧ b ≤ 149) ∧ 40 * i ≤ j ∧ j < 40 * i + 40)
section
variable {n : Nat} {i : Int} {M M' : Mem}
theorem v_c {b j : Int} (h : sOf i + 9 ≤ b ∧ b ≤ sOf i + 16) : V2 n i b j := Or.inr (Or.inl h)
theorem v_f {j : Int} (h : j = 11 ∨ j = 12) : V2 n i (sOf i) j := Or.inl ⟨rfl, h⟩
theorem v_t {b j : Int} (h : 169 < b) (h2 : b ≤ (n : Int)) : V2 n i b j := Or.inr (Or.inr (Or.inl ⟨h, h2⟩))
theorem v_127 {j : Int} (h : 400 * i ≤ j ∧ j < 400 * i + 400) : V2 n i 127 j := Or.inr (Or.inr (Or.inr (Or.inl ⟨rfl, h⟩)))
theorem v_1 {b : Int} (h : b = 128 ∨ b = 134 ∨ b = 138 ∨ b = 146) : V2 n i b i := Or.inr (Or.inr (Or.inr (Or.inr (Or.inl ⟨h, rfl⟩))))
theorem v_4 {b j : Int} (h : b = 135 ∨ b = 136 ∨ b = 151) (h2 : 4 * i ≤ j ∧ j < 4 * i + 4) : V2 n i b j := Or.inr (Or.inr (Or.inr (Or.inr (Or.inr (Or.inl ⟨h, h2⟩)))))
theorem v_8 {b j : Int} (h : b = 139 ∨ b = 140) (h2 : 8 * i ≤ j ∧ j < 8 * i + 8) : V2 n i b j := Or.inr (Or.inr (Or.inr (Or.inr (Or.inr (Or.inr (Or.inl ⟨h, h2⟩))))))
theorem v_9 {j : Int} (h2 : 9 * i ≤ j ∧ j < 9 * i + 9) : V2 n i 141 j := Or.inr (Or.inr (Or.inr (Or.inr (Or.inr (Or.inr (Or.inr (Or.inl ⟨rfl, h2⟩)))))))
theorem v_360 {b j : Int} (h : 142 ≤ b ∧ b ≤ 145) (h2 : 360 * i ≤ j ∧ j < 360 * i + 360) : V2 n i b j := Or.inr (Or.inr (Or.inr (Or.inr (Or.inr (Or.inr (Or.inr (Or.inr (Or.inl ⟨h, h2⟩))))))))
theorem v_40 {b j : Int} (h : 147 ≤ b ∧ b ≤ 149) (h2 : 40 * i ≤ j ∧ j < 40 * i + 40) : V2 n i b j := Or.inr (Or.inr (Or.inr (Or.inr (Or.inr (Or.inr (Or.inr (Or.inr (Or.inr ⟨h, h2⟩))))))))
theorem S2.fr (h : S2 i M) (iM : I n M) (i0 : 0 ≤ i ∧ i < 4) (g : ∀ b j : Int, V2 n i b j → mG M' b j = mG M b j) : S2 i M' := by
  have hr := rd_Mrelations iM (a := 134) (i := i) rfl
  have gt : ∀ b j : Int, 169 < b → b ≤ (n : Int) → mG M' b j = mG M b j := fun b j b0 b1 => g b j (v_t b0 b1)
  have e134 : mG M' 134 i = mG M 134 i := g _ _ (v_1 (by decide))
  have g4 : ∀ c r : Int, 135 ≤ c → c ≤ 136 → 0 ≤ r → r < mG M 134 i → mG M' c (4 * i + r) = mG M c (4 * i + r) := fun c r c0 c1 r0 r1 => g _ _ (v_4 (by omega) (by omega))
  refine ⟨h.1.go iM (g _ _ (v_1 (by decide))) (fun j j0 j1 => g _ _ (v_c (by omega))) (fun j j0 j1 => g _ _ (v_127 (by omega))), h.2.1.go iM i0 gt (g _ _ (v_1 (by decide))) (g _ _ (v_f (by decide))) (fun d j d0 d1 j0 j1 => g _ _ (v_c (by omega))) (fun c j c0 c1 j0 j1 => g _ _ (v_8 (by omega) (by omega))) (fun j j0 j1 => g _ _ (v_9 (by omega))) (fun c j c0 c1 j0 j1 => g _ _ (v_360 ⟨c0, c1⟩ (by omega))) (Int.le_of_eq e134.symm) g4, h.2.2.1.go iM i0 gt (g _ _ (v_f (by decide))) (g _ _ (v_9 (by omega))) (fun c j c0 c1 j0 j1 => g _ _ (v_360 ⟨c0, c1⟩ (by omega))) (Int.le_of_eq e134.symm) g4, h.2.2.2.1.go iM (g _ _ (v_1 (by decide))) (fun d j d0 d1 j0 j1 => g _ _ (v_c (by omega))) (fun c j c0 c1 j0 j1 => g _ _ (v_40 ⟨c0, c1⟩ (by omega))), h.2.2.2.2.go (fun j j0 j1 => g _ _ (v_c (by omega))) (fun j j0 j1 => g _ _ (v_4 (by decide) (by omega)))⟩
/-- all cells that Rel2 sees -/
def RC2 (n : Nat) (b j : Int) : Prop := (b = 3 ∧ (j = 11 ∨ j = 12)) ∨ (12 ≤ b ∧ b ≤ 19) ∨ (74 ≤ b ∧ b ≤ 125) ∨ (127 ≤ b ∧ b ≤ 128) ∨ (134 ≤ b ∧ b ≤ 136) ∨ (138 ≤ b ∧ b ≤ 149) ∨ b = 151 ∨ b = 169 ∨ (169 < b ∧ b ≤ (n : Int))
theorem V2.rc {b j : Int} (i0 : 0 ≤ i ∧ i < 4) (h : V2 n i b j) : RC2 n b j := by
  unfold V2 at h
  unfold RC2
  rcases h with h | h | h | h | h | h | h | h | h | h
  · rcases sOf_c i0.1 i0.2 with ⟨e, e2⟩ | ⟨e, e2⟩
    · rw [e2] at h; exact Or.inl h
    · rw [e2] at h; exact Or.inr (Or.inr (Or.inl (by omega)))
  · rcases sOf_c i0.1 i0.2 with ⟨e, e2⟩ | ⟨e, e2⟩
    · rw [e2] at h; exact Or.inr (Or.inl (by omega))
    · rw [e2] at h; exact Or.inr (Or.inr (Or.inl (by omega)))
  · exact Or.inr (Or.inr (Or.inr (Or.inr (Or.inr (Or.inr (Or.inr (Or.inr h)))))))
  · exact Or.inr (Or.inr (Or.inr (Or.inl (by omega))))
  · obtain ⟨h, _⟩ := h
    rcases h with h | h | h | h
    · exact Or.inr (Or.inr (Or.inr (Or.inl (by omega))))
    · exact Or.inr (Or.inr (Or.inr (Or.inr (Or.inl (by omega)))))
    · exact Or.inr (Or.inr (Or.inr (Or.inr (Or.inr (Or.inl (by omega))))))
    · exact Or.inr (Or.inr (Or.inr (Or.inr (Or.inr (Or.inl (by omega))))))
  · obtain ⟨h, _⟩ := h
    rcases h with h | h | h
    · exact Or.inr (Or.inr (Or.inr (Or.inr (Or.inl (by omega)))))
    · exact Or.inr (Or.inr (Or.inr (Or.inr (Or.inl (by omega)))))
    · exact Or.inr (Or.inr (Or.inr (Or.inr (Or.inr (Or.inr (Or.inl h))))))
  · exact Or.inr (Or.inr (Or.inr (Or.inr (Or.inr (Or.inl (by omega))))))
  · exact Or.inr (Or.inr (Or.inr (Or.inr (Or.inr (Or.inl (by omega))))))
  · exact Or.inr (Or.inr (Or.inr (Or.inr (Or.inr (Or.inl (by omega))))))
  · exact Or.inr (Or.inr (Or.inr (Or.inr (Or.inr (Or.inl (by omega))))))
theorem rc_169 {j : Int} : RC2 n 169 j := Or.inr (Or.inr (Or.inr (Or.inr (Or.inr (Or.inr (Or.inr (Or.inl rfl)))))))
theorem Rel2.fr (h : Rel2 M) (iM : I n M) (g : ∀ b j : Int, RC2 n b j → mG M' b j = mG M b j) : Rel2 M' := fun i i0 i1 hi => by
  rw [g 169 _ rc_169] at hi
  exact (h i i0 i1 hi).fr iM ⟨i0, i1⟩ (fun b j z => g b j (z.rc ⟨i0, i1⟩))
/-- slot 0 is told anew, the images are as they were -/
theorem Rel2.r0 (h : Rel2 M) (iM : I n M) (h0 : S2 0 M') (g : ∀ b j : Int, (74 ≤ b ∧ b ≤ 125) ∨ b = 169 ∨ (169 < b ∧ b ≤ (n : Int)) → mG M' b j = mG M b j) (g9 : ∀ i b j : Int, 1 ≤ i → i < 4 → 126 < b → b ≤ 151 → V2 n i b j → mG M' b j = mG M b j) : Rel2 M' := fun i i0 i1 hi => by
  rw [g 169 _ (Or.inr (Or.inl rfl))] at hi
  by_cases e : i = 0
  · rw [e]; exact h0
  refine (h i i0 i1 hi).fr iM ⟨i0, i1⟩ (fun b j z => ?_)
  rcases sOf_c i0 i1 with ⟨e1, _⟩ | ⟨e1, e2⟩
  · exact absurd e1 e
  by_cases hb : 126 < b ∧ b ≤ 151
  · exact g9 i b j e1 i1 hb.1 hb.2 z
  · refine g b j ?_
    unfold V2 at z
    rw [e2] at z
    rcases z with z | z | z | z | z | z | z | z | z | z
    · exact Or.inl (by omega)
    · exact Or.inl (by omega)
    · exact Or.inr (Or.inr z)
    · exfalso; omega
    · obtain ⟨z, _⟩ := z; exfalso; omega
    · obtain ⟨z, _⟩ := z; exfalso; omega
    · obtain ⟨z, _⟩ := z; exfalso; omega
    · exfalso; omega
    · exfalso; omega
    · exfalso; omega
/-- cells of images' slots lie behind -/
theorem v_far {b j : Int} (i1 : 1 ≤ i) (i4 : i < 4) (hb : 126 < b) (hb2 : b ≤ 151) (h : V2 n i b j) : (b = 127 → 400 ≤ j) ∧ (b = 128 ∨ b = 134 ∨ b = 138 ∨ b = 146 → 1 ≤ j) ∧ (b = 135 ∨ b = 136 ∨ b = 151 → 4 ≤ j) ∧ (b = 139 ∨ b = 140 → 8 ≤ j) ∧ (b = 141 → 9 ≤ j) ∧ (142 ≤ b ∧ b ≤ 145 → 360 ≤ j) ∧ (147 ≤ b ∧ b ≤ 149 → 40 ≤ j) ∧ (127 ≤ b ∧ b ≤ 128 ∨ 134 ≤ b ∧ b ≤ 136 ∨ 138 ≤ b ∧ b ≤ 149 ∨ b = 151) := by
  unfold V2 at h
  rcases sOf_c (i := i) (by omega) i4 with ⟨e1, _⟩ | ⟨_, e2⟩
  · omega
  rw [e2] at h
  rcases h with h | h | h | h | h | h | h | h | h | h
  · exfalso; omega
  · exfalso; omega
  · exfalso; omega
  · omega
  · obtain ⟨h, h2⟩ := h; omega
  · obtain ⟨h, h2⟩ := h; omega
  · obtain ⟨h, h2⟩ := h; omega
  · omega
  · omega
  · omega
end
def SAFE8b (b j : Int) : Prop := b ≤ 2 ∨ (b = 3 ∧ (j = 1 ∨ j = 6 ∨ j = 7 ∨ j = 13 ∨ j = 14)) ∨ (4 ≤ b ∧ b ≤ 11) ∨ (20 ≤ b ∧ b ≤ 73)
def SAFE9b (b j : Int) : Prop := b = 126 ∨ (129 ≤ b ∧ b ≤ 133) ∨ b = 137 ∨ b = 150 ∨ (152 ≤ b ∧ b ≤ 168)
theorem safe8b_rc {n : Nat} {b j : Int} (h : SAFE8b b j) : ¬ RC2 n b j := by
  unfold SAFE8b at h
  intro z
  unfold RC2 at z
  rcases h with h | ⟨h, h2⟩ | h | h
  · omega
  · rcases z with ⟨_, z⟩ | z
    · omega
    · omega
  · omega
  · omega
theorem safe9b_rc {n : Nat} {b j : Int} (h : SAFE9b b j) : ¬ RC2 n b j := by
  unfold SAFE9b at h
  intro z
  unfold RC2 at z
  omega
theorem w_and3 {M : Mem} {x : Option (Int × Mem)} {y : Mem → Option (Int × Mem)} {A B : Int × Mem → Int × Mem → Prop} (h : wp x (fun q1 => wp (y q1.2) (A q1))) (k : pw x (fun q1 => pw (y q1.2) (B q1))) : wp x (fun q1 => wp (y q1.2) (fun q2 => A q1 q2 ∧ B q1 q2)) := by
  obtain ⟨q1, e1, q2, e2, a⟩ := h
  exact ⟨q1, e1, q2, e2, a, k q1 e1 q2 e2⟩
theorem rc2_n {n : Nat} {b j : Int} (h : RC2 n b j) (hn : 169 ≤ n) : b ≤ (n : Int) := by unfold RC2 at h; omega
/-- a call that changes nothing that Rel2 sees, on either side -/
theorem J2.un {M : Mem} {x : Option (Int × Mem)} {y : Mem → Option (Int × Mem)} {W8 W9 : Int → Int → Prop} {P8 P9 : Int × Mem → Prop} {A : Int × Mem → Int × Mem → Prop} (h : J2 M) (hj : wp x (fun q1 => wp (y q1.2) (A q1))) (hx : I (mN M) M → wp x (fun q => I (mN M) q.2 ∧ Keep (mN M) W8 M q.2 ∧ P8 q)) (d8 : ∀ b j, W8 b j → SAFE8b b j) (hy : ∀ M1, WF M1 → I (mN M) M1 → wp (y M1) (fun q => I (mN M) q.2 ∧ Keep (mN M) W9 M1 q.2 ∧ P9 q)) (d9 : ∀ b j, W9 b j → SAFE9b b j) : wp x (fun q1 => wp (y q1.2) (fun q2 => A q1 q2 ∧ Rel2 q2.2)) := by
  obtain ⟨⟨iM, wf, _⟩, rel⟩ := h
  refine w_and3 (M := M) hj (p_mono (p_wp (hx iM)) ?_)
  rintro q1 ⟨i1, k1, -⟩
  have hn := iM.2.2.2.2.1
  have w1 := wf.kp iM k1 (fun b j z => by
    have := d8 b j z
    unfold SAFE8b at this
    omega)
  refine p_mono (p_wp (hy _ w1 i1)) ?_
  rintro q2 ⟨i2, k2, -⟩
  exact (rel.fr iM (fun b j z => k1.2.2 b j (rc2_n z hn) (fun y => safe8b_rc (d8 b j y) z))).fr i1 (fun b j z => k2.2.2 b j (rc2_n z hn) (fun y => safe9b_rc (d9 b j y) z))
