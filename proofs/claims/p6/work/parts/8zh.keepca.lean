/-! ===== the class keeps what it has judged ===== -/
/-- cells that what is judged speaks of -/
def CC (b j : Int) : Prop := (b = 2 ∧ j = 4) ∨ (b = 3 ∧ (j = 11 ∨ j = 12)) ∨ (b = 4 ∧ j = 6) ∨ (5 ≤ b ∧ b ≤ 7) ∨ b = 14 ∨ (47 ≤ b ∧ b ≤ 64)
def NA (b j : Int) : Prop := b ≤ 169 ∧ ¬ CC b j
def NB (b j : Int) : Prop := b ≤ 125 ∧ ¬ CC b j ∧ ¬ (4 ≤ b ∧ b ≤ 10)
section
variable {n : Nat} {M M' : Mem}
theorem txs_n (iM : I n M) {s : Nat} (hs : s < 9) (h : 169 < txs M s) : txs M s + 5 ≤ (n : Int) := by
  unfold txs at h ⊢
  by_cases e : s = 8
  · rw [if_pos e] at h ⊢
    exact (tx_gu iM (i := 0) (by decide) (by decide) (show ¬ mG M 3 12 = 0 by omega)).2
  · rw [if_neg e] at h ⊢
    exact (tx_at iM (i := 0) (s := (s : Int)) (by decide) (by decide) (by omega) (by omega) (show ¬ mG M 14 (s : Int) = 0 by omega)).2
theorem CA.go2 (iM : I n M) (ca : CA (shp M) M) (h4 : mG M' 2 4 = mG M 2 4) (hs : shp M' = shp M) (hx : ∀ s : Nat, s < 9 → jb M s = true → txs M' s = txs M s ∧ (s < 8 → (s : Int) < mG M' 3 11)) (g : ∀ b j : Int, 47 ≤ b → b ≤ 64 → mG M' b j = mG M b j) (gt : ∀ b j : Int, 169 < b → b ≤ (n : Int) → mG M' b j = mG M b j) : CA (shp M') M' := by
  rw [hs]
  refine ⟨by rw [h4]; exact ca.1, fun s hs9 hj => ?_⟩
  have e : jb M' s = jb M s := by unfold jb; rw [h4]
  rw [e] at hj
  obtain ⟨a, b, c, d⟩ := ca.2 s hs9 hj
  obtain ⟨x1, x2⟩ := hx s hs9 hj
  have t5 := txs_n iM hs9 b
  rw [x1]
  exact ⟨a, b, x2, fun ps h1 h2 => (d ps (h1.of (fun b' j c0 c1 => (gt b' j (by omega) (by omega)).symm)) h2).kp (fun j => g _ j (by omega) (by omega)) (fun j => g _ j (by omega) (by omega))⟩
theorem shp_go (g : ∀ b j : Int, (b = 4 ∧ j = 6) ∨ (5 ≤ b ∧ b ≤ 7) → mG M' b j = mG M b j) : shp M' = shp M := by
  unfold shp
  rw [g 4 6 (by decide), show mG M' 5 = mG M 5 from funext (fun j => g 5 j (by omega)), show mG M' 6 = mG M 6 from funext (fun j => g 6 j (by omega)), show mG M' 7 = mG M 7 from funext (fun j => g 7 j (by omega))]
theorem CA.go (iM : I n M) (ca : CA (shp M) M) (g : ∀ b j : Int, b ≤ (n : Int) → CC b j ∨ 169 < b → mG M' b j = mG M b j) : CA (shp M') M' := by
  have hn : (169 : Int) ≤ (n : Int) := by have := iM.2.2.2.2.1; omega
  have g' : ∀ b j : Int, CC b j → mG M' b j = mG M b j := fun b j h => g b j (by unfold CC at h; omega) (Or.inl h)
  refine ca.go2 iM (g' 2 4 (by unfold CC; decide)) (shp_go (fun b j h => g' b j (by unfold CC; omega))) (fun s hs hj => ⟨?_, fun h8 => ?_⟩) (fun b j b0 b1 => g' b j (by unfold CC; omega)) (fun b j b0 b1 => g b j b1 (Or.inr b0))
  · unfold txs
    rw [g' 3 12 (by unfold CC; decide), g' 14 _ (by unfold CC; omega)]
  · rw [g' 3 11 (by unfold CC; decide)]
    exact (ca.2 s hs hj).2.2.1 h8
theorem CA.kp {W : Int → Int → Prop} (iM : I n M) (ca : CA (shp M) M) (k : Keep n W M M') (d : ∀ b j, W b j → NA b j) : CA (shp M') M' := ca.go iM (fun b j b0 h => k.2.2 b j b0 (fun z => by
  have := d b j z
  unfold NA at this
  rcases h with h | h
  · exact this.2 h
  · omega))
/-- nothing is judged -/
theorem CA.z {S : SH} (h : mG M 2 4 = 0) : CA S M := by
  refine ⟨by rw [h]; decide, fun s hs hj => ?_⟩
  unfold jb at hj
  rw [h] at hj
  simp at hj
/-! while a call runs -/
def GT (M : Mem) : Prop := mG M 3 12 = 0 ∨ (169 < mG M 3 12 ∧ ∃ ps : List Row, TT ps (mG M 3 12) M ∧ ty (shp M).nr (shp M).k1 (shp M).k2 [(0, 255)] ps)
def CI (n : Nat) (M : Mem) : Prop := I n M ∧ CA (shp M) M ∧ SHC (shp M) 4 M ∧ GT M
theorem GT.of (iM : I n M) (h : SR 0 M) (h2 : S2 0 M) : GT M := by
  obtain ⟨_, _, sc, _⟩ := h2
  unfold Sc at sc
  rw [sOf_0] at sc
  rcases sc with ⟨a, _⟩ | ⟨z, ps, t1, t2, t3⟩
  · exact Or.inl a
  · have r := shp_r h
    refine Or.inr ⟨(tx_gu iM (i := 0) (by decide) (by decide) z).1, ps, t1, ty.mono (Int.le_of_eq r.2.1) (fun x x0 x1 => ?_) _ _ t3⟩
    have := r.2.2 x x0 (by have := r.2.1; omega)
    rw [show 4 * (0 : Int) + x = x by omega]
    exact ⟨this.1.symm, this.2.symm⟩
theorem CI.of (h : J3 M) : CI (mN M) M := by
  obtain ⟨⟨⟨iM, wf, rel⟩, rel2⟩, ko, ca⟩ := h
  have sr := rel.1 0 (by decide) (by decide) (Or.inl rfl)
  have s2 := rel2 0 (by decide) (by decide) (Or.inl rfl)
  exact ⟨iM, ca, shp_c iM sr, GT.of iM sr s2⟩
/-- other cells than those are changed -/
theorem CI.kp0 (h : CI n M) (i2 : I n M') (ca : CA (shp M') M') (hs : ∀ b j : Int, 4 ≤ b → b ≤ 10 → mG M' b j = mG M b j) (h12 : mG M' 3 12 = mG M 3 12) (gt : ∀ b j : Int, 169 < b → b ≤ (n : Int) → mG M' b j = mG M b j) : CI n M' := by
  obtain ⟨iM, _, sh, g⟩ := h
  have e : shp M' = shp M := shp_go (fun b j x => hs b j (by omega) (by omega))
  refine ⟨i2, ca, ?_, ?_⟩
  · rw [e]
    exact sh.kp (fun c j c0 c1 => hs c j (by omega) (by omega))
  · unfold GT
    rw [h12, e]
    rcases g with g | ⟨g0, ps, g1, g2⟩
    · exact Or.inl g
    · have := (tx_gu iM (i := 0) (by decide) (by decide) (show ¬ mG M 3 12 = 0 by omega)).2
      replace this : mG M 3 12 + 5 ≤ (n : Int) := this
      exact Or.inr ⟨g0, ps, g1.of (fun b j b0 b1 => gt b j (by omega) (by omega)), g2⟩
theorem CI.kp {W : Int → Int → Prop} (h : CI n M) (i2 : I n M') (k : Keep n W M M') (d : ∀ b j, W b j → NB b j) : CI n M' := by
  have hn : (169 : Int) ≤ (n : Int) := by have := h.1.2.2.2.2.1; omega
  refine h.kp0 i2 (h.2.1.kp h.1 k (fun b j z => ⟨by have := (d b j z).1; omega, (d b j z).2.1⟩)) (fun b j b0 b1 => k.2.2 b j (by omega) (fun z => (d b j z).2.2 ⟨b0, b1⟩)) (k.2.2 3 12 (by omega) (fun z => (d 3 12 z).2.1 (by unfold CC; decide))) (fun b j b0 b1 => k.2.2 b j b1 (fun z => by have := (d b j z).1; omega))
theorem ci_call {β : Type} {Q : β → Prop} {x : Option (Int × Mem)} {f : Int × Mem → Option β} {W : Int → Int → Prop} {P : Int × Mem → Prop} (h : CI n M) (hx : I n M → wp x (fun q => I n q.2 ∧ Keep n W M q.2 ∧ P q)) (d : ∀ b j, W b j → NB b j) (k : ∀ r m, CI n m → P (r, m) → pw (f (r, m)) Q) : pw (x.bind f) Q :=
  p_call (p_wp (hx h.1)) (fun r m y => k r m (h.kp y.1 y.2.1 d) y.2.2)
theorem ci_look {β : Type} {Q : β → Prop} {f : Int × Mem → Option β} (h : J3 M) (hf : ∀ m, FLK M m → CI (mN M) m → pw (f (0, m)) Q) (ht : ∀ m, FLK M m → (shp m).nf ≤ 12 → CI (mN M) m → pw (f (1, m)) Q) : pw ((mX4_lookUp 2 M).bind f) Q := by
  obtain ⟨P, n, ok, hn, k2, sh, tp, rf, ve, vlt, h1, hl⟩ := look h
  have ci := CI.of h
  refine p_call (p_and hl (p_wp (s_X4_lookUp ci.1))) (fun r m y => ?_)
  obtain ⟨y1, y2, y3, _⟩ := y
  rcases y1 with ⟨a, b, c⟩ | ⟨a, b, c⟩
  · replace c : m = M := c
    replace b : r = 0 := b
    subst c; subst b
    exact hf m FLK.rf ci
  · replace b : r = 1 := b
    subst b
    obtain ⟨_, _, ca, _, fl⟩ := c
    replace fl : FLK M m := fl
    replace ca : CA (shp M) m := ca
    have e : shp m = shp M := shp_go (fun b j x => fl b j (nq_0 (by omega)))
    refine ht m fl (by rw [e, hn]; omega) (ci.kp0 y2 (by rw [e]; exact ca) (fun b j b0 b1 => fl b j (nq_0 (by omega))) (fl 3 12 (nq_0 (by omega))) (fun b j b0 b1 => fl b j (nq_0 (by omega))))
/-- the guess's truth -/
theorem ci_truth8 {β : Type} {Q : β → Prop} {f : Int × Mem → Option β} (h : CI n M) (n12 : (shp M).nf ≤ 12) (hg : ¬ mG M 3 12 = 0) (k : ∀ m, CI n m → pw (f (63, m)) Q) : pw ((mX4_truth 2 8 (mG M 3 12) M).bind f) Q := by
  obtain ⟨iM, ca, sh, g⟩ := id h
  rcases g with g | ⟨g0, ps, g1, g2⟩
  · exact absurd g hg
  have hn : (169 : Int) ≤ (n : Int) := by have := iM.2.2.2.2.1; omega
  refine p_call (p_and (q_truth (s := 8) (t := mG M 3 12) (shp_ok iM) n12 (K2.of iM) sh ca (by decide) (by unfold txs; rw [if_pos rfl]) g0 (fun x => absurd x (by decide)) g1 g2) (p_wp (s_X4_truth (l1 := 8) (by decide) (iM.2.2.1.2.1 3 (Or.inl rfl)) iM))) (fun r m y => ?_)
  obtain ⟨⟨y1, y2, _, _, y5⟩, y6, _⟩ := y
  replace y1 : r = 63 := y1
  subst y1
  replace y5 : FTs (47 + 2 * ((8 : Nat) : Int)) M m := y5
  have fl : FLK M m := y5.fl (by decide)
  have e : shp m = shp M := shp_go (fun b j x => fl b j (nq_0 (by omega)))
  exact k m (h.kp0 y6 (by rw [e]; exact y2) (fun b j b0 b1 => fl b j (nq_0 (by omega))) (fl 3 12 (nq_0 (by omega))) (fun b j b0 b1 => fl b j (nq_0 (by omega))))
end
