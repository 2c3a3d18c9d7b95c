section
/-! ===== the reference takes tokens ===== -/
/-- 64 bits: a number that isn't negative, as a natural one -/
theorem nonneg_lv {x : Int} (h0 : 0 ≤ x) (h1 : x < 9223372036854775808) : (Int64.ofInt x).toBitVec.toNat = x.toNat := by
  have h2 : (Int64.ofInt x).toInt = x := toInt_L ⟨by omega, h1⟩
  have h3 : (Int64.ofInt x).toInt = (Int64.ofInt x).toBitVec.toInt := rfl
  rw [h3, BitVec.toInt_eq_toNat_cond] at h2
  have := (Int64.ofInt x).toBitVec.isLt
  split at h2 <;> omega
theorem toInt_small64 (x : Int64) (h : x.toBitVec.toNat < 9223372036854775808) : x.toInt = (x.toBitVec.toNat : Int) := by
  show x.toBitVec.toInt = _
  rw [BitVec.toInt_eq_toNat_cond, if_pos (by omega)]
theorem lor_nat {x y : Int} (h0 : 0 ≤ x) (h1 : x < 9223372036854775808) (hy0 : 0 ≤ y) (hy1 : y < 9223372036854775808) : lor x y = ((x.toNat ||| y.toNat : Nat) : Int) := by
  unfold lor
  have e : (Int64.ofInt x ||| Int64.ofInt y).toBitVec.toNat = x.toNat ||| y.toNat := by
    rw [Int64.toBitVec_or, BitVec.toNat_or, nonneg_lv h0 h1, nonneg_lv hy0 hy1]
  have h2 : x.toNat ||| y.toNat < 2 ^ 63 := Nat.or_lt_two_pow (by omega) (by omega)
  rw [toInt_small64 _ (by rw [e]; omega), e]
theorem shl8 : ((Int32.ofInt 8).toInt64 &&& 63).toBitVec.smod 64 = 8#64 := by decide +kernel
theorem lshl8 {x : Int} (h0 : 0 ≤ x) (h1 : x < 36028797018963968) : lshl x 8 = 256 * x := by
  unfold lshl
  have e : (Int64.ofInt x <<< ((Int32.ofInt 8).toInt64 &&& 63)).toBitVec.toNat = 256 * x.toNat := by
    rw [Int64.toBitVec_shiftLeft]
    show ((Int64.ofInt x).toBitVec <<< (((Int32.ofInt 8).toInt64 &&& 63).toBitVec.smod 64)).toNat = _
    rw [shl8, BitVec.shiftLeft_eq', BitVec.toNat_shiftLeft, nonneg_lv h0 (by omega)]
    show x.toNat <<< 8 % 18446744073709551616 = _
    rw [Nat.shiftLeft_eq]
    omega
  rw [toInt_small64 _ (by rw [e]; omega), e]
  omega
theorem lor8 {x c : Int} (h0 : 0 ≤ x) (h1 : x < 36028797018963968) (c0 : 0 ≤ c) (c1 : c < 256) : lor (lshl x 8) (i2l c) = 256 * x + c := by
  rw [lshl8 h0 h1]
  show lor (256 * x) c = _
  rw [lor_nat (by omega) (by omega) c0 (by omega)]
  have e := Nat.shiftLeft_add_eq_or_of_lt (i := 8) (b := c.toNat) (by omega) x.toNat
  rw [show (256 * x).toNat = x.toNat <<< 8 by rw [Nat.shiftLeft_eq]; omega, ← e, Nat.shiftLeft_eq]
  omega
/-- bytes as one number -/
def pkR : List Int → Int
  | [] => 0
  | c :: r => 256 * pkR r + c
def pk (L : List Int) : Int := pkR L.reverse
def okB (L : List Int) : Prop := ∀ c, c ∈ L → 1 ≤ c ∧ c ≤ 127
theorem pkR_b : ∀ L : List Int, okB L → 0 ≤ pkR L ∧ 2 * pkR L < 256 ^ L.length ∧ (L ≠ [] → 0 < pkR L) := by
  intro L
  induction L with
  | nil => intro _; exact ⟨by show (0 : Int) ≤ 0; decide, by show 2 * (0 : Int) < 1; decide, fun h => absurd rfl h⟩
  | cons c r ih =>
    intro h
    obtain ⟨a, b, _⟩ := ih (fun x hx => h x (List.mem_cons_of_mem _ hx))
    have hc := h c (List.mem_cons_self ..)
    show 0 ≤ 256 * pkR r + c ∧ 2 * (256 * pkR r + c) < 256 ^ (r.length + 1) ∧ (c :: r ≠ [] → 0 < 256 * pkR r + c)
    rw [show (256 : Int) ^ (r.length + 1) = 256 ^ r.length * 256 from Int.pow_succ ..]
    generalize (256 : Int) ^ r.length = X at b
    exact ⟨by omega, by omega, fun _ => by omega⟩
theorem pkR_inj : ∀ L K : List Int, okB L → okB K → pkR L = pkR K → L = K := by
  intro L
  induction L with
  | nil =>
    intro K _ hK h
    cases K with
    | nil => rfl
    | cons c r =>
      have := (pkR_b (c :: r) hK).2.2 (by simp)
      rw [← h] at this
      exact absurd this (by show ¬ (0 : Int) < 0; decide)
  | cons c r ih =>
    intro K hL hK h
    cases K with
    | nil =>
      have := (pkR_b (c :: r) hL).2.2 (by simp)
      rw [h] at this
      exact absurd this (by show ¬ (0 : Int) < 0; decide)
    | cons d s =>
      replace h : 256 * pkR r + c = 256 * pkR s + d := h
      have hc := hL c (List.mem_cons_self ..)
      have hd := hK d (List.mem_cons_self ..)
      have e1 : c = d := by omega
      have e2 : pkR r = pkR s := by omega
      rw [e1, ih s (fun x hx => hL x (List.mem_cons_of_mem _ hx)) (fun x hx => hK x (List.mem_cons_of_mem _ hx)) e2]
theorem pk_inj {L K : List Int} (hL : okB L) (hK : okB K) (h : pk L = pk K) : L = K := by
  have := pkR_inj L.reverse K.reverse (fun c hc => hL c (List.mem_reverse.mp hc)) (fun c hc => hK c (List.mem_reverse.mp hc)) h
  exact List.reverse_inj.mp this
theorem pk_pos {L : List Int} (hL : okB L) (h : L ≠ []) : 0 < pk L :=
  (pkR_b L.reverse (fun c hc => hL c (List.mem_reverse.mp hc))).2.2 (by simpa using h)
section
variable {E : RE} {M : Mem}
/-- so many bytes from b on -/
def RE.by' (E : RE) (b : Int) (k : Nat) : List Int := (List.range k).map (fun (i : Nat) => E.t (b + (i : Int)))
theorem RE.by_succ (b : Int) (k : Nat) : E.by' b (k + 1) = E.by' b k ++ [E.t (b + (k : Int))] := by
  unfold RE.by'
  rw [List.range_succ, List.map_append]; rfl
theorem RE.by_len (b : Int) (k : Nat) : (E.by' b k).length = k := by unfold RE.by'; simp
theorem RE.by_ok {b : Int} {k : Nat} (h : ∀ i, b ≤ i → i < b + (k : Int) → E.let' i = true) : okB (E.by' b k) := by
  intro c hc
  unfold RE.by' at hc
  rw [List.mem_map] at hc
  obtain ⟨i, hi, e⟩ := hc
  rw [List.mem_range] at hi
  have := RE.letT (h (b + (i : Int)) (by omega) (by omega))
  omega
theorem pk_snoc (L : List Int) (c : Int) : pk (L ++ [c]) = 256 * pk L + c := by
  unfold pk
  rw [List.reverse_append]; rfl
/-- what the reference reads of -/
def R9 (E : RE) (M : Mem) : Prop := AD M ∧ mG M 126 30 = E.n ∧ (0 ≤ E.n ∧ E.n ≤ 400) ∧ (∀ i, 0 ≤ i → i < E.n → iand (mG M 127 i) 255 = E.t i) ∧ mG M 134 0 = E.nr ∧ (0 ≤ E.nr ∧ E.nr ≤ 4) ∧ ∀ r, 0 ≤ r → r < E.nr → mG M 135 r = E.k1 r ∧ mG M 136 r = E.k2 r
/-- tokens alone are others -/
def AF9 (M M' : Mem) : Prop := ∀ c j : Int, ¬ (c = 126 ∧ 29 ≤ j ∧ j ≤ 34 ∧ ¬ j = 30) → mG M' c j = mG M c j
theorem AF9.rf {M : Mem} : AF9 M M := fun _ _ _ => rfl
theorem AF9.tr {M M1 M2 : Mem} (h1 : AF9 M M1) (h2 : AF9 M1 M2) : AF9 M M2 := fun c j h => (h2 c j h).trans (h1 c j h)
theorem AF9.st {M M1 M2 : Mem} {i x : Int} (h1 : AF9 M M1) (hM : M2 = mS M1 126 i x) (hi : 29 ≤ i ∧ i ≤ 34 ∧ ¬ i = 30) : AF9 M M2 := fun c j h => (st_ne hM (fun z => h ⟨z.1, by omega⟩)).trans (h1 c j h)
theorem AF9.ad {M M' : Mem} (h : AF9 M M') (ha : AD M) : AD M' := ha.of (fun j hj => h 126 j (fun z => (adc_in hj).1 (by omega)))
theorem R9.kp {M M' : Mem} (e : R9 E M) (ha : AD M') (h : ∀ c j : Int, (c = 126 ∧ j = 30) ∨ c = 127 ∨ (134 ≤ c ∧ c ≤ 136) → mG M' c j = mG M c j) : R9 E M' := by
  obtain ⟨_, e1, e2, e3, e4, e5, e6⟩ := e
  refine ⟨ha, (h _ _ (Or.inl ⟨rfl, rfl⟩)).trans e1, e2, fun i i0 i1 => by rw [h 127 i (Or.inr (Or.inl rfl))]; exact e3 i i0 i1, (h 134 0 (Or.inr (Or.inr (by omega)))).trans e4, e5, fun r r0 r1 => ?_⟩
  rw [h 135 r (Or.inr (Or.inr (by omega))), h 136 r (Or.inr (Or.inr (by omega)))]
  exact e6 r r0 r1
theorem AF9.r9 {M' : Mem} (h : AF9 M M') (e : R9 E M) : R9 E M' := e.kp (h.ad e.1) (fun c j z => h c j (by omega))
theorem R9.by (e : R9 E M) {i : Int} (h0 : 0 ≤ i) (h1 : i < E.n) : 0 ≤ E.t i ∧ E.t i ≤ 255 := by
  rw [← e.2.2.2.1 i h0 h1]
  exact iand_r (by decide) (by decide)
def RE.sb (E : RE) (p : Int) : Int := if p < E.n then E.t p else -1
theorem r_see {p : Int} (e : R9 E M) (h : mG M 126 29 = p) (h0 : 0 ≤ p) : pw (mX9_see 126 M) (fun q => q.2 = M ∧ q.1 = E.sb p) := by
  unfold mX9_see
  refine p_gFc (ji := 29) rfl h (p_gFc (ji := 30) rfl e.2.1 (p_if (fun c => p_ret ⟨rfl, ?_⟩) (fun c => ?_)))
  · exact (if_neg (by omega)).symm
  · refine p_gFc (ji := 1) rfl (e.1 1 (by decide)) (p_gFc (ji := 29) rfl h (p_aG (fun v hv => p_ret ⟨rfl, ?_⟩)))
    show iand v 255 = _
    rw [← hv]
    show iand (mG M 127 p) 255 = _
    rw [e.2.2.2.1 p h0 (by omega)]
    exact (if_pos (by omega)).symm
theorem r_in {a b c : Int} : pw (mX9_in a b c M) (fun q => q.2 = M ∧ ((q.1 = 1 ∧ b ≤ a ∧ a ≤ c) ∨ (q.1 = 0 ∧ ¬ (b ≤ a ∧ a ≤ c)))) := by
  unfold mX9_in
  exact p_if (fun x => p_ret ⟨rfl, Or.inr ⟨rfl, by omega⟩⟩) (fun x => p_if (fun y => p_ret ⟨rfl, Or.inr ⟨rfl, by omega⟩⟩) (fun y => p_ret ⟨rfl, Or.inl ⟨rfl, by omega, by omega⟩⟩))
theorem sb_let (p : Int) : (97 ≤ E.sb p ∧ E.sb p ≤ 122) ↔ E.let' p = true := by
  unfold RE.sb RE.let'
  constructor
  · intro h
    by_cases c : p < E.n
    · rw [if_pos c] at h; exact decide_eq_true ⟨c, h⟩
    · rw [if_neg c] at h; omega
  · intro h
    have h := of_decide_eq_true h
    rw [if_pos h.1]; exact h.2
theorem sb_dig (p : Int) : (48 ≤ E.sb p ∧ E.sb p ≤ 57) ↔ E.dig p = true := by
  unfold RE.sb RE.dig
  constructor
  · intro h
    by_cases c : p < E.n
    · rw [if_pos c] at h; exact decide_eq_true ⟨c, h⟩
    · rw [if_neg c] at h; omega
  · intro h
    have h := of_decide_eq_true h
    rw [if_pos h.1]; exact h.2
/-- the token at b is taken -/
def RTok (E : RE) (b : Int) (M : Mem) : Prop := mG M 126 31 = b ∧ (0 ≤ b ∧ b ≤ E.n) ∧ ((E.n ≤ b ∧ mG M 126 32 = 0) ∨ (E.let' b = true ∧ mG M 126 32 = 2 ∧ mG M 126 29 = E.we b ∧ mG M 126 34 = (if (E.wd b).length ≤ 8 then pk (E.wd b) else 0)) ∨ (E.dig b = true ∧ (E.de b - b ≤ 4 → mG M 126 32 = 3 ∧ mG M 126 29 = E.de b ∧ mG M 126 33 = E.val b (E.de b - b).toNat) ∧ (¬ E.de b - b ≤ 4 → mG M 126 32 = 1)) ∨ (b < E.n ∧ E.let' b = false ∧ E.dig b = false ∧ mG M 126 32 = 1))
theorem wd_by {b p : Int} (hp : E.we b = p) : E.wd b = E.by' b (p - b).toNat := by unfold RE.wd RE.by'; rw [hp]
theorem r_79 {b : Int} (hb : 0 ≤ b) (hl : E.let' b = true) : ∀ (fu k : Nat) (M : Mem), R9 E M → mG M 126 29 = b + (k : Int) → mG M 126 31 = b → (k ≤ 8 → mG M 126 34 = pk (E.by' b k)) → b + (k : Int) ≤ E.n → (∀ i, b ≤ i → i < b + (k : Int) → E.let' i = true) → pw (mX9_token_79 fu 126 (k : Int) M) (fun q => AF9 M q.2 ∧ RTok E b q.2) := by
  intro fu
  induction fu with
  | zero => intro k M _ _ _ _ _ _; exact p_none
  | succ fu ih =>
    intro k M e h29 h31 h34 hk hw
    have hn := e.2.2.1
    show pw (bX9_token_79 (mX9_token_79 fu) 126 (k : Int) M) _
    unfold bX9_token_79
    refine p_gK (p_call (r_see e h29 (by omega)) (fun c M1 h => ?_))
    obtain ⟨e1, ec⟩ := h
    replace e1 : M1 = M := e1
    replace ec : c = E.sb (b + (k : Int)) := ec
    subst e1; subst ec
    refine p_call r_in (fun r M2 h => ?_)
    obtain ⟨e1, h⟩ := h
    replace e1 : M2 = M1 := e1
    subst e1
    rw [sb_let] at h
    rcases h with ⟨hr, h⟩ | ⟨hr, h⟩
    · replace hr : r = 1 := hr
      subst hr
      have lt := RE.letT h
      refine p_it0 (show ¬ (1 : Int) = 0 by decide) (p_gF (ji := 34) rfl (fun a ha => p_gK (p_call (r_see e h29 (by omega)) (fun c M3 h2 => ?_))))
      obtain ⟨e1, ec⟩ := h2
      replace e1 : M3 = M2 := e1
      replace ec : c = E.sb (b + (k : Int)) := ec
      subst e1; subst ec
      refine p_pF (ji := 34) rfl (fun M4 h4 => p_gFc (ji := 29) rfl ((st_ne h4 (by omega)).trans h29) (p_pF (ji := 29) rfl (fun M5 h5 => ?_)))
      have a5 : AF9 M3 M5 := (AF9.rf.st h4 (by decide)).st h5 (by decide)
      rw [wI_id (x := b + (k : Int) + 1) (by omega) (by omega)] at h5
      rw [wI_id (x := (k : Int) + 1) (by omega) (by omega), show (k : Int) + 1 = ((k + 1 : Nat) : Int) by omega]
      refine p_mono (ih (k + 1) M5 (a5.r9 e) ((st_eq h5).trans (by omega)) ((st_ne h5 (by omega)).trans ((st_ne h4 (by omega)).trans h31)) (fun k8 => ?_) (by omega) (fun i i0 i1 => ?_)) (fun q z => ⟨a5.tr z.1, z.2⟩)
      · have hq := h34 (by omega)
        rw [ha] at hq
        have ok := RE.by_ok (E := E) (b := b) (k := k) hw
        have bd := pkR_b (E.by' b k).reverse (fun c hc => ok c (List.mem_reverse.mp hc))
        rw [List.length_reverse, RE.by_len] at bd
        have bd2 : 2 * pk (E.by' b k) < 256 ^ k := bd.2.1
        have bd0 : 0 ≤ pk (E.by' b k) := bd.1
        have pw7 : (256 : Int) ^ k ≤ 256 ^ 7 := by
          have e1 : (256 : Int) ^ k = ((256 ^ k : Nat) : Int) := by simp
          rw [e1]
          have := Nat.pow_le_pow_right (n := 256) (i := k) (by decide) (show k ≤ 7 by omega)
          have e2 : (256 : Int) ^ 7 = ((256 ^ 7 : Nat) : Int) := by simp
          rw [e2]; omega
        have p7 : (256 : Int) ^ 7 = 72057594037927936 := by decide
        rw [st_ne h5 (by omega), st_eq h4, RE.by_succ, pk_snoc, ← hq]
        have es : E.sb (b + (k : Int)) = E.t (b + (k : Int)) := if_pos lt.1
        rw [es]
        exact lor8 (by rw [hq]; exact bd0) (by rw [hq]; omega) (by omega) (by omega)
      · by_cases w : i = b + (k : Int)
        · rw [w]; exact h
        · exact hw i i0 (by omega)
    · replace hr : r = 0 := hr
      subst hr
      have hf : E.let' (b + (k : Int)) = false := by
        cases z : E.let' (b + (k : Int)) with
        | false => rfl
        | true => exact absurd z h
      have hwe : E.we b = b + (k : Int) := ru_eq 400 b (b + (k : Int)) (by omega) (by omega) hw hf
      have hwd : E.wd b = E.by' b k := by rw [wd_by hwe]; congr 1; omega
      have fin : ∀ x, x = (if (E.wd b).length ≤ 8 then pk (E.wd b) else 0) → pw (mX9_token_141 126 126 x M2) (fun q => AF9 M2 q.2 ∧ RTok E b q.2) := fun x hx => by
        unfold mX9_token_141
        refine p_pF (ji := 34) rfl (fun M4 h4 => p_pF (ji := 32) rfl (fun M5 h5 => p_ret ⟨(AF9.rf.st h4 (by decide)).st h5 (by decide), ?_, by omega, Or.inr (Or.inl ⟨hl, st_eq h5, ?_, ?_⟩)⟩))
        · exact (st_ne h5 (by omega)).trans ((st_ne h4 (by omega)).trans h31)
        · exact (st_ne h5 (by omega)).trans ((st_ne h4 (by omega)).trans (h29.trans hwe.symm))
        · exact (st_ne h5 (by omega)).trans ((st_eq h4).trans hx)
      refine p_it1 (show (0 : Int) = 0 from rfl) (p_if (fun c => p_gF (ji := 34) rfl (fun a ha => fin a ?_)) (fun c => fin 0 ?_))
      · rw [hwd, RE.by_len, if_pos (by omega), ← ha]; exact h34 (by omega)
      · rw [hwd, RE.by_len, if_neg (by omega)]
theorem r_163 {b : Int} (hb : 0 ≤ b) (hl : E.dig b = true) : ∀ (fu k : Nat) (M : Mem), R9 E M → mG M 126 29 = b + (k : Int) → mG M 126 31 = b → (k ≤ 4 → mG M 126 33 = E.val b k ∧ 0 ≤ E.val b k ∧ E.val b k < 10 ^ k) → b + (k : Int) ≤ E.n → (∀ i, b ≤ i → i < b + (k : Int) → E.dig i = true) → pw (mX9_token_163 fu 126 (k : Int) M) (fun q => AF9 M q.2 ∧ RTok E b q.2) := by
  intro fu
  induction fu with
  | zero => intro k M _ _ _ _ _ _; exact p_none
  | succ fu ih =>
    intro k M e h29 h31 h33 hk hw
    have hn := e.2.2.1
    show pw (bX9_token_163 (mX9_token_163 fu) 126 (k : Int) M) _
    unfold bX9_token_163
    refine p_gK (p_call (r_see e h29 (by omega)) (fun c M1 h => ?_))
    obtain ⟨e1, ec⟩ := h
    replace e1 : M1 = M := e1
    replace ec : c = E.sb (b + (k : Int)) := ec
    subst e1; subst ec
    refine p_call r_in (fun r M2 h => ?_)
    obtain ⟨e1, h⟩ := h
    replace e1 : M2 = M1 := e1
    subst e1
    rw [sb_dig] at h
    rcases h with ⟨hr, h⟩ | ⟨hr, h⟩
    · replace hr : r = 1 := hr
      subst hr
      have lt := RE.digT h
      have nxt : ∀ x, (k + 1 ≤ 4 → x = E.val b (k + 1) ∧ 0 ≤ E.val b (k + 1) ∧ E.val b (k + 1) < 10 ^ (k + 1)) → pw (mX9_token_205 (mX9_token_163 fu) 126 (k : Int) 126 x M2) (fun q => AF9 M2 q.2 ∧ RTok E b q.2) := fun x hx => by
        unfold mX9_token_205
        refine p_pF (ji := 33) rfl (fun M4 h4 => p_gFc (ji := 29) rfl ((st_ne h4 (by omega)).trans h29) (p_pF (ji := 29) rfl (fun M5 h5 => ?_)))
        have a5 : AF9 M2 M5 := (AF9.rf.st h4 (by decide)).st h5 (by decide)
        rw [wI_id (x := b + (k : Int) + 1) (by omega) (by omega)] at h5
        rw [wI_id (x := (k : Int) + 1) (by omega) (by omega), show (k : Int) + 1 = ((k + 1 : Nat) : Int) by omega]
        refine p_mono (ih (k + 1) M5 (a5.r9 e) ((st_eq h5).trans (by omega)) ((st_ne h5 (by omega)).trans ((st_ne h4 (by omega)).trans h31)) (fun k4 => ?_) (by omega) (fun i i0 i1 => ?_)) (fun q z => ⟨a5.tr z.1, z.2⟩)
        · exact ⟨(st_ne h5 (by omega)).trans ((st_eq h4).trans (hx k4).1), (hx k4).2⟩
        · by_cases w : i = b + (k : Int)
          · rw [w]; exact h
          · exact hw i i0 (by omega)
      refine p_it0 (show ¬ (1 : Int) = 0 by decide) (p_if (fun c4 => p_gF (ji := 33) rfl (fun a _ => nxt a (fun k4 => by omega))) (fun c4 => ?_))
      have hq := h33 (by omega)
      refine p_gFc (ji := 33) rfl hq.1 (p_gK (p_call (r_see e h29 (by omega)) (fun c M3 h2 => ?_)))
      obtain ⟨e1, ec⟩ := h2
      replace e1 : M3 = M2 := e1
      replace ec : c = E.sb (b + (k : Int)) := ec
      subst e1; subst ec
      have es : E.sb (b + (k : Int)) = E.t (b + (k : Int)) := if_pos lt.1
      have pk4 : (10 : Int) ^ k ≤ 1000 := by
        have e1 : (10 : Int) ^ k = ((10 ^ k : Nat) : Int) := by simp
        rw [e1]
        have := Nat.pow_le_pow_right (n := 10) (i := k) (by decide) (show k ≤ 3 by omega)
        omega
      have ps : (10 : Int) ^ (k + 1) = 10 ^ k * 10 := Int.pow_succ ..
      have vs : E.val b (k + 1) = 10 * E.val b k + E.t (b + (k : Int)) - 48 := rfl
      refine nxt _ (fun _ => ⟨?_, ?_, ?_⟩)
      · rw [es, wI_id (x := 10 * E.val b k) (by omega) (by omega), wI_id (x := 10 * E.val b k + E.t (b + (k : Int))) (by omega) (by omega), wI_id (x := 10 * E.val b k + E.t (b + (k : Int)) - 48) (by omega) (by omega)]; rfl
      · rw [vs]; omega
      · rw [vs, ps]; omega
    · replace hr : r = 0 := hr
      subst hr
      have hf : E.dig (b + (k : Int)) = false := by
        cases z : E.dig (b + (k : Int)) with
        | false => rfl
        | true => exact absurd z h
      have hde : E.de b = b + (k : Int) := ru_eq 400 b (b + (k : Int)) (by omega) (by omega) hw hf
      have fin : ∀ x : Int, ((k : Int) ≤ 4 → x = 3) → (¬ (k : Int) ≤ 4 → x = 1) → pw (mX9_token_235 126 x M2) (fun q => AF9 M2 q.2 ∧ RTok E b q.2) := fun x h3 h1 => by
        unfold mX9_token_235
        refine p_pF (ji := 32) rfl (fun M5 h5 => p_ret ⟨AF9.rf.st h5 (by decide), (st_ne h5 (by omega)).trans h31, by omega, Or.inr (Or.inr (Or.inl ⟨hl, fun c => ⟨(st_eq h5).trans (h3 (by omega)), (st_ne h5 (by omega)).trans (h29.trans hde.symm), ?_⟩, fun c => (st_eq h5).trans (h1 (by omega))⟩))⟩)
        rw [show (E.de b - b).toNat = k by omega]
        exact (st_ne h5 (by omega)).trans (h33 (by omega)).1
      refine p_it1 (show (0 : Int) = 0 from rfl) (p_if (fun c => fin 3 (fun _ => rfl) (fun y => absurd c y)) (fun c => fin 1 (fun y => absurd y c) (fun _ => rfl)))
theorem r_token {p0 : Int} (e0 : R9 E M) (h0 : mG M 126 29 = p0) (hp : 0 ≤ p0 ∧ p0 ≤ E.n) : pw (mX9_token 126 M) (fun q => AF9 M q.2 ∧ RTok E (E.sk p0) q.2) := by
  have key : ∀ (fu : Nat) (p : Int) (M1 : Mem), R9 E M1 → AF9 M M1 → mG M1 126 29 = p → p0 ≤ p → p ≤ E.n → (∀ i, p0 ≤ i → i < p → E.blk i = true) → pw (mX9_token_0 fu 126 M1) (fun q => AF9 M q.2 ∧ RTok E (E.sk p0) q.2) := by
    intro fu
    induction fu with
    | zero => intro p M1 _ _ _ _ _ _; exact p_none
    | succ fu ih =>
      intro p M1 e af h29 b0 b1 hb
      have hn := e.2.2.1
      show pw (bX9_token_0 (mX9_token_0 fu) 126 M1) _
      unfold bX9_token_0
      have skip : E.sb p = 10 ∨ E.sb p = 32 → pw (mX9_token_18 (mX9_token_0 fu) 126 M1) (fun q => AF9 M q.2 ∧ RTok E (E.sk p0) q.2) := fun hs => by
        have lt : p < E.n := by
          by_cases c : p < E.n
          · exact c
          · unfold RE.sb at hs; rw [if_neg c] at hs; omega
        have es : E.sb p = E.t p := if_pos lt
        unfold mX9_token_18
        refine p_gFc (ji := 29) rfl h29 (p_pF (ji := 29) rfl (fun M2 h2 => ?_))
        have a2 : AF9 M1 M2 := AF9.rf.st h2 (by decide)
        rw [wI_id (x := p + 1) (by omega) (by omega)] at h2
        refine ih (p + 1) M2 (a2.r9 e) (af.tr a2) (st_eq h2) (by omega) (by omega) (fun i i0 i1 => ?_)
        by_cases w : i = p
        · rw [w]; exact decide_eq_true ⟨lt, by rw [← es]; exact hs⟩
        · exact hb i i0 (by omega)
      refine p_gK (p_call (r_see e h29 (by omega)) (fun c M2 h => ?_))
      obtain ⟨e1, ec⟩ := h
      replace e1 : M2 = M1 := e1
      replace ec : c = E.sb p := ec
      subst e1; subst ec
      refine p_if (fun c => skip (Or.inl c)) (fun c10 => p_gK (p_call (r_see e h29 (by omega)) (fun c M3 h => ?_)))
      obtain ⟨e1, ec⟩ := h
      replace e1 : M3 = M2 := e1
      replace ec : c = E.sb p := ec
      subst e1; subst ec
      refine p_if (fun c => skip (Or.inr c)) (fun c32 => ?_)
      replace c10 : ¬ E.sb p = 10 := c10
      replace c32 : ¬ E.sb p = 32 := c32
      have nb : E.blk p = false := by
        refine decide_eq_false (fun z => ?_)
        have es : E.sb p = E.t p := if_pos z.1
        omega
      have hsk : E.sk p0 = p := ru_eq 400 p0 p b0 (by omega) hb nb
      rw [hsk]
      refine p_gFc (ji := 29) rfl h29 (p_pF (ji := 31) rfl (fun M4 h4 => p_gK ?_))
      have a4 : AF9 M3 M4 := AF9.rf.st h4 (by decide)
      have e4 := a4.r9 e
      refine p_call (r_see e4 ((st_ne h4 (by omega)).trans h29) (by omega)) (fun c M5 h => ?_)
      obtain ⟨e1, ec⟩ := h
      replace e1 : M5 = M4 := e1
      replace ec : c = E.sb p := ec
      subst e1; subst ec
      refine p_pF (ji := 33) rfl (fun M6 h6 => p_pF (ji := 34) rfl (fun M7 h7 => ?_))
      have a7 : AF9 M3 M7 := (a4.st h6 (by decide)).st h7 (by decide)
      have e7 := a7.r9 e
      have g29 : mG M7 126 29 = p := (st_ne h7 (by omega)).trans ((st_ne h6 (by omega)).trans ((st_ne h4 (by omega)).trans h29))
      have g31 : mG M7 126 31 = p := (st_ne h7 (by omega)).trans ((st_ne h6 (by omega)).trans (st_eq h4))
      have g33 : mG M7 126 33 = 0 := (st_ne h7 (by omega)).trans (st_eq h6)
      have g34 : mG M7 126 34 = 0 := st_eq h7
      have b0' : 0 ≤ p := by omega
      refine p_if (fun cp => ?_) (fun cn => ?_)
      · replace cp : 0 ≤ E.sb p := cp
        have lt : p < E.n := by
          by_cases c : p < E.n
          · exact c
          · unfold RE.sb at cp; rw [if_neg c] at cp; omega
        refine p_call r_in (fun r M8 h => ?_)
        obtain ⟨e1, h⟩ := h
        replace e1 : M8 = M7 := e1
        subst e1
        rw [sb_let] at h
        rcases h with ⟨hr, h⟩ | ⟨hr, h⟩
        · replace hr : r = 1 := hr
          subst hr
          refine p_it0 (show ¬ (1 : Int) = 0 by decide) (p_mono (r_79 b0' h FU 0 M8 e7 (g29.trans (by omega)) g31 (fun _ => g34) (by omega) (fun i i0 i1 => absurd i1 (by omega))) (fun q z => ⟨(af.tr a7).tr z.1, z.2⟩))
        · replace hr : r = 0 := hr
          subst hr
          have lf : E.let' p = false := by
            cases z : E.let' p with
            | false => rfl
            | true => exact absurd z h
          refine p_it1 (show (0 : Int) = 0 from rfl) (p_call r_in (fun r M9 h => ?_))
          obtain ⟨e1, h⟩ := h
          replace e1 : M9 = M8 := e1
          subst e1
          rw [sb_dig] at h
          rcases h with ⟨hr, h⟩ | ⟨hr, h⟩
          · replace hr : r = 1 := hr
            subst hr
            refine p_it0 (show ¬ (1 : Int) = 0 by decide) (p_mono (r_163 b0' h FU 0 M9 e7 (g29.trans (by omega)) g31 (fun _ => ⟨g33, by show (0 : Int) ≤ 0; decide, by show (0 : Int) < 1; decide⟩) (by omega) (fun i i0 i1 => absurd i1 (by omega))) (fun q z => ⟨(af.tr a7).tr z.1, z.2⟩))
          · replace hr : r = 0 := hr
            subst hr
            have df : E.dig p = false := by
              cases z : E.dig p with
              | false => rfl
              | true => exact absurd z h
            refine p_it1 (show (0 : Int) = 0 from rfl) (p_gF (ji := 29) rfl (fun _ _ => p_pF (ji := 29) rfl (fun Ma ha => p_pF (ji := 32) rfl (fun Mb hb2 => p_ret ⟨((af.tr a7).st ha (by decide)).st hb2 (by decide), ?_, by omega, Or.inr (Or.inr (Or.inr ⟨lt, lf, df, st_eq hb2⟩))⟩))))
            exact (st_ne hb2 (by omega)).trans ((st_ne ha (by omega)).trans g31)
      · replace cn : ¬ 0 ≤ E.sb p := cn
        have ge : E.n ≤ p := by
          by_cases c : p < E.n
          · exfalso
            have := e.by b0' c
            unfold RE.sb at cn
            rw [if_pos c] at cn
            omega
          · omega
        exact p_pF (ji := 32) rfl (fun Ma ha => p_ret ⟨(af.tr a7).st ha (by decide), (st_ne ha (by omega)).trans g31, by omega, Or.inl ⟨ge, st_eq ha⟩⟩)
  unfold mX9_token
  exact key FU p0 M e0 AF9.rf h0 (Int.le_refl _) hp.2 (fun i i0 i1 => absurd i1 (by omega))
end
end
section
/-! ===== the reference's words, variables ===== -/
section
variable {E : RE} {M : Mem}
/-- no fault is told; the token at b is taken -/
def R2 (E : RE) (b : Int) (M : Mem) : Prop := R9 E M ∧ mG M 126 36 = 0 ∧ RTok E b M
theorem R2.wd {b : Int} (h : R2 E b M) : (mG M 126 32 = 2 ∧ E.let' b = true ∧ mG M 126 29 = E.we b ∧ mG M 126 34 = (if (E.wd b).length ≤ 8 then pk (E.wd b) else 0)) ∨ (¬ mG M 126 32 = 2 ∧ E.wd b = []) := by
  obtain ⟨r, _, _, hb, t⟩ := h
  have hn := r.2.2.1
  rcases t with ⟨t1, t2⟩ | ⟨t1, t2, t3⟩ | ⟨t1, t2, t3⟩ | ⟨t1, t2, t3, t4⟩
  · exact Or.inr ⟨by omega, RE.wd_nil hb.1 hn.2 (decide_eq_false (by omega))⟩
  · exact Or.inl ⟨t2, t1, t3⟩
  · have g := RE.digT t1
    refine Or.inr ⟨?_, RE.wd_nil hb.1 hn.2 (decide_eq_false (by omega))⟩
    by_cases c : E.de b - b ≤ 4
    · have := (t2 c).1; omega
    · have := t3 c; omega
  · exact Or.inr ⟨by omega, RE.wd_nil hb.1 hn.2 t2⟩
theorem wd_ok {b : Int} (h0 : 0 ≤ b) (hn : E.n ≤ 400) : okB (E.wd b) := by
  obtain ⟨w1, w2, _⟩ := E.we_spec b h0 hn
  rw [wd_by (rfl : E.we b = E.we b)]
  exact RE.by_ok (fun i i0 i1 => w2 i i0 (by omega))
theorem r_isw {β : Type} {Q : β → Prop} {b w : Int} {L : List Int} {f : Int × Mem → Option β} (h : R2 E b M) (hw : w = pk L) (h5 : ¬ L = [] ∧ L.length ≤ 8 ∧ okB L) (k1 : E.wd b = L → pw (f (1, M)) Q) (k0 : ¬ E.wd b = L → pw (f (0, M)) Q) : pw ((gK 9 M 126).bind fun _ => (mX9_isWord 126 w M).bind f) Q := by
  have hb := h.2.2.2.1
  have hn := h.1.2.2.1
  refine p_gK ?_
  unfold mX9_isWord
  refine p_bindg (fun Q1 hQ1 => ?_)
  rcases h.wd with ⟨h1, h2, h3, h4⟩ | ⟨h1, h2⟩
  · refine p_gFc (ji := 32) rfl h1 (p_it1 rfl (p_gFc (ji := 34) rfl h4 (p_if (fun c => p_ret (hQ1 _ (k1 ?_))) (fun c => p_ret (hQ1 _ (k0 ?_))))))
    · have c := (lcmp_0 _ _).mp c
      by_cases l : (E.wd b).length ≤ 8
      · rw [if_pos l, hw] at c
        exact pk_inj (wd_ok hb.1 hn.2) h5.2.2 c
      · rw [if_neg l, hw] at c
        have := pk_pos h5.2.2 h5.1
        omega
    · intro e
      refine c ((lcmp_0 _ _).mpr ?_)
      rw [e, if_pos h5.2.1, hw]
  · refine p_gF (ji := 32) rfl (fun v hv => p_it0 (by omega) (p_ret (hQ1 _ (k0 (fun e => h5.1 (e.symm.trans h2))))))
theorem r_actOf {b : Int} (h : R2 E b M) : pw (mX9_actOf 126 M) (fun q => q.2 = M ∧ q.1 = actW (E.wd b)) := by
  unfold mX9_actOf
  refine r_isw (L := [97, 108, 108]) h (by decide +kernel) ⟨by decide, by decide, by unfold okB; decide⟩ (fun e => p_it0 (show ¬ (1 : Int) = 0 by decide) (p_ret ⟨rfl, by show (0 : Int) = _; rw [e]; decide⟩)) (fun h0 => p_it1 (show (0 : Int) = 0 from rfl) ?_)
  refine r_isw (L := [115, 111, 109, 101]) h (by decide +kernel) ⟨by decide, by decide, by unfold okB; decide⟩ (fun e => p_it0 (show ¬ (1 : Int) = 0 by decide) (p_ret ⟨rfl, by show (1 : Int) = _; rw [e]; decide⟩)) (fun h1 => p_it1 (show (0 : Int) = 0 from rfl) ?_)
  refine r_isw (L := [108, 101, 97, 115, 116]) h (by decide +kernel) ⟨by decide, by decide, by unfold okB; decide⟩ (fun e => p_it0 (show ¬ (1 : Int) = 0 by decide) (p_ret ⟨rfl, by show (2 : Int) = _; rw [e]; decide⟩)) (fun h2 => p_it1 (show (0 : Int) = 0 from rfl) ?_)
  refine r_isw (L := [109, 111, 115, 116]) h (by decide +kernel) ⟨by decide, by decide, by unfold okB; decide⟩ (fun e => p_it0 (show ¬ (1 : Int) = 0 by decide) (p_ret ⟨rfl, by show (3 : Int) = _; rw [e]; decide⟩)) (fun h3 => p_it1 (show (0 : Int) = 0 from rfl) ?_)
  refine r_isw (L := [110, 111, 116]) h (by decide +kernel) ⟨by decide, by decide, by unfold okB; decide⟩ (fun e => p_it0 (show ¬ (1 : Int) = 0 by decide) (p_ret ⟨rfl, by show (4 : Int) = _; rw [e]; decide⟩)) (fun h4 => p_it1 (show (0 : Int) = 0 from rfl) ?_)
  refine r_isw (L := [97, 110, 100]) h (by decide +kernel) ⟨by decide, by decide, by unfold okB; decide⟩ (fun e => p_it0 (show ¬ (1 : Int) = 0 by decide) (p_ret ⟨rfl, by show (5 : Int) = _; rw [e]; decide⟩)) (fun h5 => p_it1 (show (0 : Int) = 0 from rfl) ?_)
  refine r_isw (L := [111, 114]) h (by decide +kernel) ⟨by decide, by decide, by unfold okB; decide⟩ (fun e => p_it0 (show ¬ (1 : Int) = 0 by decide) (p_ret ⟨rfl, by show (6 : Int) = _; rw [e]; decide⟩)) (fun h6 => p_it1 (show (0 : Int) = 0 from rfl) ?_)
  refine r_isw (L := [105, 102]) h (by decide +kernel) ⟨by decide, by decide, by unfold okB; decide⟩ (fun e => p_it0 (show ¬ (1 : Int) = 0 by decide) (p_ret ⟨rfl, by show (7 : Int) = _; rw [e]; decide⟩)) (fun h7 => p_it1 (show (0 : Int) = 0 from rfl) ?_)
  refine r_isw (L := [115, 97, 109, 101]) h (by decide +kernel) ⟨by decide, by decide, by unfold okB; decide⟩ (fun e => p_it0 (show ¬ (1 : Int) = 0 by decide) (p_ret ⟨rfl, by show (8 : Int) = _; rw [e]; decide⟩)) (fun h8 => p_it1 (show (0 : Int) = 0 from rfl) ?_)
  refine r_isw (L := [114, 101, 97, 99, 104]) h (by decide +kernel) ⟨by decide, by decide, by unfold okB; decide⟩ (fun e => p_it0 (show ¬ (1 : Int) = 0 by decide) (p_ret ⟨rfl, by show (9 : Int) = _; rw [e]; decide⟩)) (fun h9 => p_it1 (show (0 : Int) = 0 from rfl) ?_)
  refine r_isw (L := [116, 114, 101, 101]) h (by decide +kernel) ⟨by decide, by decide, by unfold okB; decide⟩ (fun e => p_it0 (show ¬ (1 : Int) = 0 by decide) (p_ret ⟨rfl, by show (10 : Int) = _; rw [e]; decide⟩)) (fun h10 => p_it1 (show (0 : Int) = 0 from rfl) ?_)
  refine p_ret ⟨rfl, ?_⟩
  show (-1 : Int) = _
  unfold actW
  rw [if_neg h0, if_neg h1, if_neg h2, if_neg h3, if_neg h4, if_neg h5, if_neg h6, if_neg h7, if_neg h8, if_neg h9, if_neg h10]
theorem r_varOf {b : Int} (h : R2 E b M) : pw (mX9_varOf 126 M) (fun q => q.2 = M ∧ q.1 = varW (E.wd b)) := by
  unfold mX9_varOf
  refine r_isw (L := [120]) h (by decide +kernel) ⟨by decide, by decide, by unfold okB; decide⟩ (fun e => p_it0 (show ¬ (1 : Int) = 0 by decide) (p_ret ⟨rfl, by show (0 : Int) = _; rw [e]; decide⟩)) (fun h0 => p_it1 (show (0 : Int) = 0 from rfl) ?_)
  refine r_isw (L := [121]) h (by decide +kernel) ⟨by decide, by decide, by unfold okB; decide⟩ (fun e => p_it0 (show ¬ (1 : Int) = 0 by decide) (p_ret ⟨rfl, by show (1 : Int) = _; rw [e]; decide⟩)) (fun h1 => p_it1 (show (0 : Int) = 0 from rfl) ?_)
  refine r_isw (L := [122]) h (by decide +kernel) ⟨by decide, by decide, by unfold okB; decide⟩ (fun e => p_it0 (show ¬ (1 : Int) = 0 by decide) (p_ret ⟨rfl, by show (2 : Int) = _; rw [e]; decide⟩)) (fun h2 => p_it1 (show (0 : Int) = 0 from rfl) ?_)
  refine r_isw (L := [119]) h (by decide +kernel) ⟨by decide, by decide, by unfold okB; decide⟩ (fun e => p_it0 (show ¬ (1 : Int) = 0 by decide) (p_ret ⟨rfl, by show (3 : Int) = _; rw [e]; decide⟩)) (fun h3 => p_it1 (show (0 : Int) = 0 from rfl) ?_)
  refine p_ret ⟨rfl, ?_⟩
  show (-1 : Int) = _
  unfold varW
  rw [if_neg h0, if_neg h1, if_neg h2, if_neg h3]
theorem r_kindOf {b : Int} (h : R2 E b M) : pw (mX9_kindOf 126 M) (fun q => q.2 = M ∧ q.1 = kindW (E.wd b)) := by
  unfold mX9_kindOf
  refine r_isw (L := [109, 97, 110]) h (by decide +kernel) ⟨by decide, by decide, by unfold okB; decide⟩ (fun e => p_it0 (show ¬ (1 : Int) = 0 by decide) (p_ret ⟨rfl, by show (0 : Int) = _; rw [e]; decide⟩)) (fun h0 => p_it1 (show (0 : Int) = 0 from rfl) ?_)
  refine r_isw (L := [104, 111, 117, 115, 101]) h (by decide +kernel) ⟨by decide, by decide, by unfold okB; decide⟩ (fun e => p_it0 (show ¬ (1 : Int) = 0 by decide) (p_ret ⟨rfl, by show (1 : Int) = _; rw [e]; decide⟩)) (fun h1 => p_it1 (show (0 : Int) = 0 from rfl) ?_)
  refine r_isw (L := [100, 97, 121]) h (by decide +kernel) ⟨by decide, by decide, by unfold okB; decide⟩ (fun e => p_it0 (show ¬ (1 : Int) = 0 by decide) (p_ret ⟨rfl, by show (2 : Int) = _; rw [e]; decide⟩)) (fun h2 => p_it1 (show (0 : Int) = 0 from rfl) ?_)
  refine p_ret ⟨rfl, ?_⟩
  show (-1 : Int) = _
  unfold kindW
  rw [if_neg h0, if_neg h1, if_neg h2]
theorem r_relOf {b : Int} (h : R2 E b M) : pw (mX9_relOf 126 M) (fun q => q.2 = M ∧ q.1 = relW E.nr (E.wd b)) := by
  have e8 := h.1.1 8 (by decide)
  replace e8 : mG M 126 8 = 134 := e8
  have en := h.1.2.2.2.2.1
  have fin : ∀ x : Int, (if E.wd b = [114] then (0 : Int) else if E.wd b = [115] then 1 else if E.wd b = [116] then 2 else if E.wd b = [117] then 3 else -1) = x → pw (mX9_relOf_57 126 x M) (fun q => q.2 = M ∧ q.1 = relW E.nr (E.wd b)) := fun x hx => by
    have er : relW E.nr (E.wd b) = if E.nr ≤ x then -1 else x := by
      unfold relW
      dsimp only
      rw [hx]
    unfold mX9_relOf_57
    refine p_gFc (ji := 8) rfl e8 (p_aGc en (p_if (fun c => p_ret ⟨rfl, ?_⟩) (fun c => p_ret ⟨rfl, ?_⟩)))
    · rw [er, if_pos c]
    · rw [er, if_neg c]
  unfold mX9_relOf
  refine r_isw (L := [114]) h (by decide +kernel) ⟨by decide, by decide, by unfold okB; decide⟩ (fun e => p_it0 (show ¬ (1 : Int) = 0 by decide) (fin 0 (by rw [e]; decide))) (fun h0 => p_it1 (show (0 : Int) = 0 from rfl) ?_)
  refine r_isw (L := [115]) h (by decide +kernel) ⟨by decide, by decide, by unfold okB; decide⟩ (fun e => p_it0 (show ¬ (1 : Int) = 0 by decide) (fin 1 (by rw [e]; decide))) (fun h1 => p_it1 (show (0 : Int) = 0 from rfl) ?_)
  refine r_isw (L := [116]) h (by decide +kernel) ⟨by decide, by decide, by unfold okB; decide⟩ (fun e => p_it0 (show ¬ (1 : Int) = 0 by decide) (fin 2 (by rw [e]; decide))) (fun h2 => p_it1 (show (0 : Int) = 0 from rfl) ?_)
  refine r_isw (L := [117]) h (by decide +kernel) ⟨by decide, by decide, by unfold okB; decide⟩ (fun e => p_it0 (show ¬ (1 : Int) = 0 by decide) (fin 3 (by rw [e]; decide))) (fun h3 => p_it1 (show (0 : Int) = 0 from rfl) ?_)
  exact fin (-1) (by rw [if_neg h0, if_neg h1, if_neg h2, if_neg h3])
theorem R2.we {b : Int} (h : R2 E b M) (hw : ¬ E.wd b = []) : mG M 126 29 = E.we b ∧ 0 ≤ E.we b ∧ E.we b ≤ E.n := by
  have hn := h.1.2.2.1
  have hb := h.2.2.2.1
  rcases h.wd with ⟨_, g2, g3, _⟩ | ⟨_, g⟩
  · have gt := RE.we_gt hb.1 hn.2 g2
    obtain ⟨_, _, _, w4⟩ := E.we_spec b hb.1 hn.2
    exact ⟨g3, by omega, by omega⟩
  · exact absurd g hw
theorem AF9.r2 {b b' : Int} {M' : Mem} (a : AF9 M M') (h : R2 E b M) (t : RTok E b' M') : R2 E b' M' := ⟨a.r9 h.1, (a 126 36 (by omega)).trans h.2.1, t⟩
/-- the next token -/
theorem r_next {b e : Int} (h : R2 E b M) (h29 : mG M 126 29 = e) (he : 0 ≤ e ∧ e ≤ E.n) : pw (mX9_token 126 M) (fun q => AF9 M q.2 ∧ R2 E (E.sk e) q.2) :=
  p_mono (r_token h.1 h29 he) (fun q z => ⟨z.1, z.1.r2 h z.2⟩)
theorem r_word {b : Int} (h : R2 E b M) (hw : ¬ E.wd b = []) : pw (mX9_token 126 M) (fun q => AF9 M q.2 ∧ R2 E (E.sk (E.we b)) q.2) := by
  obtain ⟨w1, w2⟩ := h.we hw
  exact r_next h w1 w2
theorem r_bound {a v : Int} : pw (mX9_bound a v M) (fun q => q.2 = M ∧ q.1 = bnd a v) := by
  unfold mX9_bound
  refine p_some (fun x hx => p_if (fun c => p_ret ⟨rfl, ?_⟩) (fun c => p_ret ⟨rfl, ?_⟩))
  · show (-1 : Int) = bnd a v
    unfold bnd
    dsimp only
    rw [← hx, if_pos c]
  · show x = bnd a v
    unfold bnd
    dsimp only
    rw [← hx, if_neg c]
theorem varW_ne {w : List Int} (h : ¬ varW w = -1) : ¬ w = [] := fun z => h (by rw [z]; decide)
theorem kindW_ne {w : List Int} (h : ¬ kindW w = -1) : ¬ w = [] := fun z => h (by rw [z]; decide)
theorem relW_ne {nr : Int} {w : List Int} (h0 : 0 ≤ nr) (h : ¬ relW nr w = -1) : ¬ w = [] := fun z => h (relW_no h0 (fun c y => by rw [z] at y; cases y))
/-- a variable -/
def V9 (E : RE) (bo kind b : Int) (M : Mem) (q : Int × Mem) : Prop := ((q.1 = -1 ∨ ¬ mG q.2 126 36 = 0) ∧ E.rv bo kind b = none) ∨ ∃ v b', E.rv bo kind b = some (v, b') ∧ (0 ≤ v ∧ v ≤ 3) ∧ q.1 = v ∧ AF9 M q.2 ∧ R2 E b' q.2
theorem r_readVar {b bo kind : Int} (h : R2 E b M) : pw (mX9_readVar 126 bo kind M) (fun q => TK M q.2 ∧ V9 E bo kind b M q) := by
  refine p_mono (p_and pt_readVar (Q := V9 E bo kind b M) ?_) (fun q z => ⟨z.1.1, z.2⟩)
  unfold mX9_readVar
  have rvu : E.rv bo kind b = if varW (E.wd b) = -1 then none else if bnd bo (varW (E.wd b)) = -1 then none else if ¬ kind = -1 ∧ ¬ bnd bo (varW (E.wd b)) = kind then none else some (varW (E.wd b), E.sk (E.we b)) := rfl
  refine p_gK (p_call (r_varOf h) (fun r M1 g => ?_))
  obtain ⟨e, hr⟩ := g
  replace e : M1 = M := e
  replace hr : r = varW (E.wd b) := hr
  subst e; subst hr
  have rg := varW_rg (E.wd b)
  refine p_if (fun c => ?_) (fun c => ?_)
  · unfold mX9_wrong
    refine p_gK (p_bindg (fun Q1 hQ1 => p_gF (ji := 31) rfl (fun _ _ => p_pF (ji := 35) rfl (fun M2 _ => p_ret (hQ1 _ (p_ret (Or.inl ⟨Or.inl rfl, ?_⟩)))))))
    rw [rvu, if_pos c]
  replace c : ¬ varW (E.wd b) = -1 := c
  have bad : ∀ f : Int, ¬ f = 0 → E.rv bo kind b = none → pw ((gF 9 31 M1 126).bind fun a => (gK 9 M1 126).bind fun _ => (mX9_later 126 f a M1).bind fun q => mX9_readVar_59 126 (varW (E.wd b)) q.2) (V9 E bo kind b M1) := fun f hf he => by
    refine p_gF (ji := 31) rfl (fun a _ => p_gK (p_call (pt_later hf) (fun _ M2 z => ?_)))
    replace z : TK M1 M2 ∧ ¬ mG M2 126 36 = 0 := z
    unfold mX9_readVar_59
    exact p_gK (p_call pt_token (fun _ M3 t => p_ret (Or.inl ⟨Or.inr (t.2 z.2), he⟩)))
  refine p_call r_bound (fun x M2 g => ?_)
  obtain ⟨e, hx⟩ := g
  replace e : M2 = M1 := e
  replace hx : x = bnd bo (varW (E.wd b)) := hx
  subst e; subst hx
  have good : (kind = -1 ∨ bnd bo (varW (E.wd b)) = kind) → ¬ bnd bo (varW (E.wd b)) = -1 → pw (mX9_readVar_59 126 (varW (E.wd b)) M2) (V9 E bo kind b M2) := fun hk hb => by
    unfold mX9_readVar_59
    refine p_gK (p_call (r_word h (varW_ne c)) (fun _ M3 t => p_ret (Or.inr ⟨_, _, ?_, ⟨by omega, rg.2⟩, rfl, t.1, t.2⟩)))
    rw [rvu, if_neg c, if_neg hb, if_neg (by omega)]
  refine p_if (fun c2 => bad 2 (by decide) (by rw [rvu, if_neg c, if_pos c2])) (fun c2 => ?_)
  replace c2 : ¬ bnd bo (varW (E.wd b)) = -1 := c2
  refine p_if (fun c3 => good (Or.inl c3) c2) (fun c3 => p_call r_bound (fun x M3 g => ?_))
  obtain ⟨e, hx⟩ := g
  replace e : M3 = M2 := e
  replace hx : x = bnd bo (varW (E.wd b)) := hx
  subst e; subst hx
  exact p_if (fun c4 => good (Or.inr c4) c2) (fun c4 => bad 3 (by decide) (by rw [rvu, if_neg c, if_neg c2, if_pos ⟨c3, c4⟩]))
end
end
section
/-! ===== the reference reads a part ===== -/
/-- a row of the draft, as far as it is asked for -/
def RW (r : Row) (k : Int) (M : Mem) : Prop := mG M 156 k = r.r0 ∧ ((r.r0 ≤ 3 ∨ 8 ≤ r.r0) → mG M 157 k = r.r1) ∧ ((r.r0 ≤ 3 ∨ r.r0 = 8 ∨ r.r0 = 9 ∨ 11 ≤ r.r0) → mG M 158 k = r.r2) ∧ ((r.r0 ≤ 3 ∨ r.r0 = 9 ∨ r.r0 = 12) → mG M 159 k = r.r3)
def D9 (ps : List Row) (M : Mem) : Prop := ∀ (k : Nat) (r : Row), ps[k]? = some r → RW r (k : Int) M
def W9 (ws : List (Int × Int)) (M : Mem) : Prop := mG M 126 38 = (ws.length : Int) ∧ ∀ (k : Nat) (x : Int × Int), ws[k]? = some x → mG M 155 ((ws.length : Int) - 1 - (k : Int)) = x.2
theorem get_lt {α : Type} {L : List α} {k : Nat} {x : α} (h : L[k]? = some x) : k < L.length := by
  by_cases y : k < L.length
  · exact y
  · rw [List.getElem?_eq_none (by omega)] at h; cases h
theorem RW.kp {r : Row} {k : Int} {M M' : Mem} (h : RW r k M) (g : ∀ c : Int, 156 ≤ c → c ≤ 159 → mG M' c k = mG M c k) : RW r k M' :=
  ⟨(g _ (by decide) (by decide)).trans h.1, fun z => (g _ (by decide) (by decide)).trans (h.2.1 z), fun z => (g _ (by decide) (by decide)).trans (h.2.2.1 z), fun z => (g _ (by decide) (by decide)).trans (h.2.2.2 z)⟩
theorem D9.kp {ps : List Row} {M M' : Mem} (d : D9 ps M) (g : ∀ c j : Int, 156 ≤ c → c ≤ 159 → j < (ps.length : Int) → mG M' c j = mG M c j) : D9 ps M' := fun k r hr =>
  (d k r hr).kp (fun c c0 c1 => g c _ c0 c1 (by have := get_lt hr; omega))
theorem D9.snoc {ps : List Row} {r : Row} {M : Mem} (d : D9 ps M) (h : RW r (ps.length : Int) M) : D9 (ps ++ [r]) M := fun k r' hr => by
  by_cases e : k < ps.length
  · rw [List.getElem?_append_left e] at hr; exact d k r' hr
  · have lt := get_lt hr
    rw [List.length_append] at lt
    replace lt : k < ps.length + 1 := lt
    have ek : k = ps.length := by omega
    subst ek
    rw [List.getElem?_append_right (Nat.le_refl _), Nat.sub_self] at hr
    have hr : r = r' := Option.some.inj hr
    subst hr; exact h
theorem W9.kp {ws : List (Int × Int)} {M M' : Mem} (w : W9 ws M) (g : ∀ c j : Int, (c = 126 ∧ j = 38) ∨ c = 155 → mG M' c j = mG M c j) : W9 ws M' :=
  ⟨(g 126 38 (Or.inl ⟨rfl, rfl⟩)).trans w.1, fun k x hx => (g 155 _ (Or.inr rfl)).trans (w.2 k x hx)⟩
theorem AF9.d9 {ps : List Row} {M M' : Mem} (a : AF9 M M') (d : D9 ps M) : D9 ps M' := d.kp (fun c j _ _ _ => a c j (by omega))
theorem AF9.w9 {ws : List (Int × Int)} {M M' : Mem} (a : AF9 M M') (w : W9 ws M) : W9 ws M' := w.kp (fun c j _ => a c j (by omega))
section
variable {E : RE} {M : Mem} {ps : List Row} {ws : List (Int × Int)} {b sc bo p : Int}
theorem R2.kp {M' : Mem} (h : R2 E b M) (g : ∀ c j : Int, c < 155 → ¬ (c = 126 ∧ (j = 35 ∨ j = 38 ∨ j = 40)) → mG M' c j = mG M c j) : R2 E b M' := by
  have f : ∀ j : Int, ¬ (j = 35 ∨ j = 38 ∨ j = 40) → mG M' 126 j = mG M 126 j := fun j hj => g 126 j (by decide) (fun z => hj z.2)
  obtain ⟨r, l, t1, t2, t3⟩ := h
  refine ⟨r.kp (r.1.of (fun j hj => f j (fun z => ?_))) (fun c j z => g c j (by omega) (by omega)), (f 36 (by decide)).trans l, ?_⟩
  · have := adc_in hj
    rcases z with z | z | z
    · omega
    · omega
    · omega
  · unfold RTok
    rw [f 31 (by decide), f 32 (by decide), f 29 (by decide), f 33 (by decide), f 34 (by decide)]
    exact ⟨t1, t2, t3⟩
/-- what a reader of a part leaves: a fault, or all as the specification says -/
def G9 (E : RE) (S : Option RS) (q : Int × Mem) : Prop := ((q.1 = 0 ∨ ¬ mG q.2 126 36 = 0) ∧ S = none) ∨ ∃ S', S = some S' ∧ q.1 = 1 ∧ R2 E S'.b q.2 ∧ D9 S'.ps q.2 ∧ W9 S'.ws q.2 ∧ mG q.2 126 40 = (S'.ps.length : Int)
theorem G9.mk {S : Option RS} (h : R2 E b M ∧ D9 ps M ∧ W9 ws M ∧ mG M 126 40 = (ps.length : Int)) (e : S = some ((b, ws, ps) : RS)) : G9 E S (1, M) := Or.inr ⟨(b, ws, ps), e, rfl, h⟩
theorem G9.of {S S' : Option RS} {q : Int × Mem} (h : G9 E S q) (e : S = S') : G9 E S' q := e ▸ h
/-- a part is being read: its number is p, its rows are to come -/
def B9 (E : RE) (b : Int) (ps : List Row) (ws : List (Int × Int)) (p : Int) (M : Mem) : Prop := R2 E b M ∧ D9 ps M ∧ W9 ws M ∧ mG M 126 40 = (ps.length : Int) + 1 ∧ p = (ps.length : Int)
theorem B9.af {b' : Int} {M' : Mem} (h : B9 E b ps ws p M) (a : AF9 M M') (r : R2 E b' M') : B9 E b' ps ws p M' := ⟨r, a.d9 h.2.1, a.w9 h.2.2.1, (a 126 40 (by omega)).trans h.2.2.2.1, h.2.2.2.2⟩
theorem B9.st {c x : Int} {M' : Mem} (h : B9 E b ps ws p M) (hc : 156 ≤ c) (hM : M' = mS M c p x) : B9 E b ps ws p M' := by
  obtain ⟨h1, h2, h3, h4, h5⟩ := h
  exact ⟨h1.kp (fun c' j hc' _ => st_ne hM (fun z => by omega)), h2.kp (fun c' j _ _ hj => st_ne hM (fun z => by omega)), h3.kp (fun c' j _ => st_ne hM (fun z => by omega)), (st_ne hM (fun z => by omega)).trans h4, h5⟩
theorem B9.ad (h : B9 E b ps ws p M) : AD M := h.1.1.1
theorem ad42 (h : AD M) : mG M 126 41 = 156 ∧ mG M 126 42 = 157 ∧ mG M 126 43 = 158 ∧ mG M 126 44 = 159 ∧ mG M 126 39 = 155 ∧ mG M 126 9 = 135 ∧ mG M 126 10 = 136 := ⟨h 41 (by decide), h 42 (by decide), h 43 (by decide), h 44 (by decide), h 39 (by decide), h 9 (by decide), h 10 (by decide)⟩
theorem B9.done {r : Row} (h : B9 E b ps ws p M) (hr : RW r p M) : R2 E b M ∧ D9 (ps ++ [r]) M ∧ W9 ws M ∧ mG M 126 40 = ((ps ++ [r]).length : Int) := by
  obtain ⟨h1, h2, h3, h4, h5⟩ := h
  subst h5
  exact ⟨h1, h2.snoc hr, h3, by rw [h4, List.length_append]; rfl⟩
/-- what waits grows by one -/
theorem r_wait {x : Int} (ha : AD M) (w : W9 ws M) (hl : ws.length < 402) : pw (mX9_wait 126 x M) (fun q => (∀ c j : Int, ¬ (c = 126 ∧ j = 38) → ¬ c = 155 → mG q.2 c j = mG M c j) ∧ W9 ((sc, x) :: ws) q.2) := by
  unfold mX9_wait
  refine p_gFc (ji := 39) rfl (ad42 ha).2.2.2.2.1 (p_gFc (ji := 38) rfl w.1 (p_aS (fun M1 h1 => ?_)))
  refine p_gFc (ji := 38) rfl ((st_ne h1 (by omega)).trans w.1) (p_pF (ji := 38) rfl (fun M2 h2 => p_ret ?_))
  rw [wI_id (x := (ws.length : Int) + 1) (by omega) (by omega)] at h2
  refine ⟨fun c j x y => (st_ne h2 x).trans (st_ne h1 (fun z => y z.1)), (st_eq h2).trans (by simp), fun k x hx => ?_⟩
  rw [List.length_cons]
  cases k with
  | zero =>
    have hx : (sc, _) = x := Option.some.inj hx
    subst hx
    rw [show (((ws.length + 1 : Nat) : Int) - 1 - ((0 : Nat) : Int)) = (ws.length : Int) by omega]
    exact (st_ne h2 (by omega)).trans (st_eq h1)
  | succ k =>
    replace hx : ws[k]? = some x := hx
    have lt := get_lt hx
    rw [show (((ws.length + 1 : Nat) : Int) - 1 - ((k + 1 : Nat) : Int)) = (ws.length : Int) - 1 - (k : Int) by omega]
    exact (st_ne h2 (by omega)).trans ((st_ne h1 (by omega)).trans (w.2 k x hx))
theorem r_49 {a cnt : Int} (h : B9 E b ps ws p M) (ha : mG M 156 p = a) (ha3 : a ≤ 3) (hc : mG M 159 p = cnt) (hwl : ws.length < 402) : pw (mX9_readBinder_49 126 p bo M) (G9 E (E.rBind2 a cnt sc bo ws ps b)) := by
  have un : E.rBind2 a cnt sc bo ws ps b = if varW (E.wd b) = -1 then none else if kindW (E.wd (E.sk (E.we b))) = -1 then none else some ⟨E.sk (E.we (E.sk (E.we b))), (bindC sc (cv (varW (E.wd b))) (kindW (E.wd (E.sk (E.we b)))) (ishr sc 16), bindR bo (varW (E.wd b)) (kindW (E.wd (E.sk (E.we b))))) :: ws, ps ++ [⟨a, cnt, ishr sc 16, kindW (E.wd (E.sk (E.we b))), a, varW (E.wd b), kindW (E.wd (E.sk (E.we b))), cnt⟩]⟩ := rfl
  unfold mX9_readBinder_49
  refine p_gK (p_call (r_varOf h.1) (fun v M1 g => ?_))
  obtain ⟨e, hv⟩ := g
  replace e : M1 = M := e
  replace hv : v = varW (E.wd b) := hv
  subst e
  refine p_if (fun c => p_gF (ji := 31) rfl (fun _ _ => p_pF (ji := 35) rfl (fun M2 _ => p_ret (Or.inl ⟨Or.inl rfl, ?_⟩)))) (fun c => ?_)
  · rw [un, if_pos (hv.symm.trans c)]
  replace c : ¬ v = -1 := c
  refine p_gK (p_call (r_word h.1 (varW_ne (by rw [← hv]; exact c))) (fun _ M2 g => p_gK ?_))
  obtain ⟨a2, r2⟩ := g
  have h2 := h.af a2 r2
  refine p_call (r_kindOf h2.1) (fun k M3 g => ?_)
  obtain ⟨e, hk⟩ := g
  replace e : M3 = M2 := e
  replace hk : k = kindW (E.wd (E.sk (E.we b))) := hk
  subst e
  refine p_if (fun c2 => p_gF (ji := 31) rfl (fun _ _ => p_pF (ji := 35) rfl (fun M2 _ => p_ret (Or.inl ⟨Or.inl rfl, ?_⟩)))) (fun c2 => ?_)
  · rw [un, if_neg (by rw [← hv]; exact c), if_pos (hk.symm.trans c2)]
  replace c2 : ¬ k = -1 := c2
  refine p_gK (p_call (r_word h2.1 (kindW_ne (by rw [← hk]; exact c2))) (fun _ M4 g => ?_))
  obtain ⟨a4, r4⟩ := g
  have h4 := h2.af a4 r4
  have a24 := a2.tr a4
  refine p_gFc (ji := 42) rfl (ad42 h4.ad).2.1 (p_aS (fun M5 s5 => ?_))
  have h5 := h4.st (by decide) s5
  refine p_gFc (ji := 43) rfl (ad42 h5.ad).2.2.1 (p_aS (fun M6 s6 => p_gK ?_))
  have h6 := h5.st (by decide) s6
  refine p_call (r_wait (sc := bindC sc (cv v) k (ishr sc 16)) h6.ad h6.2.2.1 hwl) (fun _ M7 g => p_ret (Or.inr ⟨⟨E.sk (E.we (E.sk (E.we b))), (bindC sc (cv v) k (ishr sc 16), bindR bo v k) :: ws, ps ++ [⟨a, cnt, ishr sc 16, k, a, v, k, cnt⟩]⟩, ?_, rfl, ?_⟩))
  · rw [un, ← hv, ← hk, if_neg c, if_neg c2]
  obtain ⟨g, w7⟩ := g
  replace g : ∀ c j : Int, ¬ (c = 126 ∧ j = 38) → ¬ c = 155 → mG M7 c j = mG M6 c j := g
  replace w7 : W9 ((bindC sc (cv v) k (ishr sc 16), bindR bo v k) :: ws) M7 := w7
  have hrw : RW (⟨a, cnt, ishr sc 16, k, a, v, k, cnt⟩ : Row) p M6 := ⟨(st_ne s6 (by omega)).trans ((st_ne s5 (by omega)).trans ((a24 156 p (by omega)).trans ha)), fun _ => (st_ne s6 (by omega)).trans (st_eq s5), fun _ => st_eq s6, fun _ => (st_ne s6 (by omega)).trans ((st_ne s5 (by omega)).trans ((a24 159 p (by omega)).trans hc))⟩
  obtain ⟨x1, x2, x3, x4⟩ := h6.done hrw
  exact ⟨x1.kp (fun c j hc hj => g c j (by omega) (by omega)), x2.kp (fun c j c0 c1 _ => g c j (by omega) (by omega)), w7, (g 126 40 (by omega) (by decide)).trans x4⟩
theorem r_readBinder {a : Int} (h : B9 E b ps ws p M) (ha : mG M 156 p = a) (ha3 : 0 ≤ a ∧ a ≤ 3) (hwl : ws.length < 402) : pw (mX9_readBinder 126 p bo M) (G9 E ((E.rn a b).bind fun c => E.rBind2 a c.1 sc bo ws ps c.2)) := by
  unfold mX9_readBinder
  refine p_gFc (ji := 44) rfl (ad42 h.ad).2.2.2.1 (p_aS (fun M1 s1 => ?_))
  have h1 := h.st (by decide) s1
  have ha1 : mG M1 156 p = a := (st_ne s1 (by omega)).trans ha
  refine p_gFc (ji := 41) rfl (ad42 h1.ad).1 (p_aGc ha1 (p_if (fun c => ?_) (fun c => ?_)))
  · have e : (E.rn a b) = some (0, b) := if_pos c
    rw [e]
    exact r_49 h1 ha1 ha3.2 (st_eq s1) hwl
  · have e : (E.rn a b) = if E.dig b = true ∧ E.de b - b ≤ 4 then some (E.val b (E.de b - b).toNat, E.sk (E.de b)) else none := if_neg c
    have hn := h.1.1.2.2.1
    obtain ⟨_, _, t1, t2, t3⟩ := h1.1
    refine p_gF (ji := 32) rfl (fun s hs => p_if (fun c3 => ?_) (fun c3 => ?_))
    · have t : E.dig b = true ∧ E.de b - b ≤ 4 ∧ mG M1 126 29 = E.de b ∧ mG M1 126 33 = E.val b (E.de b - b).toNat := by
        rcases t3 with ⟨_, t⟩ | ⟨_, t, _⟩ | ⟨t, t4, t5⟩ | ⟨_, _, _, t⟩
        · exfalso; omega
        · exfalso; omega
        · by_cases l : E.de b - b ≤ 4
          · exact ⟨t, l, (t4 l).2⟩
          · have := t5 l; exfalso; omega
        · exfalso; omega
      obtain ⟨d1, d2, d3, d4⟩ := t
      have lt := RE.digT d1
      obtain ⟨e1, e2, _, e4⟩ := E.de_spec b t2.1 hn.2
      have dn : E.de b ≤ E.n := by
        rcases e4 with e4 | e4 <;> omega
      refine p_gFc (ji := 44) rfl (ad42 h1.ad).2.2.2.1 (p_gFc (ji := 33) rfl d4 (p_aS (fun M2 s2 => p_gK ?_)))
      have h2 := h1.st (by decide) s2
      refine p_call (r_next h2.1 ((st_ne s2 (by omega)).trans d3) ⟨by omega, dn⟩) (fun _ M3 g => ?_)
      obtain ⟨a3, r3⟩ := g
      replace a3 : AF9 M2 M3 := a3
      have h3 := h2.af a3 r3
      rw [e, if_pos ⟨d1, d2⟩]
      exact r_49 h3 ((a3 156 p (by omega)).trans ((st_ne s2 (by omega)).trans ha1)) ha3.2 ((a3 159 p (by omega)).trans (st_eq s2)) hwl
    · have nd : ¬ (E.dig b = true ∧ E.de b - b ≤ 4) := fun y => by
        rcases t3 with ⟨t, _⟩ | ⟨t, _⟩ | ⟨t, t4, t5⟩ | ⟨_, _, t, _⟩
        · have := RE.digT y.1; omega
        · have := RE.digT y.1; have := RE.letT t; omega
        · exact c3 (hs.symm.trans (t4 y.2).1)
        · rw [t] at y; cases y.1
      refine p_gF (ji := 31) rfl (fun _ _ => p_pF (ji := 35) rfl (fun M2 _ => p_ret (Or.inl ⟨Or.inl rfl, ?_⟩)))
      rw [e, if_neg nd]; rfl
theorem r_readSame (h : B9 E (E.sk (E.we b)) ps ws p M) (ha : mG M 156 p = 8) : pw (mX9_readSame 126 p bo M) (G9 E (E.rSame sc bo ws ps b)) := by
  have un : E.rSame sc bo ws ps b = (E.rv bo (-1) (E.sk (E.we b))).bind fun x => (E.rv bo (bnd bo x.1) x.2).bind fun y => some ⟨y.2, ws, ps ++ [⟨8, 0, slt sc x.1, slt sc y.1, 8, x.1, y.1, 0⟩]⟩ := rfl
  have neg : ∀ (x v : Int) (M1 M2 : Mem), AD M1 → M2 = mS M1 158 p v → E.rSame sc bo ws ps b = none → (v = -1 ∨ ¬ mG M1 126 36 = 0) → pw ((gF 9 43 M2 126).bind fun a46 => (aG 10 M2 a46 p).bind fun a50 => if a50 = (-1) then some ((0 : Int), M2) else some (1, M2)) (G9 E (E.rSame sc bo ws ps b)) := fun x v M1 M2 ad s e hv => by
    refine p_gFc (ji := 43) rfl ((st_ne s (by omega)).trans (ad42 ad).2.2.1) (p_aGc (st_eq s) (p_if (fun c => p_ret (Or.inl ⟨Or.inl rfl, e⟩)) (fun c => p_ret (Or.inl ⟨Or.inr ?_, e⟩))))
    rcases hv with hv | hv
    · exact absurd hv c
    · show ¬ mG M2 126 36 = 0
      rw [st_ne s (by omega)]; exact hv
  unfold mX9_readSame
  refine p_gFc (ji := 42) rfl (ad42 h.ad).2.1 (p_gK (p_call (r_readVar h.1) (fun v M1 g => p_aS (fun M2 s2 => ?_))))
  obtain ⟨tk, g⟩ := g
  replace tk : TK M M1 := tk
  have ad1 := tk.ad h.ad
  have g42 : ∀ j : Int, ¬ adc j = 0 → mG M2 126 j = adc j := fun j hj => (st_ne s2 (by omega)).trans (ad1 j hj)
  have ad2 : AD M2 := g42
  refine p_gFc (ji := 42) rfl (ad42 ad2).2.1 (p_aGc (st_eq s2) (p_if (fun c => p_ret ?_) (fun c => ?_)))
  · rcases g with ⟨_, g⟩ | ⟨v', b', _, g1, g2, _⟩
    · exact Or.inl ⟨Or.inl rfl, by rw [un, g]; rfl⟩
    · replace g2 : v = v' := g2
      replace c : v = -1 := c
      omega
  refine p_gFc (ji := 43) rfl (ad42 ad2).2.2.1 (p_gFc (ji := 42) rfl (ad42 ad2).2.1 (p_aGc (st_eq s2) (p_call r_bound (fun x M3 gb => p_gK ?_))))
  obtain ⟨e, hx⟩ := gb
  replace e : M3 = M2 := e
  replace hx : x = bnd bo v := hx
  subst e; subst hx
  rcases g with ⟨g1, g⟩ | ⟨v', b', g, g1, g2, g3, g4⟩
  · have g1 : ¬ mG M1 126 36 = 0 := by
      rcases g1 with g1 | g1
      · exact absurd g1 c
      · exact g1
    refine p_call pt_readVar (fun y M4 t => p_aS (fun M5 s5 => ?_))
    have t : TK M3 M4 := t.1
    exact neg 0 y M4 M5 (t.ad ad2) s5 (by rw [un, g]; rfl) (Or.inr (t.2 (by rw [st_ne s2 (by omega)]; exact g1)))
  · replace g2 : v = v' := g2
    subst g2
    replace g3 : AF9 M M1 := g3
    replace g4 : R2 E b' M1 := g4
    have h1 : B9 E b' ps ws p M1 := h.af g3 g4
    have h2 := h1.st (by decide) s2
    refine p_call (r_readVar h2.1) (fun y M4 gg => p_aS (fun M5 s5 => ?_))
    obtain ⟨tk4, gg⟩ := gg
    replace tk4 : TK M3 M4 := tk4
    rcases gg with ⟨k1, k⟩ | ⟨v2, b2, k, k1, k2, k3, k4⟩
    · refine neg 0 y M4 M5 (tk4.ad ad2) s5 ?_ k1
      rw [un, g]
      show (E.rv bo (bnd bo v) b').bind _ = none
      rw [k]; rfl
    · replace k2 : y = v2 := k2
      subst k2
      replace k3 : AF9 M3 M4 := k3
      have h4 : B9 E b2 ps ws p M4 := h2.af k3 k4
      have h5 := h4.st (by decide) s5
      refine p_gFc (ji := 43) rfl (ad42 h5.ad).2.2.1 (p_aGc (st_eq s5) (p_it0 (by omega) (p_ret (Or.inr ⟨⟨b2, ws, ps ++ [⟨8, 0, slt sc v, slt sc y, 8, v, y, 0⟩]⟩, ?_, rfl, h5.done ⟨?_, fun _ => ?_, fun _ => st_eq s5, fun z => ?_⟩⟩))))
      · rw [un, g]
        show (E.rv bo (bnd bo v) b').bind _ = _
        rw [k]; rfl
      · exact (st_ne s5 (by omega)).trans ((k3 156 p (by omega)).trans ((st_ne s2 (by omega)).trans ((g3 156 p (by omega)).trans ha)))
      · exact (st_ne s5 (by omega)).trans ((k3 157 p (by omega)).trans (st_eq s2))
      · replace z : (8 : Int) ≤ 3 ∨ (8 : Int) = 9 ∨ (8 : Int) = 12 := z
        omega
end
end
