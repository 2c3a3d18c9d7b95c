/-! ===== the reference takes tokens ===== -/
/-- 64 bits: a number that isn't negative, as a natural one -/
theorem nonneg_lv {x : Int} (h0 : 0 ≤ x) (h1 : x < 9223372036854775808) : (Int64.ofInt x).toBitVec.toNat = x.toNat := by
  have h2 : (Int64.ofInt x).toInt = x := toInt_L ⟨by omega, h1⟩
  have h3 : (Int64.ofInt x).toInt = (Int64.ofInt x).toBitVec.toInt := rfl
  rw [h3, BitVec.toInt_eq_toNat_cond] at h2
  have := (Int64.ofInt x).toBitVec.isLt
  split at h2 <;> omega
theorem toInt_small64 (x : Int64) (h : x.toBitVec.toNat < 9223372036854775808) : x.toInt = (x.toBitVec.toNat : Int) := by
  show x.toBitVec.toInt = _
  rw [BitVec.toInt_eq_toNat_cond, if_pos (by omega)]
theorem lor_nat {x y : Int} (h0 : 0 ≤ x) (h1 : x < 9223372036854775808) (hy0 : 0 ≤ y) (hy1 : y < 9223372036854775808) : lor x y = ((x.toNat ||| y.toNat : Nat) : Int) := by
  unfold lor
  have e : (Int64.ofInt x ||| Int64.ofInt y).toBitVec.toNat = x.toNat ||| y.toNat := by
    rw [Int64.toBitVec_or, BitVec.toNat_or, nonneg_lv h0 h1, nonneg_lv hy0 hy1]
  have h2 : x.toNat ||| y.toNat < 2 ^ 63 := Nat.or_lt_two_pow (by omega) (by omega)
  rw [toInt_small64 _ (by rw [e]; omega), e]
theorem shl8 : ((Int32.ofInt 8).toInt64 &&& 63).toBitVec.smod 64 = 8#64 := by decide +kernel
theorem lshl8 {x : Int} (h0 : 0 ≤ x) (h1 : x < 36028797018963968) : lshl x 8 = 256 * x := by
  unfold lshl
  have e : (Int64.ofInt x <<< ((Int32.ofInt 8).toInt64 &&& 63)).toBitVec.toNat = 256 * x.toNat := by
    rw [Int64.toBitVec_shiftLeft]
    show ((Int64.ofInt x).toBitVec <<< (((Int32.ofInt 8).toInt64 &&& 63).toBitVec.smod 64)).toNat = _
    rw [shl8, BitVec.shiftLeft_eq', BitVec.toNat_shiftLeft, nonneg_lv h0 (by omega)]
    show x.toNat <<< 8 % 18446744073709551616 = _
    rw [Nat.shiftLeft_eq]
    omega
  rw [toInt_small64 _ (by rw [e]; omega), e]
  omega
theorem lor8 {x c : Int} (h0 : 0 ≤ x) (h1 : x < 36028797018963968) (c0 : 0 ≤ c) (c1 : c < 256) : lor (lshl x 8) (i2l c) = 256 * x + c := by
  rw [lshl8 h0 h1]
  show lor (256 * x) c = _
  rw [lor_nat (by omega) (by omega) c0 (by omega)]
  have e := Nat.shiftLeft_add_eq_or_of_lt (i := 8) (b := c.toNat) (by omega) x.toNat
  rw [show (256 * x).toNat = x.toNat <<< 8 by rw [Nat.shiftLeft_eq]; omega, ← e, Nat.shiftLeft_eq]
  omega
/-- bytes as one number -/
def pkR : List Int → Int
  | [] => 0
  | c :: r => 256 * pkR r + c
def pk (L : List Int) : Int := pkR L.reverse
def okB (L : List Int) : Prop := ∀ c, c ∈ L → 1 ≤ c ∧ c ≤ 127
theorem pkR_b : ∀ L : List Int, okB L → 0 ≤ pkR L ∧ 2 * pkR L < 256 ^ L.length ∧ (L ≠ [] → 0 < pkR L) := by
  intro L
  induction L with
  | nil => intro _; exact ⟨by show (0 : Int) ≤ 0; decide, by show 2 * (0 : Int) < 1; decide, fun h => absurd rfl h⟩
  | cons c r ih =>
    intro h
    obtain ⟨a, b, _⟩ := ih (fun x hx => h x (List.mem_cons_of_mem _ hx))
    have hc := h c (List.mem_cons_self ..)
    show 0 ≤ 256 * pkR r + c ∧ 2 * (256 * pkR r + c) < 256 ^ (r.length + 1) ∧ (c :: r ≠ [] → 0 < 256 * pkR r + c)
    rw [show (256 : Int) ^ (r.length + 1) = 256 ^ r.length * 256 from Int.pow_succ ..]
    generalize (256 : Int) ^ r.length = X at b
    exact ⟨by omega, by omega, fun _ => by omega⟩
theorem pkR_inj : ∀ L K : List Int, okB L → okB K → pkR L = pkR K → L = K := by
  intro L
  induction L with
  | nil =>
    intro K _ hK h
    cases K with
    | nil => rfl
    | cons c r =>
      have := (pkR_b (c :: r) hK).2.2 (by simp)
      rw [← h] at this
      exact absurd this (by show ¬ (0 : Int) < 0; decide)
  | cons c r ih =>
    intro K hL hK h
    cases K with
    | nil =>
      have := (pkR_b (c :: r) hL).2.2 (by simp)
      rw [h] at this
      exact absurd this (by show ¬ (0 : Int) < 0; decide)
    | cons d s =>
      replace h : 256 * pkR r + c = 256 * pkR s + d := h
      have hc := hL c (List.mem_cons_self ..)
      have hd := hK d (List.mem_cons_self ..)
      have e1 : c = d := by omega
      have e2 : pkR r = pkR s := by omega
      rw [e1, ih s (fun x hx => hL x (List.mem_cons_of_mem _ hx)) (fun x hx => hK x (List.mem_cons_of_mem _ hx)) e2]
theorem pk_inj {L K : List Int} (hL : okB L) (hK : okB K) (h : pk L = pk K) : L = K := by
  have := pkR_inj L.reverse K.reverse (fun c hc => hL c (List.mem_reverse.mp hc)) (fun c hc => hK c (List.mem_reverse.mp hc)) h
  exact List.reverse_inj.mp this
theorem pk_pos {L : List Int} (hL : okB L) (h : L ≠ []) : 0 < pk L :=
  (pkR_b L.reverse (fun c hc => hL c (List.mem_reverse.mp hc))).2.2 (by simpa using h)
section
variable {E : RE} {M : Mem}
/-- so many bytes from b on -/
def RE.by' (E : RE) (b : Int) (k : Nat) : List Int := (List.range k).map (fun (i : Nat) => E.t (b + (i : Int)))
theorem RE.by_succ (b : Int) (k : Nat) : E.by' b (k + 1) = E.by' b k ++ [E.t (b + (k : Int))] := by
  unfold RE.by'
  rw [List.range_succ, List.map_append]; rfl
theorem RE.by_len (b : Int) (k : Nat) : (E.by' b k).length = k := by unfold RE.by'; simp
theorem RE.by_ok {b : Int} {k : Nat} (h : ∀ i, b ≤ i → i < b + (k : Int) → E.let' i = true) : okB (E.by' b k) := by
  intro c hc
  unfold RE.by' at hc
  rw [List.mem_map] at hc
  obtain ⟨i, hi, e⟩ := hc
  rw [List.mem_range] at hi
  have := RE.letT (h (b + (i : Int)) (by omega) (by omega))
  omega
theorem pk_snoc (L : List Int) (c : Int) : pk (L ++ [c]) = 256 * pk L + c := by
  unfold pk
  rw [List.reverse_append]; rfl
/-- what the reference reads of -/
def R9 (E : RE) (M : Mem) : Prop := AD M ∧ mG M 126 30 = E.n ∧ (0 ≤ E.n ∧ E.n ≤ 400) ∧ (∀ i, 0 ≤ i → i < E.n → iand (mG M 127 i) 255 = E.t i) ∧ mG M 134 0 = E.nr ∧ (0 ≤ E.nr ∧ E.nr ≤ 4) ∧ ∀ r, 0 ≤ r → r < E.nr → mG M 135 r = E.k1 r ∧ mG M 136 r = E.k2 r
/-- tokens alone are others -/
def AF9 (M M' : Mem) : Prop := ∀ c j : Int, ¬ (c = 126 ∧ 29 ≤ j ∧ j ≤ 34 ∧ ¬ j = 30) → mG M' c j = mG M c j
theorem AF9.rf {M : Mem} : AF9 M M := fun _ _ _ => rfl
theorem AF9.tr {M M1 M2 : Mem} (h1 : AF9 M M1) (h2 : AF9 M1 M2) : AF9 M M2 := fun c j h => (h2 c j h).trans (h1 c j h)
theorem AF9.st {M M1 M2 : Mem} {i x : Int} (h1 : AF9 M M1) (hM : M2 = mS M1 126 i x) (hi : 29 ≤ i ∧ i ≤ 34 ∧ ¬ i = 30) : AF9 M M2 := fun c j h => (st_ne hM (fun z => h ⟨z.1, by omega⟩)).trans (h1 c j h)
theorem AF9.ad {M M' : Mem} (h : AF9 M M') (ha : AD M) : AD M' := ha.of (fun j hj => h 126 j (fun z => (adc_in hj).1 (by omega)))
theorem R9.kp {M M' : Mem} (e : R9 E M) (ha : AD M') (h : ∀ c j : Int, (c = 126 ∧ j = 30) ∨ c = 127 ∨ (134 ≤ c ∧ c ≤ 136) → mG M' c j = mG M c j) : R9 E M' := by
  obtain ⟨_, e1, e2, e3, e4, e5, e6⟩ := e
  refine ⟨ha, (h _ _ (Or.inl ⟨rfl, rfl⟩)).trans e1, e2, fun i i0 i1 => by rw [h 127 i (Or.inr (Or.inl rfl))]; exact e3 i i0 i1, (h 134 0 (Or.inr (Or.inr (by omega)))).trans e4, e5, fun r r0 r1 => ?_⟩
  rw [h 135 r (Or.inr (Or.inr (by omega))), h 136 r (Or.inr (Or.inr (by omega)))]
  exact e6 r r0 r1
theorem AF9.r9 {M' : Mem} (h : AF9 M M') (e : R9 E M) : R9 E M' := e.kp (h.ad e.1) (fun c j z => h c j (by omega))
theorem R9.by (e : R9 E M) {i : Int} (h0 : 0 ≤ i) (h1 : i < E.n) : 0 ≤ E.t i ∧ E.t i ≤ 255 := by
  rw [← e.2.2.2.1 i h0 h1]
  exact iand_r (by decide) (by decide)
def RE.sb (E : RE) (p : Int) : Int := if p < E.n then E.t p else -1
theorem r_see {p : Int} (e : R9 E M) (h : mG M 126 29 = p) (h0 : 0 ≤ p) : pw (mX9_see 126 M) (fun q => q.2 = M ∧ q.1 = E.sb p) := by
  unfold mX9_see
  refine p_gFc (ji := 29) rfl h (p_gFc (ji := 30) rfl e.2.1 (p_if (fun c => p_ret ⟨rfl, ?_⟩) (fun c => ?_)))
  · exact (if_neg (by omega)).symm
  · refine p_gFc (ji := 1) rfl (e.1 1 (by decide)) (p_gFc (ji := 29) rfl h (p_aG (fun v hv => p_ret ⟨rfl, ?_⟩)))
    show iand v 255 = _
    rw [← hv]
    show iand (mG M 127 p) 255 = _
    rw [e.2.2.2.1 p h0 (by omega)]
    exact (if_pos (by omega)).symm
theorem r_in {a b c : Int} : pw (mX9_in a b c M) (fun q => q.2 = M ∧ ((q.1 = 1 ∧ b ≤ a ∧ a ≤ c) ∨ (q.1 = 0 ∧ ¬ (b ≤ a ∧ a ≤ c)))) := by
  unfold mX9_in
  exact p_if (fun x => p_ret ⟨rfl, Or.inr ⟨rfl, by omega⟩⟩) (fun x => p_if (fun y => p_ret ⟨rfl, Or.inr ⟨rfl, by omega⟩⟩) (fun y => p_ret ⟨rfl, Or.inl ⟨rfl, by omega, by omega⟩⟩))
theorem sb_let (p : Int) : (97 ≤ E.sb p ∧ E.sb p ≤ 122) ↔ E.let' p = true := by
  unfold RE.sb RE.let'
  constructor
  · intro h
    by_cases c : p < E.n
    · rw [if_pos c] at h; exact decide_eq_true ⟨c, h⟩
    · rw [if_neg c] at h; omega
  · intro h
    have h := of_decide_eq_true h
    rw [if_pos h.1]; exact h.2
theorem sb_dig (p : Int) : (48 ≤ E.sb p ∧ E.sb p ≤ 57) ↔ E.dig p = true := by
  unfold RE.sb RE.dig
  constructor
  · intro h
    by_cases c : p < E.n
    · rw [if_pos c] at h; exact decide_eq_true ⟨c, h⟩
    · rw [if_neg c] at h; omega
  · intro h
    have h := of_decide_eq_true h
    rw [if_pos h.1]; exact h.2
/-- the token at b is taken -/
def RTok (E : RE) (b : Int) (M : Mem) : Prop := mG M 126 31 = b ∧ (0 ≤ b ∧ b ≤ E.n) ∧ ((E.n ≤ b ∧ mG M 126 32 = 0) ∨ (E.let' b = true ∧ mG M 126 32 = 2 ∧ mG M 126 29 = E.we b ∧ mG M 126 34 = (if (E.wd b).length ≤ 8 then pk (E.wd b) else 0)) ∨ (E.dig b = true ∧ (E.de b - b ≤ 4 → mG M 126 32 = 3 ∧ mG M 126 29 = E.de b ∧ mG M 126 33 = E.val b (E.de b - b).toNat) ∧ (¬ E.de b - b ≤ 4 → mG M 126 32 = 1)) ∨ (b < E.n ∧ E.let' b = false ∧ E.dig b = false ∧ mG M 126 32 = 1))
theorem wd_by {b p : Int} (hp : E.we b = p) : E.wd b = E.by' b (p - b).toNat := by unfold RE.wd RE.by'; rw [hp]
theorem r_79 {b : Int} (hb : 0 ≤ b) (hl : E.let' b = true) : ∀ (fu k : Nat) (M : Mem), R9 E M → mG M 126 29 = b + (k : Int) → mG M 126 31 = b → (k ≤ 8 → mG M 126 34 = pk (E.by' b k)) → b + (k : Int) ≤ E.n → (∀ i, b ≤ i → i < b + (k : Int) → E.let' i = true) → pw (mX9_token_79 fu 126 (k : Int) M) (fun q => AF9 M q.2 ∧ RTok E b q.2) := by
  intro fu
  induction fu with
  | zero => intro k M _ _ _ _ _ _; exact p_none
  | succ fu ih =>
    intro k M e h29 h31 h34 hk hw
    have hn := e.2.2.1
    show pw (bX9_token_79 (mX9_token_79 fu) 126 (k : Int) M) _
    unfold bX9_token_79
    refine p_gK (p_call (r_see e h29 (by omega)) (fun c M1 h => ?_))
    obtain ⟨e1, ec⟩ := h
    replace e1 : M1 = M := e1
    replace ec : c = E.sb (b + (k : Int)) := ec
    subst e1; subst ec
    refine p_call r_in (fun r M2 h => ?_)
    obtain ⟨e1, h⟩ := h
    replace e1 : M2 = M1 := e1
    subst e1
    rw [sb_let] at h
    rcases h with ⟨hr, h⟩ | ⟨hr, h⟩
    · replace hr : r = 1 := hr
      subst hr
      have lt := RE.letT h
      refine p_it0 (show ¬ (1 : Int) = 0 by decide) (p_gF (ji := 34) rfl (fun a ha => p_gK (p_call (r_see e h29 (by omega)) (fun c M3 h2 => ?_))))
      obtain ⟨e1, ec⟩ := h2
      replace e1 : M3 = M2 := e1
      replace ec : c = E.sb (b + (k : Int)) := ec
      subst e1; subst ec
      refine p_pF (ji := 34) rfl (fun M4 h4 => p_gFc (ji := 29) rfl ((st_ne h4 (by omega)).trans h29) (p_pF (ji := 29) rfl (fun M5 h5 => ?_)))
      have a5 : AF9 M3 M5 := (AF9.rf.st h4 (by decide)).st h5 (by decide)
      rw [wI_id (x := b + (k : Int) + 1) (by omega) (by omega)] at h5
      rw [wI_id (x := (k : Int) + 1) (by omega) (by omega), show (k : Int) + 1 = ((k + 1 : Nat) : Int) by omega]
      refine p_mono (ih (k + 1) M5 (a5.r9 e) ((st_eq h5).trans (by omega)) ((st_ne h5 (by omega)).trans ((st_ne h4 (by omega)).trans h31)) (fun k8 => ?_) (by omega) (fun i i0 i1 => ?_)) (fun q z => ⟨a5.tr z.1, z.2⟩)
      · have hq := h34 (by omega)
        rw [ha] at hq
        have ok := RE.by_ok (E := E) (b := b) (k := k) hw
        have bd := pkR_b (E.by' b k).reverse (fun c hc => ok c (List.mem_reverse.mp hc))
        rw [List.length_reverse, RE.by_len] at bd
        have bd2 : 2 * pk (E.by' b k) < 256 ^ k := bd.2.1
        have bd0 : 0 ≤ pk (E.by' b k) := bd.1
        have pw7 : (256 : Int) ^ k ≤ 256 ^ 7 := by
          have e1 : (256 : Int) ^ k = ((256 ^ k : Nat) : Int) := by simp
          rw [e1]
          have := Nat.pow_le_pow_right (n := 256) (i := k) (by decide) (show k ≤ 7 by omega)
          have e2 : (256 : Int) ^ 7 = ((256 ^ 7 : Nat) : Int) := by simp
          rw [e2]; omega
        have p7 : (256 : Int) ^ 7 = 72057594037927936 := by decide
        rw [st_ne h5 (by omega), st_eq h4, RE.by_succ, pk_snoc, ← hq]
        have es : E.sb (b + (k : Int)) = E.t (b + (k : Int)) := if_pos lt.1
        rw [es]
        exact lor8 (by rw [hq]; exact bd0) (by rw [hq]; omega) (by omega) (by omega)
      · by_cases w : i = b + (k : Int)
        · rw [w]; exact h
        · exact hw i i0 (by omega)
    · replace hr : r = 0 := hr
      subst hr
      have hf : E.let' (b + (k : Int)) = false := by
        cases z : E.let' (b + (k : Int)) with
        | false => rfl
        | true => exact absurd z h
      have hwe : E.we b = b + (k : Int) := ru_eq 400 b (b + (k : Int)) (by omega) (by omega) hw hf
      have hwd : E.wd b = E.by' b k := by rw [wd_by hwe]; congr 1; omega
      have fin : ∀ x, x = (if (E.wd b).length ≤ 8 then pk (E.wd b) else 0) → pw (mX9_token_141 126 126 x M2) (fun q => AF9 M2 q.2 ∧ RTok E b q.2) := fun x hx => by
        unfold mX9_token_141
        refine p_pF (ji := 34) rfl (fun M4 h4 => p_pF (ji := 32) rfl (fun M5 h5 => p_ret ⟨(AF9.rf.st h4 (by decide)).st h5 (by decide), ?_, by omega, Or.inr (Or.inl ⟨hl, st_eq h5, ?_, ?_⟩)⟩))
        · exact (st_ne h5 (by omega)).trans ((st_ne h4 (by omega)).trans h31)
        · exact (st_ne h5 (by omega)).trans ((st_ne h4 (by omega)).trans (h29.trans hwe.symm))
        · exact (st_ne h5 (by omega)).trans ((st_eq h4).trans hx)
      refine p_it1 (show (0 : Int) = 0 from rfl) (p_if (fun c => p_gF (ji := 34) rfl (fun a ha => fin a ?_)) (fun c => fin 0 ?_))
      · rw [hwd, RE.by_len, if_pos (by omega), ← ha]; exact h34 (by omega)
      · rw [hwd, RE.by_len, if_neg (by omega)]
theorem r_163 {b : Int} (hb : 0 ≤ b) (hl : E.dig b = true) : ∀ (fu k : Nat) (M : Mem), R9 E M → mG M 126 29 = b + (k : Int) → mG M 126 31 = b → (k ≤ 4 → mG M 126 33 = E.val b k ∧ 0 ≤ E.val b k ∧ E.val b k < 10 ^ k) → b + (k : Int) ≤ E.n → (∀ i, b ≤ i → i < b + (k : Int) → E.dig i = true) → pw (mX9_token_163 fu 126 (k : Int) M) (fun q => AF9 M q.2 ∧ RTok E b q.2) := by
  intro fu
  induction fu with
  | zero => intro k M _ _ _ _ _ _; exact p_none
  | succ fu ih =>
    intro k M e h29 h31 h33 hk hw
    have hn := e.2.2.1
    show pw (bX9_token_163 (mX9_token_163 fu) 126 (k : Int) M) _
    unfold bX9_token_163
    refine p_gK (p_call (r_see e h29 (by omega)) (fun c M1 h => ?_))
    obtain ⟨e1, ec⟩ := h
    replace e1 : M1 = M := e1
    replace ec : c = E.sb (b + (k : Int)) := ec
    subst e1; subst ec
    refine p_call r_in (fun r M2 h => ?_)
    obtain ⟨e1, h⟩ := h
    replace e1 : M2 = M1 := e1
    subst e1
    rw [sb_dig] at h
    rcases h with ⟨hr, h⟩ | ⟨hr, h⟩
    · replace hr : r = 1 := hr
      subst hr
      have lt := RE.digT h
      have nxt : ∀ x, (k + 1 ≤ 4 → x = E.val b (k + 1) ∧ 0 ≤ E.val b (k + 1) ∧ E.val b (k + 1) < 10 ^ (k + 1)) → pw (mX9_token_205 (mX9_token_163 fu) 126 (k : Int) 126 x M2) (fun q => AF9 M2 q.2 ∧ RTok E b q.2) := fun x hx => by
        unfold mX9_token_205
        refine p_pF (ji := 33) rfl (fun M4 h4 => p_gFc (ji := 29) rfl ((st_ne h4 (by omega)).trans h29) (p_pF (ji := 29) rfl (fun M5 h5 => ?_)))
        have a5 : AF9 M2 M5 := (AF9.rf.st h4 (by decide)).st h5 (by decide)
        rw [wI_id (x := b + (k : Int) + 1) (by omega) (by omega)] at h5
        rw [wI_id (x := (k : Int) + 1) (by omega) (by omega), show (k : Int) + 1 = ((k + 1 : Nat) : Int) by omega]
        refine p_mono (ih (k + 1) M5 (a5.r9 e) ((st_eq h5).trans (by omega)) ((st_ne h5 (by omega)).trans ((st_ne h4 (by omega)).trans h31)) (fun k4 => ?_) (by omega) (fun i i0 i1 => ?_)) (fun q z => ⟨a5.tr z.1, z.2⟩)
        · exact ⟨(st_ne h5 (by omega)).trans ((st_eq h4).trans (hx k4).1), (hx k4).2⟩
        · by_cases w : i = b + (k : Int)
          · rw [w]; exact h
          · exact hw i i0 (by omega)
      refine p_it0 (show ¬ (1 : Int) = 0 by decide) (p_if (fun c4 => p_gF (ji := 33) rfl (fun a _ => nxt a (fun k4 => by omega))) (fun c4 => ?_))
      have hq := h33 (by omega)
      refine p_gFc (ji := 33) rfl hq.1 (p_gK (p_call (r_see e h29 (by omega)) (fun c M3 h2 => ?_)))
      obtain ⟨e1, ec⟩ := h2
      replace e1 : M3 = M2 := e1
      replace ec : c = E.sb (b + (k : Int)) := ec
      subst e1; subst ec
      have es : E.sb (b + (k : Int)) = E.t (b + (k : Int)) := if_pos lt.1
      have pk4 : (10 : Int) ^ k ≤ 1000 := by
        have e1 : (10 : Int) ^ k = ((10 ^ k : Nat) : Int) := by simp
        rw [e1]
        have := Nat.pow_le_pow_right (n := 10) (i := k) (by decide) (show k ≤ 3 by omega)
        omega
      have ps : (10 : Int) ^ (k + 1) = 10 ^ k * 10 := Int.pow_succ ..
      have vs : E.val b (k + 1) = 10 * E.val b k + E.t (b + (k : Int)) - 48 := rfl
      refine nxt _ (fun _ => ⟨?_, ?_, ?_⟩)
      · rw [es, wI_id (x := 10 * E.val b k) (by omega) (by omega), wI_id (x := 10 * E.val b k + E.t (b + (k : Int))) (by omega) (by omega), wI_id (x := 10 * E.val b k + E.t (b + (k : Int)) - 48) (by omega) (by omega)]; rfl
      · rw [vs]; omega
      · rw [vs, ps]; omega
    · replace hr : r = 0 := hr
      subst hr
      have hf : E.dig (b + (k : Int)) = false := by
        cases z : E.dig (b + (k : Int)) with
        | false => rfl
        | true => exact absurd z h
      have hde : E.de b = b + (k : Int) := ru_eq 400 b (b + (k : Int)) (by omega) (by omega) hw hf
      have fin : ∀ x : Int, ((k : Int) ≤ 4 → x = 3) → (¬ (k : Int) ≤ 4 → x = 1) → pw (mX9_token_235 126 x M2) (fun q => AF9 M2 q.2 ∧ RTok E b q.2) := fun x h3 h1 => by
        unfold mX9_token_235
        refine p_pF (ji := 32) rfl (fun M5 h5 => p_ret ⟨AF9.rf.st h5 (by decide), (st_ne h5 (by omega)).trans h31, by omega, Or.inr (Or.inr (Or.inl ⟨hl, fun c => ⟨(st_eq h5).trans (h3 (by omega)), (st_ne h5 (by omega)).trans (h29.trans hde.symm), ?_⟩, fun c => (st_eq h5).trans (h1 (by omega))⟩))⟩)
        rw [show (E.de b - b).toNat = k by omega]
        exact (st_ne h5 (by omega)).trans (h33 (by omega)).1
      refine p_it1 (show (0 : Int) = 0 from rfl) (p_if (fun c => fin 3 (fun _ => rfl) (fun y => absurd c y)) (fun c => fin 1 (fun y => absurd y c) (fun _ => rfl)))
theorem r_token {p0 : Int} (e0 : R9 E M) (h0 : mG M 126 29 = p0) (hp : 0 ≤ p0 ∧ p0 ≤ E.n) : pw (mX9_token 126 M) (fun q => AF9 M q.2 ∧ RTok E (E.sk p0) q.2) := by
  have key : ∀ (fu : Nat) (p : Int) (M1 : Mem), R9 E M1 → AF9 M M1 → mG M1 126 29 = p → p0 ≤ p → p ≤ E.n → (∀ i, p0 ≤ i → i < p → E.blk i = true) → pw (mX9_token_0 fu 126 M1) (fun q => AF9 M q.2 ∧ RTok E (E.sk p0) q.2) := by
    intro fu
    induction fu with
    | zero => intro p M1 _ _ _ _ _ _; exact p_none
    | succ fu ih =>
      intro p M1 e af h29 b0 b1 hb
      have hn := e.2.2.1
      show pw (bX9_token_0 (mX9_token_0 fu) 126 M1) _
      unfold bX9_token_0
      have skip : E.sb p = 10 ∨ E.sb p = 32 → pw (mX9_token_18 (mX9_token_0 fu) 126 M1) (fun q => AF9 M q.2 ∧ RTok E (E.sk p0) q.2) := fun hs => by
        have lt : p < E.n := by
          by_cases c : p < E.n
          · exact c
          · unfold RE.sb at hs; rw [if_neg c] at hs; omega
        have es : E.sb p = E.t p := if_pos lt
        unfold mX9_token_18
        refine p_gFc (ji := 29) rfl h29 (p_pF (ji := 29) rfl (fun M2 h2 => ?_))
        have a2 : AF9 M1 M2 := AF9.rf.st h2 (by decide)
        rw [wI_id (x := p + 1) (by omega) (by omega)] at h2
        refine ih (p + 1) M2 (a2.r9 e) (af.tr a2) (st_eq h2) (by omega) (by omega) (fun i i0 i1 => ?_)
        by_cases w : i = p
        · rw [w]; exact decide_eq_true ⟨lt, by rw [← es]; exact hs⟩
        · exact hb i i0 (by omega)
      refine p_gK (p_call (r_see e h29 (by omega)) (fun c M2 h => ?_))
      obtain ⟨e1, ec⟩ := h
      replace e1 : M2 = M1 := e1
      replace ec : c = E.sb p := ec
      subst e1; subst ec
      refine p_if (fun c => skip (Or.inl c)) (fun c10 => p_gK (p_call (r_see e h29 (by omega)) (fun c M3 h => ?_)))
      obtain ⟨e1, ec⟩ := h
      replace e1 : M3 = M2 := e1
      replace ec : c = E.sb p := ec
      subst e1; subst ec
      refine p_if (fun c => skip (Or.inr c)) (fun c32 => ?_)
      replace c10 : ¬ E.sb p = 10 := c10
      replace c32 : ¬ E.sb p = 32 := c32
      have nb : E.blk p = false := by
        refine decide_eq_false (fun z => ?_)
        have es : E.sb p = E.t p := if_pos z.1
        omega
      have hsk : E.sk p0 = p := ru_eq 400 p0 p b0 (by omega) hb nb
      rw [hsk]
      refine p_gFc (ji := 29) rfl h29 (p_pF (ji := 31) rfl (fun M4 h4 => p_gK ?_))
      have a4 : AF9 M3 M4 := AF9.rf.st h4 (by decide)
      have e4 := a4.r9 e
      refine p_call (r_see e4 ((st_ne h4 (by omega)).trans h29) (by omega)) (fun c M5 h => ?_)
      obtain ⟨e1, ec⟩ := h
      replace e1 : M5 = M4 := e1
      replace ec : c = E.sb p := ec
      subst e1; subst ec
      refine p_pF (ji := 33) rfl (fun M6 h6 => p_pF (ji := 34) rfl (fun M7 h7 => ?_))
      have a7 : AF9 M3 M7 := (a4.st h6 (by decide)).st h7 (by decide)
      have e7 := a7.r9 e
      have g29 : mG M7 126 29 = p := (st_ne h7 (by omega)).trans ((st_ne h6 (by omega)).trans ((st_ne h4 (by omega)).trans h29))
      have g31 : mG M7 126 31 = p := (st_ne h7 (by omega)).trans ((st_ne h6 (by omega)).trans (st_eq h4))
      have g33 : mG M7 126 33 = 0 := (st_ne h7 (by omega)).trans (st_eq h6)
      have g34 : mG M7 126 34 = 0 := st_eq h7
      have b0' : 0 ≤ p := by omega
      refine p_if (fun cp => ?_) (fun cn => ?_)
      · replace cp : 0 ≤ E.sb p := cp
        have lt : p < E.n := by
          by_cases c : p < E.n
          · exact c
          · unfold RE.sb at cp; rw [if_neg c] at cp; omega
        refine p_call r_in (fun r M8 h => ?_)
        obtain ⟨e1, h⟩ := h
        replace e1 : M8 = M7 := e1
        subst e1
        rw [sb_let] at h
        rcases h with ⟨hr, h⟩ | ⟨hr, h⟩
        · replace hr : r = 1 := hr
          subst hr
          refine p_it0 (show ¬ (1 : Int) = 0 by decide) (p_mono (r_79 b0' h FU 0 M8 e7 (g29.trans (by omega)) g31 (fun _ => g34) (by omega) (fun i i0 i1 => absurd i1 (by omega))) (fun q z => ⟨(af.tr a7).tr z.1, z.2⟩))
        · replace hr : r = 0 := hr
          subst hr
          have lf : E.let' p = false := by
            cases z : E.let' p with
            | false => rfl
            | true => exact absurd z h
          refine p_it1 (show (0 : Int) = 0 from rfl) (p_call r_in (fun r M9 h => ?_))
          obtain ⟨e1, h⟩ := h
          replace e1 : M9 = M8 := e1
          subst e1
          rw [sb_dig] at h
          rcases h with ⟨hr, h⟩ | ⟨hr, h⟩
          · replace hr : r = 1 := hr
            subst hr
            refine p_it0 (show ¬ (1 : Int) = 0 by decide) (p_mono (r_163 b0' h FU 0 M9 e7 (g29.trans (by omega)) g31 (fun _ => ⟨g33, by show (0 : Int) ≤ 0; decide, by show (0 : Int) < 1; decide⟩) (by omega) (fun i i0 i1 => absurd i1 (by omega))) (fun q z => ⟨(af.tr a7).tr z.1, z.2⟩))
          · replace hr : r = 0 := hr
            subst hr
            have df : E.dig p = false := by
              cases z : E.dig p with
              | false => rfl
              | true => exact absurd z h
            refine p_it1 (show (0 : Int) = 0 from rfl) (p_gF (ji := 29) rfl (fun _ _ => p_pF (ji := 29) rfl (fun Ma ha => p_pF (ji := 32) rfl (fun Mb hb2 => p_ret ⟨((af.tr a7).st ha (by decide)).st hb2 (by decide), ?_, by omega, Or.inr (Or.inr (Or.inr ⟨lt, lf, df, st_eq hb2⟩))⟩))))
            exact (st_ne hb2 (by omega)).trans ((st_ne ha (by omega)).trans g31)
      · replace cn : ¬ 0 ≤ E.sb p := cn
        have ge : E.n ≤ p := by
          by_cases c : p < E.n
          · exfalso
            have := e.by b0' c
            unfold RE.sb at cn
            rw [if_pos c] at cn
            omega
          · omega
        exact p_pF (ji := 32) rfl (fun Ma ha => p_ret ⟨(af.tr a7).st ha (by decide), (st_ne ha (by omega)).trans g31, by omega, Or.inl ⟨ge, st_eq ha⟩⟩)
  unfold mX9_token
  exact key FU p0 M e0 AF9.rf h0 (Int.le_refl _) hp.2 (fun i i0 i1 => absurd i1 (by omega))
end
