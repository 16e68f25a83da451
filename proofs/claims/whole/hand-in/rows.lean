section
section NB
/-! numbers, stores, bits: rows of kit/rows -/
theorem pk_us {f : Nat → Int32} {k : Nat} {x : Int32} : upd f k x k = x := if_pos rfl
theorem pk_un {f : Nat → Int32} {k j : Nat} {x : Int32} (h : j ≠ k) : upd f k x j = f j := if_neg h
theorem pk_uLs {f : Nat → Int64} {k : Nat} {x : Int64} : vp_updL f k x k = x := if_pos rfl
theorem pk_uLn {f : Nat → Int64} {k j : Nat} {x : Int64} (h : j ≠ k) : vp_updL f k x j = f j := if_neg h
theorem pk_sub {a b : Nat} (h : b ≤ a) : nI a - nI b = nI (a - b) := by
  obtain ⟨c, rfl⟩ : ∃ c, a = c + b := ⟨a - b, by omega⟩
  rw [← nI_add, Int32.add_sub_cancel, Nat.add_sub_cancel]
theorem pk_m1 (n : Nat) : nI (n + 1) + (-1) = nI n := by
  rw [← nI_1, Int32.add_assoc, show (1 : Int32) + (-1) = 0 from rfl, Int32.add_zero]
theorem pk_mul (a b : Nat) : nI a * nI b = nI (a * b) := (Int32.ofNat_mul a b).symm
theorem pk_le {x y : Int32} {A B : Prop} (a b : Nat) (f : a ≤ b → A) (g : b < a → B) (hx : x = nI a := by rfl) (hy : y = nI b := by rfl) (ha : a < 2 ^ 31 := by omega) (hb : b < 2 ^ 31 := by omega) : (x ≤ y → A) ∧ (¬ x ≤ y → B) := by
  subst hx hy
  rw [nI_leI ha hb]
  exact ⟨f, fun z => g (by omega)⟩
theorem pk_lt {x y : Int32} {A B : Prop} (a b : Nat) (f : a < b → A) (g : b ≤ a → B) (hx : x = nI a := by rfl) (hy : y = nI b := by rfl) (ha : a < 2 ^ 31 := by omega) (hb : b < 2 ^ 31 := by omega) : (x < y → A) ∧ (¬ x < y → B) := by
  subst hx hy
  rw [nI_ltI ha hb]
  exact ⟨f, fun z => g (by omega)⟩
theorem pk_eq {x y : Int32} {A B : Prop} (a b : Nat) (f : a = b → A) (g : a ≠ b → B) (hx : x = nI a := by rfl) (hy : y = nI b := by rfl) (ha : a < 2 ^ 31 := by omega) (hb : b < 2 ^ 31 := by omega) : (x = y → A) ∧ (¬ x = y → B) := by
  subst hx hy
  rw [nI_eq ha hb]
  exact ⟨f, g⟩
theorem pk_in {x : Int32} (n N : Nat) (h : n < N) (hx : x = nI n := by rfl) (hN : N < 2 ^ 31 := by omega) : vp_in x N := by
  subst hx
  exact vp_in_nI h hN
theorem pk_cl {x : Int32} (n : Nat) (hx : x = nI n := by rfl) (h : n < 2 ^ 31 := by omega) : x.toNatClampNeg = n := by
  subst hx
  exact nI_clamp h
theorem pk_tn {n : Nat} (h : n < 2 ^ 32) : (nI n).toBitVec.toNat = n := Nat.mod_eq_of_lt h
theorem pk_and (x : Int32) {m : Int32} (k : Nat) (hm : m.toBitVec.toNat = 2 ^ k - 1) : x &&& m = nI (x.toBitVec.toNat % 2 ^ k) := by
  apply Int32.toBitVec_inj.mp
  apply BitVec.eq_of_toNat_eq
  rw [Int32.toBitVec_and, BitVec.toNat_and, hm, Nat.and_two_pow_sub_one_eq_mod]
  show _ = (BitVec.ofNat 32 _).toNat
  rw [BitVec.toNat_ofNat]
  exact (Nat.mod_eq_of_lt (Nat.lt_of_le_of_lt (Nat.mod_le _ _) x.toBitVec.isLt)).symm
theorem pk_andN {n : Nat} (h : n < 2 ^ 32) {m : Int32} (k : Nat) (hm : m.toBitVec.toNat = 2 ^ k - 1) : nI n &&& m = nI (n % 2 ^ k) := by
  rw [pk_and _ k hm, pk_tn h]
theorem pk_andE (x : Int32) {m : Int32} (k : Nat) (hm : m.toBitVec.toNat = 2 ^ k - 1) : ∃ j : Nat, j < 2 ^ k ∧ x &&& m = nI j := ⟨_, Nat.mod_lt _ (Nat.two_pow_pos k), pk_and x k hm⟩
theorem pk_shr (a s : Int32) (k : Nat) (hs : (s.toBitVec.smod 32).toNat = k) : (a >>> s).toInt = a.toInt >>> k := by
  show (a.toBitVec.sshiftRight (s.toBitVec.smod 32).toNat).toInt = _
  rw [hs, BitVec.toInt_sshiftRight]
  rfl
theorem pk_shrN {n : Nat} (h : n < 2 ^ 31) (s : Int32) (k : Nat) (hs : (s.toBitVec.smod 32).toNat = k) : nI n >>> s = nI (n / 2 ^ k) := by
  apply Int32.toInt_inj.mp
  have h2 : n / 2 ^ k ≤ n := Nat.div_le_self _ _
  rw [pk_shr _ _ k hs, nI_toInt h, nI_toInt (by omega), Int.shiftRight_eq_div_pow]
  rfl
theorem pk_lT {n : Nat} (h : n < 2 ^ 63) : (lN n).toInt = (n : Int) := lg_ofNat_toInt h
theorem pk_lLT {a b : Nat} (ha : a < 2 ^ 63) (hb : b < 2 ^ 63) : lN a < lN b ↔ a < b := by
  rw [Int64.lt_iff_toInt_lt, pk_lT ha, pk_lT hb]; omega
theorem pk_lLE {a b : Nat} (ha : a < 2 ^ 63) (hb : b < 2 ^ 63) : lN a ≤ lN b ↔ a ≤ b := by
  rw [Int64.le_iff_toInt_le, pk_lT ha, pk_lT hb]; omega
def bt (x : Int32) (i : Nat) : Bool := x.toBitVec.getLsbD i
theorem b_ext {x y : Int32} (h : ∀ i, i < 32 → bt x i = bt y i) : x = y := Int32.toBitVec_inj.mp (BitVec.eq_of_getLsbD_eq (fun i hi => h i hi))
theorem b_or (x y : Int32) (i : Nat) : bt (x ||| y) i = (bt x i || bt y i) := by unfold bt; rw [Int32.toBitVec_or, BitVec.getLsbD_or]
theorem b_and (x y : Int32) (i : Nat) : bt (x &&& y) i = (bt x i && bt y i) := by unfold bt; rw [Int32.toBitVec_and, BitVec.getLsbD_and]
theorem b_0 (i : Nat) : bt 0 i = false := BitVec.getLsbD_zero
theorem s_l : ∀ n, n < 32 → ((nI n &&& 31).toBitVec.smod 32).toNat = n := by decide +kernel
theorem b_shl (n : Nat) (hn : n < 32) (x : Int32) {i : Nat} (hi : i < 32) : bt (x <<< (nI n &&& 31)) i = (decide (n ≤ i) && bt x (i - n)) := by
  unfold bt
  rw [Int32.toBitVec_shiftLeft]
  show (x.toBitVec <<< ((nI n &&& 31).toBitVec.smod 32).toNat).getLsbD i = _
  rw [s_l n hn, BitVec.getLsbD_shiftLeft]
  rcases Nat.lt_or_ge i n with h | h
  · simp [h, Nat.not_le.mpr h]
  · simp [hi, h, Nat.not_lt.mpr h]
theorem b_sshr (n : Nat) (hn : n < 32) (x : Int32) {i : Nat} (hi : i < 32) : bt (x >>> (nI n &&& 31)) i = if n + i < 32 then bt x (n + i) else bt x 31 := by
  unfold bt
  rw [Int32.toBitVec_shiftRight]
  show (x.toBitVec.sshiftRight ((nI n &&& 31).toBitVec.smod 32).toNat).getLsbD i = _
  rw [s_l n hn, BitVec.getLsbD_sshiftRight, BitVec.msb_eq_getLsbD_last]
  simp [hi]
theorem nb_i {a b : Nat} (h : nI a = nI b) (ha : a < 2 ^ 31) (hb : b < 2 ^ 31) : a = b := (nI_eq ha hb).mp h
theorem nb_ne {a b : Nat} (h : a ≠ b) (ha : a < 2 ^ 31) (hb : b < 2 ^ 31) : ¬ nI a = nI b := fun e => h (nb_i e ha hb)
theorem nb_cl {n : Nat} (h : n < 2 ^ 31) : (nI n).toNatClampNeg = n := nI_clamp h
theorem nb_c48 {n s : Nat} (h : n < s) (hs : s ≤ 48) : (nI n).toNatClampNeg = n := nI_clamp (by omega)
theorem nb_m1 {n : Nat} (h : 0 < n) : nI n + (-1) = nI (n - 1) := by
  obtain ⟨m, rfl⟩ : ∃ m, n = m + 1 := ⟨n - 1, by omega⟩
  exact pk_m1 m
theorem nb_p1 (n : Nat) : nI (n + 1) - 1 = nI n := nI_pred n
/-- the X test of a bit -/
theorem nb_bX (m : Int32) {t : Nat} (ht : t < 32) : (m &&& ((1 : Int32) <<< (nI t &&& 31))) = 0 ↔ bt m t = false := by
  have h1 : ∀ i, i < 32 → bt ((1 : Int32) <<< (nI t &&& 31)) i = decide (i = t) := by
    intro i hi
    rw [b_shl t ht 1 hi]
    have e : ∀ j, j < 32 → bt 1 j = decide (j = 0) := by decide +kernel
    rw [e (i - t) (by omega)]
    rcases Nat.lt_trichotomy i t with h | h | h
    · rw [decide_eq_false (show ¬ t ≤ i by omega), decide_eq_false (show ¬ i = t by omega)]; rfl
    · subst h; simp
    · rw [decide_eq_false (show ¬ i - t = 0 by omega), decide_eq_false (show ¬ i = t by omega)]; simp
  constructor
  · intro h
    have := b_and m ((1 : Int32) <<< (nI t &&& 31)) t
    rw [h, b_0, h1 t ht] at this
    simpa using this.symm
  · intro h
    apply b_ext
    intro i hi
    rw [b_and, b_0, h1 i hi]
    by_cases e : i = t
    · subst e; rw [h]; rfl
    · rw [decide_eq_false e]; simp
theorem nb_one {t : Nat} (ht : t < 32) {i : Nat} (hi : i < 32) : bt ((1 : Int32) <<< (nI t &&& 31)) i = decide (i = t) := by
  rw [b_shl t ht 1 hi]
  have e : ∀ j, j < 32 → bt 1 j = decide (j = 0) := by decide +kernel
  rw [e (i - t) (by omega)]
  rcases Nat.lt_trichotomy i t with h | h | h
  · rw [decide_eq_false (show ¬ t ≤ i by omega), decide_eq_false (show ¬ i = t by omega)]; rfl
  · subst h; simp
  · rw [decide_eq_false (show ¬ i - t = 0 by omega), decide_eq_false (show ¬ i = t by omega)]; simp
/-- the Y test of a bit -/
theorem nb_bY (m : Int32) {t : Nat} (ht : t < 31) : ((m >>> (nI t &&& 31)) &&& 1) = 1 ↔ bt m t = true := by
  have e : ∀ j, j < 32 → bt 1 j = decide (j = 0) := by decide +kernel
  have h0 : bt (m >>> (nI t &&& 31)) 0 = bt m t := by
    rw [b_sshr t (by omega) m (by omega), if_pos (by omega)]; rfl
  constructor
  · intro h
    have := b_and (m >>> (nI t &&& 31)) 1 0
    rw [h, e 0 (by omega), h0] at this
    simpa using this.symm
  · intro h
    apply b_ext
    intro i hi
    rw [b_and, e i hi]
    by_cases z : i = 0
    · subst z; rw [h0, h]; rfl
    · rw [decide_eq_false z]; simp
end NB
end
section
section PG
/-! the program as a picture: K kinds, A first arguments; depth, piece, bodies -/
abbrev pg_op (K : Nat → Int32) (i : Nat) : Prop := K i = 6 ∨ K i = 7
abbrev pg_ar (A : Nat → Int32) (i : Nat) : Nat := (A i).toNatClampNeg
def pg_dp (K : Nat → Int32) : Nat → Nat
  | 0 => 0
  | i + 1 => if pg_op K i then pg_dp K i + 1 else if K i = 8 then pg_dp K i - 1 else pg_dp K i
def pg_pw (K A : Nat → Int32) : Nat → Nat
  | 0 => 4
  | i + 1 => if K i = 11 then pg_ar A i else pg_pw K A i
def pg_cb (K A : Nat → Int32) (t : Nat) : Nat → Nat
  | 0 => 0
  | i + 1 => if K i = 11 ∧ pg_ar A i = t then pg_cb K A t i + 1 else pg_cb K A t i
def pg_lb (K A : Nat → Int32) (t : Nat) : Nat → Nat
  | 0 => 0
  | i + 1 => if K i = 11 ∧ pg_ar A i = t then i + 1 else pg_lb K A t i
/-- a statement that add takes -/
def pg_vs (k a b c : Int32) : Prop := ∃ n : Nat, n ≤ 11 ∧ k = nI n ∧
  ((n = 9 ∨ n = 11) → ∃ j : Nat, j < 4 ∧ a = nI j) ∧
  (n = 7 → ∃ j : Nat, 1 ≤ j ∧ j ≤ 5 ∧ a = nI j) ∧
  ((n ≤ 6 ∨ n = 10) → ∃ j : Nat, j < 8 ∧ a = nI j) ∧
  ((1 ≤ n ∧ n ≤ 3) → (∃ j : Nat, j < 8 ∧ b = nI j) ∧ (∃ j : Nat, j < 8 ∧ c = nI j)) ∧
  ((n = 4 ∨ n = 5) → (∃ j : Nat, j < 3 ∧ b = nI j) ∧ (∃ j : Nat, j < 8 ∧ c = nI j))
def pg_ok (K A B C : Nat → Int32) (s : Nat) : Prop := ∀ i, i < s → pg_vs (K i) (A i) (B i) (C i)
/-- what the walks of the test for faults need of it -/
def pg_g (K A : Nat → Int32) (s : Nat) : Prop := ∀ i, i < s → (∃ n : Nat, n ≤ 11 ∧ K i = nI n) ∧
  ((K i = 9 ∨ K i = 11) → pg_ar A i < 4 ∧ A i = nI (pg_ar A i)) ∧
  (K i = 7 → 1 ≤ pg_ar A i ∧ pg_ar A i ≤ 5 ∧ A i = nI (pg_ar A i))
theorem pg_of_ok {K A B C : Nat → Int32} {s : Nat} (h : pg_ok K A B C s) : pg_g K A s := by
  intro i hi
  obtain ⟨n, hn, e, h1, h2, _⟩ := h i hi
  refine ⟨⟨n, hn, e⟩, ?_, ?_⟩
  · intro z
    have : n = 9 ∨ n = 11 := by
      rcases z with z | z
      · exact Or.inl (nb_i (b := 9) (e.symm.trans z) (by omega) (by omega))
      · exact Or.inr (nb_i (b := 11) (e.symm.trans z) (by omega) (by omega))
    obtain ⟨j, hj, ea⟩ := h1 this
    have c : pg_ar A i = j := by unfold pg_ar; rw [ea]; exact nb_cl (by omega)
    rw [c]; exact ⟨hj, ea⟩
  · intro z
    obtain ⟨j, hj, hj5, ea⟩ := h2 (nb_i (b := 7) (e.symm.trans z) (by omega) (by omega))
    have c : pg_ar A i = j := by unfold pg_ar; rw [ea]; exact nb_cl (by omega)
    rw [c]; exact ⟨hj, hj5, ea⟩
theorem pg_k_68 {K : Nat → Int32} {i : Nat} (h : K i = 8) : ¬ pg_op K i := by
  intro z; rcases z with z | z <;> · rw [h] at z; exact absurd z (by decide)
theorem pg_dp_op {K : Nat → Int32} {i : Nat} (h : pg_op K i) : pg_dp K (i + 1) = pg_dp K i + 1 := by
  show (if _ then _ else _) = _; rw [if_pos h]
theorem pg_dp_end {K : Nat → Int32} {i : Nat} (h : K i = 8) : pg_dp K (i + 1) = pg_dp K i - 1 := by
  show (if _ then _ else _) = _; rw [if_neg (pg_k_68 h), if_pos h]
theorem pg_dp_no {K : Nat → Int32} {i : Nat} (h : ¬ pg_op K i) (h8 : ¬ K i = 8) : pg_dp K (i + 1) = pg_dp K i := by
  show (if _ then _ else _) = _; rw [if_neg h, if_neg h8]
/-- the first i statements stand well -/
def pg_wp (K : Nat → Int32) (s : Nat) : Prop := ∀ i, i < s → (K i = 11 → pg_dp K i = 0) ∧ (pg_op K i → pg_dp K i < 3) ∧ (K i = 8 → 0 < pg_dp K i)
def pg_wf (K : Nat → Int32) (s : Nat) : Prop := pg_wp K s ∧ pg_dp K s = 0
theorem pg_wp_s {K : Nat → Int32} {i : Nat} (h : pg_wp K i) (h1 : K i = 11 → pg_dp K i = 0) (h2 : pg_op K i → pg_dp K i < 3) (h3 : K i = 8 → 0 < pg_dp K i) : pg_wp K (i + 1) := by
  intro j hj
  rcases Nat.lt_or_eq_of_le (Nat.le_of_lt_succ hj) with z | z
  · exact h j z
  · subst z; exact ⟨h1, h2, h3⟩
theorem pg_dp3 {K : Nat → Int32} {s : Nat} (h : pg_wp K s) : ∀ i, i ≤ s → pg_dp K i ≤ 3 := by
  intro i
  induction i with
  | zero => intro _; exact Nat.zero_le _
  | succ i ih =>
    intro hi
    have h0 := ih (by omega)
    by_cases o : pg_op K i
    · rw [pg_dp_op o]; have := (h i (by omega)).2.1 o; omega
    · by_cases e : K i = 8
      · rw [pg_dp_end e]; omega
      · rw [pg_dp_no o e]; exact h0
/-- an opener and its END -/
def pg_mt (K : Nat → Int32) (q e : Nat) : Prop := q < e ∧ pg_op K q ∧ K e = 8 ∧ pg_dp K (e + 1) = pg_dp K q ∧ ∀ k, q < k → k ≤ e → pg_dp K q < pg_dp K k
def pg_pr (K : Nat → Int32) (s : Nat) (pa : Nat → Int32) : Prop :=
  (∀ e, e < s → K e = 8 → ∃ q, pa e = nI q ∧ pg_mt K q e) ∧ (∀ q, q < s → pg_op K q → ∃ e, e < s ∧ pa q = nI e ∧ pg_mt K q e)
def pg_pi (K : Nat → Int32) (i : Nat) (oa pa : Nat → Int32) : Prop :=
  (∀ j, j < pg_dp K i → ∃ q, q < i ∧ oa j = nI q ∧ pg_op K q ∧ pg_dp K q = j ∧ ∀ k, q < k → k ≤ i → j < pg_dp K k) ∧
  (∀ e, e < i → K e = 8 → ∃ q, pa e = nI q ∧ pg_mt K q e) ∧
  (∀ q, q < i → pg_op K q → (∃ e, e < i ∧ pa q = nI e ∧ pg_mt K q e) ∨ (oa (pg_dp K q) = nI q ∧ pg_dp K q < pg_dp K i))
theorem pg_pi_0 (K oa pa : Nat → Int32) : pg_pi K 0 oa pa :=
  ⟨fun j hj => absurd hj (Nat.not_lt_zero _), fun e he => absurd he (Nat.not_lt_zero _), fun q hq => absurd hq (Nat.not_lt_zero _)⟩
theorem pg_pi_no {K oa pa : Nat → Int32} {i : Nat} (h : pg_pi K i oa pa) (o : ¬ pg_op K i) (e8 : ¬ K i = 8) : pg_pi K (i + 1) oa pa := by
  obtain ⟨h1, h2, h3⟩ := h
  have d := pg_dp_no o e8
  refine ⟨?_, ?_, ?_⟩
  · intro j hj
    rw [d] at hj
    obtain ⟨q, hq, a, b, c, f⟩ := h1 j hj
    refine ⟨q, by omega, a, b, c, fun k k1 k2 => ?_⟩
    rcases Nat.lt_or_eq_of_le k2 with z | z
    · exact f k k1 (by omega)
    · rw [z, d]; exact hj
  · intro e he k8
    rcases Nat.lt_or_eq_of_le (Nat.le_of_lt_succ he) with z | z
    · exact h2 e z k8
    · rw [z] at k8; exact absurd k8 e8
  · intro q hq ho
    rcases Nat.lt_or_eq_of_le (Nat.le_of_lt_succ hq) with z | z
    · rcases h3 q z ho with ⟨e, a, b, c⟩ | ⟨a, b⟩
      · exact Or.inl ⟨e, by omega, b, c⟩
      · exact Or.inr ⟨a, by rw [d]; exact b⟩
    · rw [z] at ho; exact absurd ho o
theorem pg_pi_op {K oa pa : Nat → Int32} {i : Nat} (h : pg_pi K i oa pa) (o : pg_op K i) : pg_pi K (i + 1) (upd oa (pg_dp K i) (nI i)) pa := by
  obtain ⟨h1, h2, h3⟩ := h
  have d := pg_dp_op o
  have e8 : ¬ K i = 8 := fun z => pg_k_68 z o
  refine ⟨?_, ?_, ?_⟩
  · intro j hj
    rw [d] at hj
    by_cases z : j = pg_dp K i
    · refine ⟨i, by omega, by rw [z]; exact pk_us, o, z.symm, fun k k1 k2 => ?_⟩
      have : k = i + 1 := by omega
      rw [this, d]; exact hj
    · obtain ⟨q, hq, a, b, c, f⟩ := h1 j (by omega)
      refine ⟨q, by omega, by rw [pk_un z]; exact a, b, c, fun k k1 k2 => ?_⟩
      rcases Nat.lt_or_eq_of_le k2 with y | y
      · exact f k k1 (by omega)
      · rw [y, d]; exact hj
  · intro e he k8
    rcases Nat.lt_or_eq_of_le (Nat.le_of_lt_succ he) with z | z
    · exact h2 e z k8
    · rw [z] at k8; exact absurd k8 e8
  · intro q hq ho
    rcases Nat.lt_or_eq_of_le (Nat.le_of_lt_succ hq) with z | z
    · rcases h3 q z ho with ⟨e, a, b, c⟩ | ⟨a, b⟩
      · exact Or.inl ⟨e, by omega, b, c⟩
      · exact Or.inr ⟨by rw [pk_un (by omega)]; exact a, by omega⟩
    · rw [z]; exact Or.inr ⟨pk_us, by omega⟩
theorem pg_pi_end {K oa pa : Nat → Int32} {i q0 : Nat} (hi : i < 2 ^ 31) (h : pg_pi K i oa pa) (e8 : K i = 8) (hd : 0 < pg_dp K i) (hq0 : q0 < i) (eq0 : oa (pg_dp K i - 1) = nI q0) :
    pg_pi K (i + 1) oa (upd (upd pa i (nI q0)) q0 (nI i)) := by
  obtain ⟨h1, h2, h3⟩ := h
  have d := pg_dp_end e8
  obtain ⟨q, hq, a, b, c, f⟩ := h1 (pg_dp K i - 1) (by omega)
  have eq : q = q0 := nb_i (a.symm.trans eq0) (by omega) (by omega)
  subst eq
  have M : pg_mt K q i := ⟨hq0, b, e8, by rw [d, c], fun k k1 k2 => by rw [c]; exact f k k1 k2⟩
  refine ⟨?_, ?_, ?_⟩
  · intro j hj
    obtain ⟨q', hq', a', b', c', f'⟩ := h1 j (by omega)
    refine ⟨q', by omega, a', b', c', fun k k1 k2 => ?_⟩
    rcases Nat.lt_or_eq_of_le k2 with z | z
    · exact f' k k1 (by omega)
    · rw [z]; exact hj
  · intro e he k8
    have ne : e ≠ q := fun z => by rw [z] at k8; exact pg_k_68 k8 b
    rcases Nat.lt_or_eq_of_le (Nat.le_of_lt_succ he) with z | z
    · obtain ⟨q', a', b'⟩ := h2 e z k8
      exact ⟨q', by rw [pk_un ne, pk_un (by omega)]; exact a', b'⟩
    · refine ⟨q, ?_, by rw [z]; exact M⟩
      rw [pk_un ne, z]; exact pk_us
  · intro q' hq' ho
    by_cases z0 : q' = q
    · subst z0; exact Or.inl ⟨i, by omega, pk_us, M⟩
    · have zi : q' ≠ i := fun z => by rw [z] at ho; exact pg_k_68 e8 ho
      rcases h3 q' (by omega) ho with ⟨e, a', b', c'⟩ | ⟨a', b'⟩
      · exact Or.inl ⟨e, by omega, by rw [pk_un z0, pk_un zi]; exact b', c'⟩
      · refine Or.inr ⟨a', ?_⟩
        have : pg_dp K q' ≠ pg_dp K i - 1 := by
          intro y
          rw [y, a] at a'
          exact z0 (nb_i a' (by omega) (by omega)).symm
        omega
theorem pg_pi_pr {K oa pa : Nat → Int32} {s : Nat} (h : pg_pi K s oa pa) (d : pg_dp K s = 0) : pg_pr K s pa := by
  refine ⟨h.2.1, fun q hq ho => ?_⟩
  rcases h.2.2 q hq ho with z | ⟨_, z⟩
  · exact z
  · omega
/-! pieces and bodies -/
theorem pg_pw_b {K A : Nat → Int32} {i : Nat} (h : K i = 11) : pg_pw K A (i + 1) = pg_ar A i := by
  show (if _ then _ else _) = _; rw [if_pos h]
theorem pg_pw_n {K A : Nat → Int32} {i : Nat} (h : ¬ K i = 11) : pg_pw K A (i + 1) = pg_pw K A i := by
  show (if _ then _ else _) = _; rw [if_neg h]
theorem pg_pw4 {K A : Nat → Int32} {s : Nat} (g : pg_g K A s) : ∀ i, i ≤ s → pg_pw K A i ≤ 4 := by
  intro i
  induction i with
  | zero => intro _; exact Nat.le_refl 4
  | succ i ih =>
    intro hi
    by_cases b : K i = 11
    · rw [pg_pw_b b]; have := ((g i (by omega)).2.1 (Or.inr b)).1; omega
    · rw [pg_pw_n b]; exact ih (by omega)
/-- the last body before k -/
theorem pg_pw_at {K A : Nat → Int32} : ∀ k t, pg_pw K A k = t → t ≠ 4 → ∃ m, m < k ∧ K m = 11 ∧ pg_ar A m = t ∧ ∀ j, m < j → j < k → ¬ K j = 11 := by
  intro k
  induction k with
  | zero => intro t h h4; exact absurd h.symm h4
  | succ k ih =>
    intro t h h4
    by_cases b : K k = 11
    · rw [pg_pw_b b] at h
      exact ⟨k, by omega, b, h, fun j j1 j2 => by omega⟩
    · rw [pg_pw_n b] at h
      obtain ⟨m, a1, a2, a3, a4⟩ := ih t h h4
      refine ⟨m, by omega, a2, a3, fun j j1 j2 => ?_⟩
      by_cases z : j = k
      · rw [z]; exact b
      · exact a4 j j1 (by omega)
theorem pg_pw_main {K A : Nat → Int32} {s : Nat} (g : pg_g K A s) : ∀ k, k ≤ s → pg_pw K A k = 4 → ∀ j, j < k → ¬ K j = 11 := by
  intro k
  induction k with
  | zero => intro _ _ j hj; omega
  | succ k ih =>
    intro hk h j hj
    by_cases b : K k = 11
    · rw [pg_pw_b b] at h; have := ((g k (by omega)).2.1 (Or.inr b)).1; omega
    · rw [pg_pw_n b] at h
      by_cases z : j = k
      · rw [z]; exact b
      · exact ih (by omega) h j (by omega)
theorem pg_pw_run {K A : Nat → Int32} {i : Nat} : ∀ k, i ≤ k → (∀ j, i ≤ j → j < k → ¬ K j = 11) → pg_pw K A k = pg_pw K A i := by
  intro k
  induction k with
  | zero => intro h _; rw [show i = 0 by omega]
  | succ k ih =>
    intro h hb
    by_cases z : i = k + 1
    · rw [z]
    · rw [pg_pw_n (hb k (by omega) (by omega))]
      exact ih (by omega) (fun j j1 j2 => hb j j1 (by omega))
theorem pg_cb_y {K A : Nat → Int32} {t i : Nat} (h : K i = 11) (ht : pg_ar A i = t) : pg_cb K A t (i + 1) = pg_cb K A t i + 1 := by
  show (if _ then _ else _) = _; rw [if_pos ⟨h, ht⟩]
theorem pg_cb_n {K A : Nat → Int32} {t i : Nat} (h : ¬ (K i = 11 ∧ pg_ar A i = t)) : pg_cb K A t (i + 1) = pg_cb K A t i := by
  show (if _ then _ else _) = _; rw [if_neg h]
theorem pg_lb_y {K A : Nat → Int32} {t i : Nat} (h : K i = 11) (ht : pg_ar A i = t) : pg_lb K A t (i + 1) = i + 1 := by
  show (if _ then _ else _) = _; rw [if_pos ⟨h, ht⟩]
theorem pg_lb_n {K A : Nat → Int32} {t i : Nat} (h : ¬ (K i = 11 ∧ pg_ar A i = t)) : pg_lb K A t (i + 1) = pg_lb K A t i := by
  show (if _ then _ else _) = _; rw [if_neg h]
theorem pg_cb_mono {K A : Nat → Int32} {t : Nat} : ∀ i j, i ≤ j → pg_cb K A t i ≤ pg_cb K A t j := by
  intro i j
  induction j with
  | zero => intro h; rw [show i = 0 by omega]; exact Nat.le_refl _
  | succ j ih =>
    intro h
    by_cases z : i = j + 1
    · rw [z]; exact Nat.le_refl _
    · have := ih (by omega)
      by_cases y : K j = 11 ∧ pg_ar A j = t
      · rw [pg_cb_y y.1 y.2]; omega
      · rw [pg_cb_n y]; exact this
theorem pg_lb_le {K A : Nat → Int32} {t : Nat} : ∀ i, pg_lb K A t i ≤ i := by
  intro i
  induction i with
  | zero => exact Nat.le_refl 0
  | succ i ih =>
    by_cases y : K i = 11 ∧ pg_ar A i = t
    · rw [pg_lb_y y.1 y.2]; exact Nat.le_refl _
    · rw [pg_lb_n y]; omega
theorem pg_lb_cb {K A : Nat → Int32} {t : Nat} : ∀ i, pg_lb K A t i = 0 ↔ pg_cb K A t i = 0 := by
  intro i
  induction i with
  | zero => exact ⟨fun _ => rfl, fun _ => rfl⟩
  | succ i ih =>
    by_cases h : K i = 11 ∧ pg_ar A i = t
    · rw [pg_lb_y h.1 h.2, pg_cb_y h.1 h.2]; omega
    · rw [pg_lb_n h, pg_cb_n h]; exact ih
theorem pg_lb_b {K A : Nat → Int32} {t : Nat} : ∀ i, pg_lb K A t i ≠ 0 → K (pg_lb K A t i - 1) = 11 ∧ pg_ar A (pg_lb K A t i - 1) = t := by
  intro i
  induction i with
  | zero => intro h; exact absurd rfl h
  | succ i ih =>
    by_cases h : K i = 11 ∧ pg_ar A i = t
    · rw [pg_lb_y h.1 h.2]; intro _; exact h
    · rw [pg_lb_n h]; exact ih
/-- no subroutine has two bodies -/
def pg_nt (K A : Nat → Int32) (s : Nat) : Prop := ∀ t, t < 4 → pg_cb K A t s ≤ 1
theorem pg_nt_u {K A : Nat → Int32} {s t i j : Nat} (h : pg_cb K A t s ≤ 1) (hi : i < s) (hj : j < s) (ki : K i = 11) (kj : K j = 11) (ai : pg_ar A i = t) (aj : pg_ar A j = t) : i = j := by
  have key : ∀ i j, i < j → j < s → K i = 11 → K j = 11 → pg_ar A i = t → pg_ar A j = t → False := by
    intro i j hij hj ki kj ai aj
    have h1 := pg_cb_mono (K := K) (A := A) (t := t) (i + 1) j (by omega)
    have h2 := pg_cb_mono (K := K) (A := A) (t := t) (j + 1) s (by omega)
    rw [pg_cb_y ki ai] at h1
    rw [pg_cb_y kj aj] at h2
    omega
  rcases Nat.lt_trichotomy i j with z | z | z
  · exact (key i j z hj ki kj ai aj).elim
  · exact z
  · exact (key j i z hi kj ki aj ai).elim
/-- every call has a body -/
def pg_nm (K A : Nat → Int32) (s : Nat) : Prop := ∀ i, i < s → K i = 9 → pg_lb K A (pg_ar A i) s ≠ 0
end PG
end
section
section XW
/-! the walks of the first tests -/
theorem xw_m1 {n : Nat} (h : n ≤ 48) : nI n - 1 = -1 ↔ n = 0 := by
  constructor
  · intro e
    rcases Nat.eq_zero_or_pos n with z | z
    · exact z
    · obtain ⟨m, rfl⟩ : ∃ m, n = m + 1 := ⟨n - 1, by omega⟩
      rw [nb_p1] at e
      have := nI_pos (n := m) (by omega)
      rw [e] at this
      exact absurd (by decide) this
  · intro e; subst e; decide
theorem xw_pe {pc cp : Int32} {K A B C SV VR CE KP ow ba re : Nat → Int32} {ps wt : Nat → Int64} {LF rt co : Nat → Int32} {s : Nat} (hs : s ≤ 48) {post : Int32 → SX → Prop}
    (hT : pg_wf K s → ∀ oa pa, pg_pr K s pa → post 1 ((nI s), pc, cp, K, A, B, C, SV, VR, CE, KP, oa, pa, ow, ba, re, ps, wt, LF, rt, co)) (hF : ¬ pg_wf K s → ∀ oa pa, post 0 ((nI s), pc, cp, K, A, B, C, SV, VR, CE, KP, oa, pa, ow, ba, re, ps, wt, LF, rt, co)) :
    ∀ d i, i + d = s → ∀ oa pa, pg_wp K i → pg_pi K i oa pa → wX_pairEnds_4 post (nI s) pc cp (d + 1) (nI (pg_dp K i)) (nI i) K A B C SV VR CE KP oa pa ow ba re ps wt LF rt co := by
  intro d
  induction d with
  | zero =>
    intro i hi oa pa w P
    have e : i = s := by omega
    subst e
    have h3 := pg_dp3 w i (Nat.le_refl _)
    refine br_t (nI_le (Nat.le_refl _) (by omega)) ?_
    exact pk_eq (pg_dp K i) 0 (fun z => hT ⟨w, z⟩ oa pa (pg_pi_pr P z)) (fun z => hF (fun y => z y.2) oa pa)
  | succ d ih =>
    intro i hi oa pa w P
    have his : i < s := by omega
    have h3 := pg_dp3 w i (Nat.le_refl _)
    have hc : (nI i).toNatClampNeg = i := nb_c48 his hs
    refine br_f (nI_ge his (by omega)) ⟨vp_in_nI (by omega) (by omega), ?_⟩
    intro x3 e3
    rw [hc] at e3
    subst e3
    have H60 : ∀ o', pg_wp K (i + 1) → pg_pi K (i + 1) o' pa → ¬ K i = 8 → ∀ x1, x1 = nI (pg_dp K (i + 1)) →
        wX_pairEnds_60 post (wX_pairEnds_4 post (nI s) pc cp (d + 1)) x1 (nI i) (K i) (nI s) pc cp K A B C SV VR CE KP o' pa ow ba re ps wt LF rt co := by
      intro o' w' P' h8 x1 e1
      refine br_f h8 (nm_r (nI_1 i) ?_)
      rw [e1]
      exact ih (i + 1) (by omega) o' pa w' P'
    have H31 : (K i = 11 → pg_dp K i = 0) → wX_pairEnds_31 post (wX_pairEnds_4 post (nI s) pc cp (d + 1)) (nI (pg_dp K i)) (nI i) (K i) (nI s) pc cp K A B C SV VR CE KP oa pa ow ba re ps wt LF rt co := by
      intro hb
      have H43 : pg_op K i → wX_pairEnds_43 post (wX_pairEnds_4 post (nI s) pc cp (d + 1)) (nI (pg_dp K i)) (nI i) (K i) (nI s) pc cp K A B C SV VR CE KP oa pa ow ba re ps wt LF rt co := by
        intro o
        have h8 : ¬ K i = 8 := fun z => pg_k_68 z o
        refine pk_lt (pg_dp K i) 3 (fun z => ?_) (fun z => hF (fun y => by have := (y.1 i his).2.1 o; omega) oa pa)
        refine ⟨vp_in_nI z (by omega), nm_r (by rw [nb_cl (by omega)]) ?_⟩
        refine nm_r (nI_1 _) ?_
        exact H60 (upd oa (pg_dp K i) (nI i)) (pg_wp_s w hb (fun _ => z) (fun y => absurd y h8)) (pg_pi_op P o) h8 _ (by rw [pg_dp_op o])
      by_cases k6 : K i = 6
      · exact br_t k6 (H43 (Or.inl k6))
      · refine br_f k6 ?_
        by_cases k7 : K i = 7
        · exact br_t k7 (H43 (Or.inr k7))
        · refine br_f k7 ?_
          have no : ¬ pg_op K i := fun z => z.elim k6 k7
          by_cases k8 : K i = 8
          · refine br_t k8 ?_
            refine pk_lt 0 (pg_dp K i) (fun z => ?_) (fun z => hF (fun y => by have := (y.1 i his).2.2 k8; omega) oa pa)
            refine nm_r (nb_m1 z) ?_
            obtain ⟨q, hq, eq, hqo, hqd, _⟩ := P.1 (pg_dp K i - 1) (by omega)
            have hin : vp_in (nI (pg_dp K i - 1)) 3 := vp_in_nI (by omega) (by omega)
            have hcl : (nI (pg_dp K i - 1)).toNatClampNeg = pg_dp K i - 1 := nb_cl (by omega)
            refine ⟨hin, vp_in_nI (by omega) (by omega), nm_r (e' := upd pa i (nI q)) (by rw [hcl, hc, eq]) ?_⟩
            refine ⟨hin, by rw [hcl, eq]; exact vp_in_nI (by omega) (by omega), nm_r (e' := upd (upd pa i (nI q)) q (nI i)) (by rw [hcl, eq, nb_cl (by omega)]) ?_⟩
            refine nm_r (nI_1 i) ?_
            rw [← pg_dp_end k8]
            exact ih (i + 1) (by omega) oa _ (pg_wp_s w hb (fun y => absurd y no) (fun _ => z)) (pg_pi_end (by omega) P k8 z hq eq)
          · have H := H60 oa (pg_wp_s w hb (fun y => absurd y no) (fun y => absurd y k8)) (pg_pi_no P no k8) k8
            rw [pg_dp_no no k8] at H
            exact H _ rfl
    by_cases b : K i = 11
    · refine br_t b ?_
      exact pk_le (pg_dp K i) 0 (fun z => H31 (fun _ => by omega)) (fun z => hF (fun y => by have := (y.1 i his).1 b; omega) oa pa)
    · exact br_f b (H31 (fun y => absurd y b))
theorem xw_pairEnds {pc cp : Int32} {K A B C SV VR CE KP oa pa ow ba re : Nat → Int32} {ps wt : Nat → Int64} {LF rt co : Nat → Int32} {s : Nat} (hs : s ≤ 48) {post : Int32 → SX → Prop}
    (hT : pg_wf K s → ∀ oa pa, pg_pr K s pa → post 1 ((nI s), pc, cp, K, A, B, C, SV, VR, CE, KP, oa, pa, ow, ba, re, ps, wt, LF, rt, co)) (hF : ¬ pg_wf K s → ∀ oa pa, post 0 ((nI s), pc, cp, K, A, B, C, SV, VR, CE, KP, oa, pa, ow, ba, re, ps, wt, LF, rt, co)) : wpX_pairEnds post ((nI s), pc, cp, K, A, B, C, SV, VR, CE, KP, oa, pa, ow, ba, re, ps, wt, LF, rt, co) :=
  ⟨s + 1, xw_pe hs hT hF s 0 (by omega) oa pa (fun i hi => absurd hi (Nat.not_lt_zero _)) (pg_pi_0 K oa pa)⟩
/-! bodies -/
theorem xw_pb24 {pc cp : Int32} {K A B C SV VR CE KP oa pa re : Nat → Int32} {ps wt : Nat → Int64} {LF rt co : Nat → Int32} {s : Nat} (hs : s ≤ 48) {post : Int32 → SX → Prop} (g : pg_g K A s)
    (hT : pg_nt K A s → ∀ ow ba, (∀ j, j < s → ow j = nI (pg_pw K A (j + 1))) → (∀ t, t < 4 → ba t = nI (pg_lb K A t s) - 1) → post 1 ((nI s), pc, cp, K, A, B, C, SV, VR, CE, KP, oa, pa, ow, ba, re, ps, wt, LF, rt, co)) (hF : ¬ pg_nt K A s → ∀ ow ba, post 0 ((nI s), pc, cp, K, A, B, C, SV, VR, CE, KP, oa, pa, ow, ba, re, ps, wt, LF, rt, co)) :
    ∀ d i, i + d = s → ∀ ow ba, (∀ j, j < i → ow j = nI (pg_pw K A (j + 1))) → (∀ t, t < 4 → ba t = nI (pg_lb K A t i) - 1) → pg_nt K A i →
      wX_placeBodies_24 post (nI s) pc cp (d + 1) (nI (pg_pw K A i)) (nI i) K A B C SV VR CE KP oa pa ow ba re ps wt LF rt co := by
  intro d
  induction d with
  | zero =>
    intro i hi ow ba h1 h2 h3
    have e : i = s := by omega
    subst e
    exact br_t (nI_le (Nat.le_refl _) (by omega)) (hT h3 ow ba h1 h2)
  | succ d ih =>
    intro i hi ow ba h1 h2 h3
    have his : i < s := by omega
    have hc : (nI i).toNatClampNeg = i := nb_c48 his hs
    have hin : vp_in (nI i) 48 := vp_in_nI (by omega) (by omega)
    refine br_f (nI_ge his (by omega)) ⟨hin, ?_⟩
    by_cases b : K i = 11
    · refine br_t (by rw [hc]; exact b) ⟨hin, ?_⟩
      obtain ⟨a4, ea⟩ := (g i his).2.1 (Or.inr b)
      refine nm_r (e' := nI (pg_ar A i)) (by rw [hc]; exact ea) ?_
      have hcl : (nI (pg_ar A i)).toNatClampNeg = pg_ar A i := nb_cl (by omega)
      have hl := pg_lb_le (K := K) (A := A) (t := pg_ar A i) i
      refine ⟨vp_in_nI (by omega) (by omega), ?_⟩
      by_cases z : pg_lb K A (pg_ar A i) i = 0
      · refine br_t (by rw [hcl, h2 _ a4, xw_m1 (by omega)]; exact z) ⟨vp_in_nI (by omega) (by omega), ?_⟩
        refine nm_r (e' := upd ba (pg_ar A i) (nI i)) (by rw [hcl]) ⟨hin, ?_⟩
        refine nm_r (e' := upd ow i (nI (pg_ar A i))) (by rw [hc]) ?_
        refine nm_r (nI_1 i) ?_
        have := ih (i + 1) (by omega) (upd ow i (nI (pg_ar A i))) (upd ba (pg_ar A i) (nI i)) ?_ ?_ ?_
        · rw [pg_pw_b b] at this; exact this
        · intro j hj
          by_cases y : j = i
          · rw [y, pk_us, pg_pw_b b]
          · rw [pk_un y]; exact h1 j (by omega)
        · intro t ht
          by_cases y : t = pg_ar A i
          · rw [y, pk_us, pg_lb_y b rfl, nb_p1]
          · rw [pk_un y, pg_lb_n (fun x => y x.2.symm)]; exact h2 t ht
        · intro t ht
          by_cases y : t = pg_ar A i
          · rw [y, pg_cb_y b rfl, (pg_lb_cb i).mp z]; omega
          · rw [pg_cb_n (fun x => y x.2.symm)]; exact h3 t ht
      · refine br_f (by rw [hcl, h2 _ a4, xw_m1 (by omega)]; exact z) (hF (fun y => ?_) ow ba)
        have h5 := y (pg_ar A i) a4
        have h6 := pg_cb_mono (K := K) (A := A) (t := pg_ar A i) (i + 1) s (by omega)
        rw [pg_cb_y b rfl] at h6
        have : ¬ pg_cb K A (pg_ar A i) i = 0 := fun x => z ((pg_lb_cb i).mpr x)
        omega
    · refine br_f (by rw [hc]; exact b) ⟨hin, ?_⟩
      refine nm_r (e' := upd ow i (nI (pg_pw K A i))) (by rw [hc]) ?_
      refine nm_r (nI_1 i) ?_
      have := ih (i + 1) (by omega) (upd ow i (nI (pg_pw K A i))) ba ?_ ?_ ?_
      · rw [pg_pw_n b] at this; exact this
      · intro j hj
        by_cases y : j = i
        · rw [y, pk_us, pg_pw_n b]
        · rw [pk_un y]; exact h1 j (by omega)
      · intro t ht
        rw [pg_lb_n (fun x => b x.1)]; exact h2 t ht
      · intro t ht
        rw [pg_cb_n (fun x => b x.1)]; exact h3 t ht
theorem xw_placeBodies {pc cp : Int32} {K A B C SV VR CE KP oa pa ow ba re : Nat → Int32} {ps wt : Nat → Int64} {LF rt co : Nat → Int32} {s : Nat} (hs : s ≤ 48) {post : Int32 → SX → Prop} (g : pg_g K A s)
    (hT : pg_nt K A s → ∀ ow ba, (∀ j, j < s → ow j = nI (pg_pw K A (j + 1))) → (∀ t, t < 4 → ba t = nI (pg_lb K A t s) - 1) → post 1 ((nI s), pc, cp, K, A, B, C, SV, VR, CE, KP, oa, pa, ow, ba, re, ps, wt, LF, rt, co)) (hF : ¬ pg_nt K A s → ∀ ow ba, post 0 ((nI s), pc, cp, K, A, B, C, SV, VR, CE, KP, oa, pa, ow, ba, re, ps, wt, LF, rt, co)) : wpX_placeBodies post ((nI s), pc, cp, K, A, B, C, SV, VR, CE, KP, oa, pa, ow, ba, re, ps, wt, LF, rt, co) := by
  have H : ∀ d t, t + d = 4 → ∀ ba, (∀ j, j < t → ba j = -1) → wX_placeBodies_2 post (nI s) pc cp (d + 1) (nI t) K A B C SV VR CE KP oa pa ow ba re ps wt LF rt co := by
    intro d
    induction d with
    | zero =>
      intro t ht ba h
      refine br_t (nI_le (a := 4) (by omega) (by omega)) ⟨s + 1, ?_⟩
      exact xw_pb24 hs g hT hF s 0 (by omega) ow ba (fun j hj => absurd hj (Nat.not_lt_zero _)) (fun t' ht' => by rw [h t' (by omega)]; show (-1 : Int32) = nI 0 - 1; decide) (fun t' ht' => Nat.zero_le _)
    | succ d ih =>
      intro t ht ba h
      refine br_f (nI_ge (b := 4) (by omega) (by omega)) ⟨vp_in_nI (by omega) (by omega), ?_⟩
      refine nm_r (e' := upd ba t (-1)) (by rw [nb_cl (by omega)]) ?_
      refine nm_r (nI_1 t) ?_
      refine ih (t + 1) (by omega) (upd ba t (-1)) ?_
      intro j hj
      by_cases y : j = t
      · rw [y, pk_us]
      · rw [pk_un y]; exact h j (by omega)
  exact ⟨5, H 4 0 rfl ba (fun j hj => absurd hj (Nat.not_lt_zero _))⟩
theorem xw_allCalls {pc cp : Int32} {K A B C SV VR CE KP oa pa ow ba re : Nat → Int32} {ps wt : Nat → Int64} {LF rt co : Nat → Int32} {s : Nat} (hs : s ≤ 48) {post : Int32 → Prop} (g : pg_g K A s) (hb : ∀ t, t < 4 → ba t = nI (pg_lb K A t s) - 1)
    (hT : pg_nm K A s → post 1) (hF : ¬ pg_nm K A s → post 0) : wpX_allCallsHaveBodies post ((nI s), pc, cp, K, A, B, C, SV, VR, CE, KP, oa, pa, ow, ba, re, ps, wt, LF, rt, co) := by
  have H : ∀ d i, i + d = s → pg_nm K A s ∨ True → (∀ j, j < i → K j = 9 → pg_lb K A (pg_ar A j) s ≠ 0) → wX_allCallsHaveBodies_2 post (nI s) pc cp K A B C SV VR CE KP oa pa ow ba re ps wt LF rt co (d + 1) (nI i) := by
    intro d
    induction d with
    | zero =>
      intro i hi _ h
      have e : i = s := by omega
      subst e
      exact br_t (nI_le (Nat.le_refl _) (by omega)) (hT h)
    | succ d ih =>
      intro i hi _ h
      have his : i < s := by omega
      have hc : (nI i).toNatClampNeg = i := nb_c48 his hs
      have hin : vp_in (nI i) 48 := vp_in_nI (by omega) (by omega)
      refine br_f (nI_ge his (by omega)) ⟨hin, ?_⟩
      by_cases b : K i = 9
      · obtain ⟨a4, ea⟩ := (g i his).2.1 (Or.inl b)
        have hl := pg_lb_le (K := K) (A := A) (t := pg_ar A i) s
        have hcl : (nI (pg_ar A i)).toNatClampNeg = pg_ar A i := nb_cl (by omega)
        refine br_t (by rw [hc]; exact b) ⟨hin, by rw [hc, ea]; exact vp_in_nI (by omega) (by omega), ?_⟩
        by_cases z : pg_lb K A (pg_ar A i) s = 0
        · exact br_t (by rw [hc]; show ba (pg_ar A i) = -1; rw [hb _ a4, xw_m1 (by omega)]; exact z) (hF (fun y => y i his b z))
        · refine br_f (by rw [hc]; show ¬ ba (pg_ar A i) = -1; rw [hb _ a4, xw_m1 (by omega)]; exact z) ?_
          refine nm_r (nI_1 i) (ih (i + 1) (by omega) (Or.inr trivial) ?_)
          intro j hj kj
          by_cases y : j = i
          · rw [y]; exact z
          · exact h j (by omega) kj
      · refine br_f (by rw [hc]; exact b) ?_
        refine nm_r (nI_1 i) (ih (i + 1) (by omega) (Or.inr trivial) ?_)
        intro j hj kj
        by_cases y : j = i
        · rw [y] at kj; exact absurd kj b
        · exact h j (by omega) kj
  exact ⟨s + 1, H s 0 (by omega) (Or.inr trivial) (fun j hj => absurd hj (Nat.not_lt_zero _))⟩
end XW
end
section
section YW
/-! the reference's walks of the first tests -/
theorem yw_opens {pc : Int32} {K A B C SV VR CE KP LF cl rc : Nat → Int32} {wy tm : Nat → Int64} {s i : Nat} (hi : i < 48) {post : Int32 → Prop} (h1 : pg_op K i → post 1) (h0 : ¬ pg_op K i → post 0) : wpY_opens post ((nI s), pc, K, A, B, C, SV, VR, CE, KP, LF, cl, rc, wy, tm) (nI i) := by
  have hc : (nI i).toNatClampNeg = i := nb_cl (by omega)
  have hin : vp_in (nI i) 48 := vp_in_nI hi (by omega)
  refine ⟨hin, ?_⟩
  rw [hc]
  by_cases k6 : K i = 6
  · exact br_t k6 (h1 (Or.inl k6))
  · refine br_f k6 ⟨hin, ?_⟩
    by_cases k7 : K i = 7
    · exact br_t k7 (h1 (Or.inr k7))
    · exact br_f k7 (h0 (fun z => z.elim k6 k7))
theorem yw_malformed {pc : Int32} {K A B C SV VR CE KP LF cl rc : Nat → Int32} {wy tm : Nat → Int64} {s : Nat} (hs : s ≤ 48) {post : Int32 → Prop} (hT : pg_wf K s → post 0) (hF : ¬ pg_wf K s → post 1) : wpY_malformed post ((nI s), pc, K, A, B, C, SV, VR, CE, KP, LF, cl, rc, wy, tm) := by
  have H : ∀ d i, i + d = s → pg_wp K i → wY_malformed_4 post (nI s) pc K A B C SV VR CE KP LF cl rc wy tm (d + 1) (nI (pg_dp K i)) (nI i) := by
    intro d
    induction d with
    | zero =>
      intro i hi w
      have e : i = s := by omega
      subst e
      have h3 := pg_dp3 w i (Nat.le_refl _)
      refine br_t (nI_le (Nat.le_refl _) (by omega)) ?_
      exact pk_eq (pg_dp K i) 0 (fun z => hT ⟨w, z⟩) (fun z => hF (fun y => z y.2))
    | succ d ih =>
      intro i hi w
      have his : i < s := by omega
      have h3 := pg_dp3 w i (Nat.le_refl _)
      have hc : (nI i).toNatClampNeg = i := nb_c48 his hs
      have hin : vp_in (nI i) 48 := vp_in_nI (by omega) (by omega)
      refine br_f (nI_ge his (by omega)) ⟨hin, ?_⟩
      have H54 : ∀ c, c ≤ 4 → pg_dp K (i + 1) = c → (c ≤ 3 → pg_wp K (i + 1)) → (¬ c ≤ 3 → ¬ pg_wf K s) →
          wY_malformed_54 post (wY_malformed_4 post (nI s) pc K A B C SV VR CE KP LF cl rc wy tm (d + 1)) (nI c) (nI i) (nI s) pc K A B C SV VR CE KP LF cl rc wy tm := by
        intro c hc4 ec h h'
        refine br_f (nI_pos (by omega)) ?_
        refine pk_le c 3 (fun z => ?_) (fun z => hF (h' (by omega)))
        refine nm_r (nI_1 i) ?_
        rw [← ec]
        exact ih (i + 1) (by omega) (h z)
      have H29 : (K i = 11 → pg_dp K i = 0) → wY_malformed_29 post (wY_malformed_4 post (nI s) pc K A B C SV VR CE KP LF cl rc wy tm (d + 1)) (nI (pg_dp K i)) (nI i) (nI s) pc K A B C SV VR CE KP LF cl rc wy tm := by
        intro hb
        refine yw_opens (by omega) (fun o => ?_) (fun o => ?_)
        · refine br_f (by decide) (nm_r (nI_1 _) ⟨hin, ?_⟩)
          have h8 : ¬ K i = 8 := fun z => pg_k_68 z o
          refine br_f (by rw [hc]; exact h8) ?_
          refine H54 _ (by omega) (pg_dp_op o) (fun z => pg_wp_s w hb (fun _ => by omega) (fun y => absurd y h8)) ?_
          intro z y
          have := (y.1 i his).2.1 o
          omega
        · refine br_t rfl ⟨hin, ?_⟩
          by_cases k8 : K i = 8
          · refine br_t (by rw [hc]; exact k8) ?_
            by_cases z : pg_dp K i = 0
            · refine nm_r (e' := -1) (by rw [z]; decide) ?_
              exact br_t (by decide) (hF (fun y => by have := (y.1 i his).2.2 k8; omega))
            · refine nm_r (nb_m1 (by omega)) ?_
              exact H54 _ (by omega) (pg_dp_end k8) (fun _ => pg_wp_s w hb (fun y => absurd y o) (fun _ => by omega)) (fun y => absurd (by omega) y)
          · refine br_f (by rw [hc]; exact k8) ?_
            exact H54 _ (by omega) (pg_dp_no o k8) (fun _ => pg_wp_s w hb (fun y => absurd y o) (fun y => absurd y k8)) (fun y => absurd (by omega) y)
      by_cases b : K i = 11
      · refine br_t (by rw [hc]; exact b) ?_
        exact pk_eq (pg_dp K i) 0 (fun z => H29 (fun _ => z)) (fun z => hF (fun y => z ((y.1 i his).1 b)))
      · exact br_f (by rw [hc]; exact b) (H29 (fun y => absurd y b))
  exact ⟨s + 1, H s 0 (by omega) (fun i hi => absurd hi (Nat.not_lt_zero _))⟩
theorem yw_bodies {pc : Int32} {K A B C SV VR CE KP LF cl rc : Nat → Int32} {wy tm : Nat → Int64} {s t : Nat} (hs : s ≤ 48) (ht : t < 4) (g : pg_g K A s) {post : Int32 → Prop} (h : post (nI (pg_cb K A t s))) : wpY_bodies post ((nI s), pc, K, A, B, C, SV, VR, CE, KP, LF, cl, rc, wy, tm) (nI t) := by
  have H : ∀ d i, i + d = s → wY_bodies_4 post (nI t) (nI s) pc K A B C SV VR CE KP LF cl rc wy tm (d + 1) (nI (pg_cb K A t i)) (nI i) := by
    intro d
    induction d with
    | zero =>
      intro i hi
      have e : i = s := by omega
      subst e
      exact br_t (nI_le (Nat.le_refl _) (by omega)) h
    | succ d ih =>
      intro i hi
      have his : i < s := by omega
      have hc : (nI i).toNatClampNeg = i := nb_c48 his hs
      have hin : vp_in (nI i) 48 := vp_in_nI (by omega) (by omega)
      refine br_f (nI_ge his (by omega)) ⟨hin, ?_⟩
      have I := ih (i + 1) (by omega)
      by_cases b : K i = 11
      · obtain ⟨a4, ea⟩ := (g i his).2.1 (Or.inr b)
        refine br_t (by rw [hc]; exact b) ⟨hin, ?_⟩
        by_cases z : pg_ar A i = t
        · refine br_t (by rw [hc, ea, z]) (nm_r (nI_1 _) (nm_r (nI_1 i) ?_))
          rw [pg_cb_y b z] at I; exact I
        · refine br_f (by rw [hc, ea]; exact nb_ne z (by omega) (by omega)) (nm_r (nI_1 i) ?_)
          rw [pg_cb_n (fun y => z y.2)] at I; exact I
      · refine br_f (by rw [hc]; exact b) (nm_r (nI_1 i) ?_)
        rw [pg_cb_n (fun y => b y.1)] at I; exact I
  exact ⟨s + 1, H s 0 (by omega)⟩
/-- where the piece of t begins, as the reference says it -/
def yw_pl (K A : Nat → Int32) (s t : Nat) : Nat := if pg_lb K A t s = 0 then s else pg_lb K A t s
theorem yw_placeOf {pc : Int32} {K A B C SV VR CE KP LF cl rc : Nat → Int32} {wy tm : Nat → Int64} {s t : Nat} (hs : s ≤ 48) (ht : t < 4) (g : pg_g K A s) (hn : pg_cb K A t s ≤ 1) {post : Int32 → Prop} (h : post (nI (yw_pl K A s t))) : wpY_placeOf post ((nI s), pc, K, A, B, C, SV, VR, CE, KP, LF, cl, rc, wy, tm) (nI t) := by
  have H : ∀ d i, i + d = s → pg_lb K A t i = 0 → wY_placeOf_2 post (nI t) (nI s) pc K A B C SV VR CE KP LF cl rc wy tm (d + 1) (nI i) := by
    intro d
    induction d with
    | zero =>
      intro i hi l
      have e : i = s := by omega
      subst e
      unfold yw_pl at h
      rw [if_pos l] at h
      exact br_t (nI_le (Nat.le_refl _) (by omega)) h
    | succ d ih =>
      intro i hi l
      have his : i < s := by omega
      have hc : (nI i).toNatClampNeg = i := nb_c48 his hs
      have hin : vp_in (nI i) 48 := vp_in_nI (by omega) (by omega)
      refine br_f (nI_ge his (by omega)) ⟨hin, ?_⟩
      by_cases b : K i = 11
      · obtain ⟨a4, ea⟩ := (g i his).2.1 (Or.inr b)
        refine br_t (by rw [hc]; exact b) ⟨hin, ?_⟩
        by_cases z : pg_ar A i = t
        · refine br_t (by rw [hc, ea, z]) ?_
          have h6 := pg_cb_mono (K := K) (A := A) (t := t) (i + 1) s (by omega)
          rw [pg_cb_y b z] at h6
          have h7 : pg_lb K A t s ≠ 0 := fun y => by have := (pg_lb_cb s).mp y; omega
          have h8 := pg_lb_b s h7
          have h9 := pg_lb_le (K := K) (A := A) (t := t) s
          have := pg_nt_u hn (by omega) his h8.1 b h8.2 z
          unfold yw_pl at h
          rw [if_neg h7, show pg_lb K A t s = i + 1 by omega, ← nI_1] at h
          exact h
        · refine br_f (by rw [hc, ea]; exact nb_ne z (by omega) (by omega)) (nm_r (nI_1 i) ?_)
          exact ih (i + 1) (by omega) (by rw [pg_lb_n (fun y => z y.2)]; exact l)
      · refine br_f (by rw [hc]; exact b) (nm_r (nI_1 i) ?_)
        exact ih (i + 1) (by omega) (by rw [pg_lb_n (fun y => b y.1)]; exact l)
  exact ⟨s + 1, H s 0 (by omega) rfl⟩
/-- a piece's number as the reference says it -/
def yw_p (p : Nat) : Int32 := if p = 4 then -1 else nI p
theorem yw_pieceOf {pc : Int32} {K A B C SV VR CE KP LF cl rc : Nat → Int32} {wy tm : Nat → Int64} {s i : Nat} (hs : s ≤ 48) (his : i < s) (g : pg_g K A s) {post : Int32 → Prop} (h : post (yw_p (pg_pw K A (i + 1)))) : wpY_pieceOf post ((nI s), pc, K, A, B, C, SV, VR, CE, KP, LF, cl, rc, wy, tm) (nI i) := by
  have H : ∀ k, k ≤ i → pg_pw K A (k + 1) = pg_pw K A (i + 1) → wY_pieceOf_2 post (nI s) pc K A B C SV VR CE KP LF cl rc wy tm (k + 2) (nI k) := by
    intro k
    induction k with
    | zero =>
      intro hk e
      have hin : vp_in (nI 0) 48 := vp_in_nI (by omega) (by omega)
      have hc : (nI 0).toNatClampNeg = 0 := nb_cl (by omega)
      refine br_f (nI_pos (by omega)) ⟨hin, ?_⟩
      by_cases b : K 0 = 11
      · obtain ⟨a4, ea⟩ := (g 0 (by omega)).2.1 (Or.inr b)
        refine br_t (by rw [hc]; exact b) ⟨hin, ?_⟩
        rw [← e, pg_pw_b b] at h
        unfold yw_p at h
        rw [if_neg (by omega)] at h
        rw [hc, ea]; exact h
      · refine br_f (by rw [hc]; exact b) (nm_r (e' := -1) (by decide) ?_)
        rw [← e, pg_pw_n b] at h
        exact br_t (by decide) h
    | succ k ih =>
      intro hk e
      have hin : vp_in (nI (k + 1)) 48 := vp_in_nI (by omega) (by omega)
      have hc : (nI (k + 1)).toNatClampNeg = k + 1 := nb_cl (by omega)
      refine br_f (nI_pos (by omega)) ⟨hin, ?_⟩
      by_cases b : K (k + 1) = 11
      · obtain ⟨a4, ea⟩ := (g (k + 1) (by omega)).2.1 (Or.inr b)
        refine br_t (by rw [hc]; exact b) ⟨hin, ?_⟩
        rw [← e, pg_pw_b b] at h
        unfold yw_p at h
        rw [if_neg (by omega)] at h
        rw [hc, ea]; exact h
      · refine br_f (by rw [hc]; exact b) (nm_r (pk_m1 k) ?_)
        exact ih (by omega) (by rw [← e, pg_pw_n b])
  exact ⟨i + 2, H i (Nat.le_refl _) rfl⟩
theorem yw_missing {pc : Int32} {K A B C SV VR CE KP LF cl rc : Nat → Int32} {wy tm : Nat → Int64} {s : Nat} (hs : s ≤ 48) (g : pg_g K A s) (hn : pg_nt K A s) {post : Int32 → Prop} (hT : pg_nm K A s → post 0) (hF : ¬ pg_nm K A s → post 1) : wpY_missing post ((nI s), pc, K, A, B, C, SV, VR, CE, KP, LF, cl, rc, wy, tm) := by
  have H : ∀ d i, i + d = s → (∀ j, j < i → K j = 9 → pg_lb K A (pg_ar A j) s ≠ 0) → wY_missing_2 post (nI s) pc K A B C SV VR CE KP LF cl rc wy tm (d + 1) (nI i) := by
    intro d
    induction d with
    | zero =>
      intro i hi h
      have e : i = s := by omega
      subst e
      exact br_t (nI_le (Nat.le_refl _) (by omega)) (hT h)
    | succ d ih =>
      intro i hi h
      have his : i < s := by omega
      have hc : (nI i).toNatClampNeg = i := nb_c48 his hs
      have hin : vp_in (nI i) 48 := vp_in_nI (by omega) (by omega)
      refine br_f (nI_ge his (by omega)) ⟨hin, ?_⟩
      by_cases b : K i = 9
      · obtain ⟨a4, ea⟩ := (g i his).2.1 (Or.inl b)
        refine br_t (by rw [hc]; exact b) ⟨hin, ?_⟩
        have h1 := hn _ a4
        rw [hc, ea]
        refine yw_bodies hs a4 g ?_
        refine pk_eq (pg_cb K A (pg_ar A i) s) 0 (fun z => hF (fun y => y i his b ((pg_lb_cb s).mpr z))) (fun z => ?_)
        refine nm_r (nI_1 i) (ih (i + 1) (by omega) ?_)
        intro j hj kj
        by_cases y : j = i
        · rw [y]; exact fun x => z ((pg_lb_cb s).mp x)
        · exact h j (by omega) kj
      · refine br_f (by rw [hc]; exact b) (nm_r (nI_1 i) (ih (i + 1) (by omega) ?_))
        intro j hj kj
        by_cases y : j = i
        · rw [y] at kj; exact absurd kj b
        · exact h j (by omega) kj
  exact ⟨s + 1, H s 0 (by omega) (fun j hj => absurd hj (Nat.not_lt_zero _))⟩
/-- END of an opener, opener of an END -/
theorem yw_endOf {pc : Int32} {K A B C SV VR CE KP LF cl rc : Nat → Int32} {wy tm : Nat → Int64} {s q e : Nat} (hs : s ≤ 48) (w : pg_wp K s) (hes : e < s) (m : pg_mt K q e) {post : Int32 → Prop} (h : post (nI e)) : wpY_endOf post ((nI s), pc, K, A, B, C, SV, VR, CE, KP, LF, cl, rc, wy, tm) (nI q) := by
  obtain ⟨hqe, ho, h8, hd, hk⟩ := m
  have H : ∀ d i, i + d = e → q < i → wY_endOf_4 post (nI s) pc K A B C SV VR CE KP LF cl rc wy tm (d + 1) (nI (pg_dp K i - pg_dp K q)) (nI i) := by
    intro d
    induction d with
    | zero =>
      intro i hi hq
      have e' : i = e := by omega
      subst e'
      have hc : (nI i).toNatClampNeg = i := nb_cl (by omega)
      have hin : vp_in (nI i) 48 := vp_in_nI (by omega) (by omega)
      refine br_f (nI_ge hes (by omega)) ?_
      refine yw_opens (by omega) (fun o => absurd o (pg_k_68 h8)) (fun o => br_t rfl ⟨hin, ?_⟩)
      refine br_t (by rw [hc]; exact h8) ?_
      have := hk i hq (Nat.le_refl _)
      refine nm_r (nb_m1 (by omega)) ?_
      rw [pg_dp_end h8] at hd
      exact br_t (by rw [show pg_dp K i - pg_dp K q - 1 = 0 by omega]; rfl) h
    | succ d ih =>
      intro i hi hq
      have hc : (nI i).toNatClampNeg = i := nb_cl (by omega)
      have hin : vp_in (nI i) 48 := vp_in_nI (by omega) (by omega)
      have h3 := pg_dp3 w i (by omega)
      have h3' := pg_dp3 w (i + 1) (by omega)
      have h1 := hk i hq (by omega)
      have h2 := hk (i + 1) (by omega) (by omega)
      refine br_f (nI_ge (by omega) (by omega)) ?_
      have I := ih (i + 1) (by omega) (by omega)
      have H37 : ∀ c, c = pg_dp K (i + 1) - pg_dp K q → wY_endOf_37 post (wY_endOf_4 post (nI s) pc K A B C SV VR CE KP LF cl rc wy tm (d + 1)) (nI c) (nI i) (nI s) pc K A B C SV VR CE KP LF cl rc wy tm := by
        intro c ec
        refine br_f (nI_ne0 (by omega) (by omega)) (nm_r (nI_1 i) ?_)
        rw [ec]; exact I
      refine yw_opens (by omega) (fun o => br_f (by decide) (nm_r (nI_1 _) ⟨hin, ?_⟩)) (fun o => br_t rfl ⟨hin, ?_⟩)
      · refine br_f (by rw [hc]; exact fun z => pg_k_68 z o) (H37 _ ?_)
        rw [pg_dp_op o]; omega
      · by_cases k8 : K i = 8
        · refine br_t (by rw [hc]; exact k8) (nm_r (nb_m1 (by omega)) (H37 _ ?_))
          rw [pg_dp_end k8]; omega
        · refine br_f (by rw [hc]; exact k8) (H37 _ ?_)
          rw [pg_dp_no o k8]
  refine ⟨(e - (q + 1)) + 2, ?_⟩
  have hc : (nI q).toNatClampNeg = q := nb_cl (by omega)
  have hin : vp_in (nI q) 48 := vp_in_nI (by omega) (by omega)
  refine br_f (nI_ge (by omega) (by omega)) ?_
  refine yw_opens (by omega) (fun o => br_f (by decide) (nm_r (e' := nI 1) (by decide) ⟨hin, ?_⟩)) (fun o => absurd ho o)
  refine br_f (by rw [hc]; exact fun z => pg_k_68 z ho) (br_f (by decide) (nm_r (nI_1 q) ?_))
  have I := H (e - (q + 1)) (q + 1) (by omega) (by omega)
  rw [pg_dp_op ho, show pg_dp K q + 1 - pg_dp K q = 1 by omega] at I
  exact I
theorem yw_openerOf {pc : Int32} {K A B C SV VR CE KP LF cl rc : Nat → Int32} {wy tm : Nat → Int64} {s q e : Nat} (hs : s ≤ 48) (w : pg_wp K s) (hes : e < s) (m : pg_mt K q e) {post : Int32 → Prop} (h : post (nI q)) : wpY_openerOf post ((nI s), pc, K, A, B, C, SV, VR, CE, KP, LF, cl, rc, wy, tm) (nI e) := by
  obtain ⟨hqe, ho, h8, hd, hk⟩ := m
  have H : ∀ d k, q + d = k → k ≤ e → wY_openerOf_4 post (nI s) pc K A B C SV VR CE KP LF cl rc wy tm (d + 1) (nI (pg_dp K (k + 1) - pg_dp K q)) (nI k) := by
    intro d
    induction d with
    | zero =>
      intro k hk' hke
      have e' : k = q := by omega
      subst e'
      have hc : (nI k).toNatClampNeg = k := nb_cl (by omega)
      have hin : vp_in (nI k) 48 := vp_in_nI (by omega) (by omega)
      refine br_f (nI_pos (by omega)) ⟨hin, ?_⟩
      refine br_f (by rw [hc]; exact fun z => pg_k_68 z ho) ?_
      refine yw_opens (by omega) (fun o => br_f (by decide) ?_) (fun o => absurd ho o)
      rw [pg_dp_op ho, show pg_dp K k + 1 - pg_dp K k = 1 by omega]
      exact nm_r (e' := nI 0) (by decide) (br_t rfl h)
    | succ d ih =>
      intro k hk' hke
      obtain ⟨k, rfl⟩ : ∃ j, k = j + 1 := ⟨k - 1, by omega⟩
      have hc : (nI (k + 1)).toNatClampNeg = k + 1 := nb_cl (by omega)
      have hin : vp_in (nI (k + 1)) 48 := vp_in_nI (by omega) (by omega)
      have h1 := hk (k + 1) (by omega) hke
      have h3 := pg_dp3 w (k + 1) (by omega)
      have I := ih k (by omega) (by omega)
      have H33 : ∀ c, c = pg_dp K (k + 1) - pg_dp K q → wY_openerOf_33 post (wY_openerOf_4 post (nI s) pc K A B C SV VR CE KP LF cl rc wy tm (d + 1)) (nI c) (nI (k + 1)) (nI s) pc K A B C SV VR CE KP LF cl rc wy tm := by
        intro c ec
        refine br_f (nI_ne0 (by omega) (by omega)) (nm_r (pk_m1 k) ?_)
        rw [ec]; exact I
      refine br_f (nI_pos (by omega)) ⟨hin, ?_⟩
      by_cases k8 : K (k + 1) = 8
      · refine br_t (by rw [hc]; exact k8) (nm_r (nI_1 _) ?_)
        refine yw_opens (by omega) (fun o => absurd o (pg_k_68 k8)) (fun o => br_t rfl (H33 _ ?_))
        rw [pg_dp_end k8]
        by_cases z : k + 1 = e
        · rw [← z, pg_dp_end k8] at hd; omega
        · have h2 := hk (k + 1 + 1) (by omega) (by omega)
          rw [pg_dp_end k8] at h2; omega
      · refine br_f (by rw [hc]; exact k8) ?_
        refine yw_opens (by omega) (fun o => br_f (by decide) ?_) (fun o => br_t rfl (H33 _ ?_))
        · rw [pg_dp_op o]
          exact nm_r (nb_m1 (by omega)) (H33 _ (by omega))
        · rw [pg_dp_no o k8]
  have I := H (e - q) e (by omega) (Nat.le_refl _)
  rw [hd, Nat.sub_self] at I
  exact ⟨_, I⟩
end YW
end
section
section WA
/-! who calls whom: the closure over the four subroutines -/
def wa_dc (K A : Nat → Int32) (s p t : Nat) : Prop := ∃ i, i < s ∧ K i = 9 ∧ pg_pw K A (i + 1) = p ∧ pg_ar A i = t
def wa_P (R : Nat → Nat → Prop) : Nat → Nat → Nat → Prop
  | 0, p, t => R p t
  | k + 1, p, t => wa_P R k p t ∨ (wa_P R k p k ∧ wa_P R k k t)
theorem wa_tr {R : Nat → Nat → Prop} : ∀ k m p t, m < k → wa_P R k p m → wa_P R k m t → wa_P R k p t := by
  intro k
  induction k with
  | zero => intro m p t h; omega
  | succ k ih =>
    intro m p t hm h1 h2
    by_cases z : m = k
    · subst z
      refine Or.inr ⟨?_, ?_⟩
      · rcases h1 with h | h
        · exact h
        · exact h.1
      · rcases h2 with h | h
        · exact h
        · exact h.2
    · have hk : m < k := by omega
      rcases h1 with a | ⟨a, b⟩ <;> rcases h2 with c | ⟨c, d⟩
      · exact Or.inl (ih m p t hk a c)
      · exact Or.inr ⟨ih m p k hk a c, d⟩
      · exact Or.inr ⟨a, ih m k t hk b c⟩
      · exact Or.inr ⟨a, d⟩
theorem wa_up {R : Nat → Nat → Prop} {p t : Nat} : ∀ k m, k ≤ m → wa_P R k p t → wa_P R m p t := by
  intro k m
  induction m with
  | zero => intro h x; rw [show k = 0 by omega] at x; exact x
  | succ m ih =>
    intro h x
    by_cases z : k = m + 1
    · rw [z] at x; exact x
    · exact Or.inl (ih (by omega) x)
abbrev wa_b (re : Nat → Int32) (p t : Nat) : Prop := bt (re p) t = true
/-- one turn of a closure: row p takes row q, if it has q -/
def wa_st (re re' : Nat → Int32) (p q : Nat) : Prop :=
  (∀ x t, wa_b re x t → wa_b re' x t) ∧ (∀ t, wa_b re p q → wa_b re q t → wa_b re' p t) ∧ (∀ x t, wa_b re' x t → wa_b re x t ∨ (x = p ∧ wa_b re p q ∧ wa_b re q t))
theorem wa_st_t {re : Nat → Int32} {p q : Nat} (h : wa_b re p q) : wa_st re (upd re p (re p ||| re q)) p q := by
  have e : ∀ t, bt (upd re p (re p ||| re q) p) t = (bt (re p) t || bt (re q) t) := by intro t; rw [pk_us, b_or]
  refine ⟨?_, ?_, ?_⟩
  · intro x t hx
    by_cases z : x = p
    · subst z; show bt _ t = true; rw [e t, hx]; rfl
    · show bt _ t = true; rw [pk_un z]; exact hx
  · intro t _ ht
    show bt _ t = true; rw [e t, ht, Bool.or_true]
  · intro x t hx
    by_cases z : x = p
    · subst z
      have hx' : bt _ t = true := hx
      rw [e t, Bool.or_eq_true] at hx'
      rcases hx' with y | y
      · exact Or.inl y
      · exact Or.inr ⟨rfl, h, y⟩
    · have hx' : bt _ t = true := hx
      rw [pk_un z] at hx'
      exact Or.inl hx'
theorem wa_st_f {re : Nat → Int32} {p q : Nat} (h : ¬ wa_b re p q) : wa_st re re p q :=
  ⟨fun _ _ x => x, fun _ x _ => absurd x h, fun _ _ x => Or.inl x⟩
def wa_snd (R : Nat → Nat → Prop) (re : Nat → Int32) : Prop := ∀ x t, x < 4 → t < 4 → wa_b re x t → wa_P R 4 x t
def wa_cmp (R : Nat → Nat → Prop) (re : Nat → Int32) (v n : Nat) : Prop := ∀ x t, x < n → t < 4 → wa_P R v x t → wa_b re x t
theorem wa_snd_s {R : Nat → Nat → Prop} {re re' : Nat → Int32} {p q : Nat} (hq : q < 4) (h : wa_snd R re) (S : wa_st re re' p q) : wa_snd R re' := by
  intro x t hx ht hb
  rcases S.2.2 x t hb with y | ⟨y, a, b⟩
  · exact h x t hx ht y
  · subst y; exact wa_tr 4 q x t hq (h x q hx hq a) (h q t hq ht b)
theorem wa_cmp_s {R : Nat → Nat → Prop} {re re' : Nat → Int32} {p q v n : Nat} (h : wa_cmp R re v n) (S : wa_st re re' p q) : wa_cmp R re' v n :=
  fun x t hx ht hp => S.1 x t (h x t hx ht hp)
theorem wa_row {R : Nat → Nat → Prop} {re re' : Nat → Int32} {p v : Nat} (hp : p < 4) (hv : v < 4) (h : wa_cmp R re v 4) (S : wa_st re re' p v) : ∀ t, t < 4 → wa_P R (v + 1) p t → wa_b re' p t := by
  intro t ht x
  rcases x with y | ⟨a, b⟩
  · exact S.1 p t (h p t hp ht y)
  · exact S.2.1 t (h p v hp hv a) (h v t hv ht b)
theorem wa_cmp_x {R : Nat → Nat → Prop} {re re' : Nat → Int32} {v f : Nat} (hf : f < 4) (hv : v < 4) (h : wa_cmp R re v 4) (h' : wa_cmp R re (v + 1) f) (S : wa_st re re' f v) : wa_cmp R re' (v + 1) (f + 1) := by
  intro x t hx ht hp
  by_cases z : x = f
  · subst z; exact wa_row hf hv h S t ht hp
  · exact S.1 x t (h' x t (by omega) ht hp)
theorem wa_dcy {K A : Nat → Int32} {i p t : Nat} (b : K i = 9) : wa_dc K A (i + 1) p t ↔ wa_dc K A i p t ∨ (p = pg_pw K A (i + 1) ∧ t = pg_ar A i) := by
  constructor
  · rintro ⟨j, a1, a2, a3, a4⟩
    by_cases z : j = i
    · subst z; exact Or.inr ⟨a3.symm, a4.symm⟩
    · exact Or.inl ⟨j, by omega, a2, a3, a4⟩
  · rintro (⟨j, a1, a2, a3, a4⟩ | ⟨z, y⟩)
    · exact ⟨j, by omega, a2, a3, a4⟩
    · exact ⟨i, by omega, b, z.symm, y.symm⟩
theorem wa_dcn {K A : Nat → Int32} {i p t : Nat} (b : ¬ K i = 9) : wa_dc K A (i + 1) p t ↔ wa_dc K A i p t := by
  constructor
  · rintro ⟨j, a1, a2, a3, a4⟩
    by_cases z : j = i
    · rw [z] at a2; exact absurd a2 b
    · exact ⟨j, by omega, a2, a3, a4⟩
  · rintro ⟨j, a1, a2, a3, a4⟩; exact ⟨j, by omega, a2, a3, a4⟩
theorem wa_nb {re : Nat → Int32} {p q t a : Nat} (ha : a < 32) (ht : t < 32) : wa_b (upd re q (re q ||| ((1 : Int32) <<< (nI a &&& 31)))) p t ↔ wa_b re p t ∨ (p = q ∧ t = a) := by
  show bt _ t = true ↔ bt _ t = true ∨ _
  by_cases y : p = q
  · subst y
    rw [pk_us, b_or, Bool.or_eq_true, nb_one ha ht, decide_eq_true_eq]
    constructor
    · rintro (z | z)
      · exact Or.inl z
      · exact Or.inr ⟨rfl, z⟩
    · rintro (z | z)
      · exact Or.inl z
      · exact Or.inr z.2
  · rw [pk_un y]
    exact ⟨fun z => Or.inl z, fun z => z.elim id (fun x => absurd x.1 y)⟩
theorem wa_nd {K A re : Nat → Int32} {i p t : Nat} (b : K i = 9) (a4 : pg_ar A i < 4) (ht : t < 4) (h : wa_b re p t ↔ wa_dc K A i p t) :
    wa_b (upd re (pg_pw K A (i + 1)) (re (pg_pw K A (i + 1)) ||| ((1 : Int32) <<< (nI (pg_ar A i) &&& 31)))) p t ↔ wa_dc K A (i + 1) p t := by
  rw [wa_nb (by omega) (by omega), wa_dcy b, ← h]
/-! X -/
theorem wx_reaches {pc cp : Int32} {K A B C SV VR CE KP oa pa ow ba re : Nat → Int32} {ps wt : Nat → Int64} {LF rt co : Nat → Int32} {s f v : Nat} (hf : f < 5) (hv : v < 4) {post : Int32 → Prop} (h1 : wa_b re f v → post 1) (h0 : ¬ wa_b re f v → post 0) : wpX_reaches post ((nI s), pc, cp, K, A, B, C, SV, VR, CE, KP, oa, pa, ow, ba, re, ps, wt, LF, rt, co) (nI f) (nI v) := by
  have hc : (nI f).toNatClampNeg = f := nb_cl (by omega)
  refine ⟨vp_in_nI hf (by omega), ?_⟩
  rw [hc]
  by_cases b : bt (re f) v = true
  · exact br_f (fun z => by rw [nb_bX _ (by omega), b] at z; exact absurd z (by decide)) (h1 b)
  · exact br_t ((nb_bX _ (by omega)).mpr (by simpa using b)) (h0 b)
theorem wx_ndc {pc cp : Int32} {K A B C SV VR CE KP oa pa ow ba : Nat → Int32} {ps wt : Nat → Int64} {LF rt co : Nat → Int32} {s : Nat} (hs : s ≤ 48) (g : pg_g K A s) (how : ∀ j, j < s → ow j = nI (pg_pw K A (j + 1))) {post : SX → Prop}
    (h : ∀ re, (∀ p t, p < 5 → t < 4 → (wa_b re p t ↔ wa_dc K A s p t)) → post ((nI s), pc, cp, K, A, B, C, SV, VR, CE, KP, oa, pa, ow, ba, re, ps, wt, LF, rt, co)) : ∀ re, wpX_noteDirectCalls post ((nI s), pc, cp, K, A, B, C, SV, VR, CE, KP, oa, pa, ow, ba, re, ps, wt, LF, rt, co) := by
  have H22 : ∀ d i, i + d = s → ∀ re, (∀ p t, p < 5 → t < 4 → (wa_b re p t ↔ wa_dc K A i p t)) → wX_noteDirectCalls_22 post (nI s) pc cp (d + 1) (nI i) K A B C SV VR CE KP oa pa ow ba re ps wt LF rt co := by
    intro d
    induction d with
    | zero =>
      intro i hi re hr
      have e : i = s := by omega
      subst e
      exact br_t (nI_le (Nat.le_refl _) (by omega)) (h re hr)
    | succ d ih =>
      intro i hi re hr
      have his : i < s := by omega
      have hc : (nI i).toNatClampNeg = i := nb_c48 his hs
      have hin : vp_in (nI i) 48 := vp_in_nI (by omega) (by omega)
      have hp4 := pg_pw4 g (i + 1) (by omega)
      refine br_f (nI_ge his (by omega)) ⟨hin, ?_⟩
      by_cases b : K i = 9
      · obtain ⟨a4, ea⟩ := (g i his).2.1 (Or.inl b)
        have ho : ow (nI i).toNatClampNeg = nI (pg_pw K A (i + 1)) := by rw [hc]; exact how i his
        have hcp : (nI (pg_pw K A (i + 1))).toNatClampNeg = pg_pw K A (i + 1) := nb_cl (by omega)
        have hin5 : vp_in (ow (nI i).toNatClampNeg) 5 := by rw [ho]; exact vp_in_nI (by omega) (by omega)
        refine br_t (by rw [hc]; exact b) ⟨hin, hin5, hin, hin5, ?_⟩
        refine nm_r (e' := upd re (pg_pw K A (i + 1)) (re (pg_pw K A (i + 1)) ||| ((1 : Int32) <<< (nI (pg_ar A i) &&& 31)))) (by rw [ho, hcp, hc, ← ea]) ?_
        refine nm_r (nI_1 i) (ih (i + 1) (by omega) _ ?_)
        intro p t hp ht
        exact wa_nd b a4 ht (hr p t hp ht)
      · refine br_f (by rw [hc]; exact b) (nm_r (nI_1 i) (ih (i + 1) (by omega) re ?_))
        intro p t hp ht
        exact (hr p t hp ht).trans (wa_dcn b).symm
  have H2 : ∀ d p, p + d = 5 → ∀ re, (∀ j, j < p → re j = 0) → wX_noteDirectCalls_2 post (nI s) pc cp (d + 1) (nI p) K A B C SV VR CE KP oa pa ow ba re ps wt LF rt co := by
    intro d
    induction d with
    | zero =>
      intro p hp re hr
      refine br_t (nI_le (a := 5) (by omega) (by omega)) ⟨s + 1, H22 s 0 (by omega) re ?_⟩
      intro x t hx ht
      show bt (re x) t = true ↔ _
      rw [hr x (by omega), b_0]
      exact ⟨fun z => absurd z (by decide), fun ⟨j, a, _⟩ => absurd a (Nat.not_lt_zero _)⟩
    | succ d ih =>
      intro p hp re hr
      refine br_f (nI_ge (b := 5) (by omega) (by omega)) ⟨vp_in_nI (by omega) (by omega), ?_⟩
      refine nm_r (e' := upd re p 0) (by rw [nb_cl (by omega)]) (nm_r (nI_1 p) (ih (p + 1) (by omega) _ ?_))
      intro j hj
      by_cases y : j = p
      · rw [y, pk_us]
      · rw [pk_un y]; exact hr j (by omega)
  exact fun re => ⟨6, H2 5 0 rfl re (fun j hj => absurd hj (Nat.not_lt_zero _))⟩
/-- some subroutine reaches itself -/
def wa_rec (K A : Nat → Int32) (s : Nat) : Prop := ∃ t, t < 4 ∧ wa_P (wa_dc K A s) 4 t t
theorem wx_rec {pc cp : Int32} {K A B C SV VR CE KP oa pa ow ba re : Nat → Int32} {ps wt : Nat → Int64} {LF rt co : Nat → Int32} {s : Nat} (hs : s ≤ 48) (g : pg_g K A s) (how : ∀ j, j < s → ow j = nI (pg_pw K A (j + 1))) {post : Int32 → SX → Prop}
    (hT : wa_rec K A s → ∀ re, post 1 ((nI s), pc, cp, K, A, B, C, SV, VR, CE, KP, oa, pa, ow, ba, re, ps, wt, LF, rt, co)) (hF : ¬ wa_rec K A s → ∀ re, post 0 ((nI s), pc, cp, K, A, B, C, SV, VR, CE, KP, oa, pa, ow, ba, re, ps, wt, LF, rt, co)) : wpX_someSubroutineReachesItself post ((nI s), pc, cp, K, A, B, C, SV, VR, CE, KP, oa, pa, ow, ba, re, ps, wt, LF, rt, co) := by
  have H56 : ∀ re, wa_snd (wa_dc K A s) re → wa_cmp (wa_dc K A s) re 4 4 → ∀ d t, t + d = 4 → (∀ j, j < t → ¬ wa_P (wa_dc K A s) 4 j j) → wX_someSubroutineReachesItself_56 post (nI s) pc cp K A B C SV VR CE KP oa pa ow ba re ps wt LF rt co (d + 1) (nI t) := by
    intro re S Cm d
    induction d with
    | zero =>
      intro t ht h
      refine br_t (nI_le (a := 4) (by omega) (by omega)) (hF ?_ re)
      rintro ⟨j, a, b⟩
      exact h j (by omega) b
    | succ d ih =>
      intro t ht h
      refine br_f (nI_ge (b := 4) (by omega) (by omega)) ?_
      refine wx_reaches (by omega) (by omega) (fun z => ?_) (fun z => ?_)
      · exact br_f (by decide) (hT ⟨t, by omega, S t t (by omega) (by omega) z⟩ re)
      · refine br_t rfl (nm_r (nI_1 t) (ih (t + 1) (by omega) ?_))
        intro j hj x
        by_cases y : j = t
        · subst y; exact z (Cm j j (by omega) (by omega) x)
        · exact h j (by omega) x
  have H13 : ∀ v J, v < 4 → (∀ re, wa_snd (wa_dc K A s) re → wa_cmp (wa_dc K A s) re (v + 1) 4 → J (nI (v + 1)) K A B C SV VR CE KP oa pa ow ba re ps wt LF rt co) → ∀ d f, f + d = 4 → ∀ re, wa_snd (wa_dc K A s) re → wa_cmp (wa_dc K A s) re v 4 → wa_cmp (wa_dc K A s) re (v + 1) f →
      wX_someSubroutineReachesItself_13 post J (nI v) (nI s) pc cp (d + 1) (nI f) K A B C SV VR CE KP oa pa ow ba re ps wt LF rt co := by
    intro v J hv hJ d
    induction d with
    | zero =>
      intro f hf re S C1 C2
      have e : f = 4 := by omega
      subst e
      exact br_t (nI_le (a := 4) (by omega) (by omega)) (nm_r (nI_1 v) (hJ re S C2))
    | succ d ih =>
      intro f hf re S C1 C2
      have hcf : (nI f).toNatClampNeg = f := nb_cl (by omega)
      have hcv : (nI v).toNatClampNeg = v := nb_cl (by omega)
      refine br_f (nI_ge (b := 4) (by omega) (by omega)) ?_
      refine wx_reaches (by omega) (by omega) (fun z => ?_) (fun z => ?_)
      · refine br_f (by decide) ⟨vp_in_nI (by omega) (by omega), vp_in_nI (by omega) (by omega), vp_in_nI (by omega) (by omega), ?_⟩
        refine nm_r (e' := upd re f (re f ||| re v)) (by rw [hcf, hcv]) (nm_r (nI_1 f) ?_)
        have T := wa_st_t z
        exact ih (f + 1) (by omega) _ (wa_snd_s hv S T) (wa_cmp_s C1 T) (wa_cmp_x (by omega) hv C1 C2 T)
      · refine br_t rfl (nm_r (nI_1 f) ?_)
        have T := wa_st_f z
        exact ih (f + 1) (by omega) _ (wa_snd_s hv S T) (wa_cmp_s C1 T) (wa_cmp_x (by omega) hv C1 C2 T)
  have H6 : ∀ d v, v + d = 4 → ∀ re, wa_snd (wa_dc K A s) re → wa_cmp (wa_dc K A s) re v 4 → wX_someSubroutineReachesItself_6 post (nI s) pc cp (d + 1) (nI v) K A B C SV VR CE KP oa pa ow ba re ps wt LF rt co := by
    intro d
    induction d with
    | zero =>
      intro v hv re S C1
      have e : v = 4 := by omega
      subst e
      exact br_t (nI_le (a := 4) (by omega) (by omega)) ⟨5, H56 re S C1 4 0 rfl (fun j hj => absurd hj (Nat.not_lt_zero _))⟩
    | succ d ih =>
      intro v hv re S C1
      refine br_f (nI_ge (b := 4) (by omega) (by omega)) ⟨5, ?_⟩
      exact H13 v _ (by omega) (fun re' S' C' => ih (v + 1) (by omega) re' S' C') 4 0 rfl re S C1 (fun x t hx => absurd hx (Nat.not_lt_zero _))
  unfold wpX_someSubroutineReachesItself
  refine wx_ndc hs g how ?_ re
  intro re hr
  refine ⟨5, H6 4 0 rfl re ?_ ?_⟩
  · intro x t hx ht hb
    exact wa_up 0 4 (by omega) ((hr x t (by omega) ht).mp hb)
  · intro x t hx ht hp
    exact (hr x t (by omega) ht).mpr hp
end WA
end
section
section WY
/-! the reference's closure -/
theorem wy_rec {pc : Int32} {K A B C SV VR CE KP LF cl rc : Nat → Int32} {wy tm : Nat → Int64} {s : Nat} (hs : s ≤ 48) (g : pg_g K A s) {post : Int32 → SY → Prop}
    (hT : wa_rec K A s → ∀ rc, post 1 ((nI s), pc, K, A, B, C, SV, VR, CE, KP, LF, cl, rc, wy, tm)) (hF : ¬ wa_rec K A s → ∀ rc, post 0 ((nI s), pc, K, A, B, C, SV, VR, CE, KP, LF, cl, rc, wy, tm)) : wpY_recursive post ((nI s), pc, K, A, B, C, SV, VR, CE, KP, LF, cl, rc, wy, tm) := by
  have H150 : ∀ rc, wa_snd (wa_dc K A s) rc → wa_cmp (wa_dc K A s) rc 4 4 → ∀ d t, t + d = 4 → (∀ j, j < t → ¬ wa_P (wa_dc K A s) 4 j j) → wY_recursive_150 post (nI s) pc K A B C SV VR CE KP LF cl rc wy tm (d + 1) (nI t) := by
    intro rc S Cm d
    induction d with
    | zero =>
      intro t ht h
      refine br_t (nI_le (a := 4) (by omega) (by omega)) (hF ?_ rc)
      rintro ⟨j, a, b⟩
      exact h j (by omega) b
    | succ d ih =>
      intro t ht h
      have hc : (nI t).toNatClampNeg = t := nb_cl (by omega)
      refine br_f (nI_ge (b := 4) (by omega) (by omega)) ⟨vp_in_nI (by omega) (by omega), ?_⟩
      rw [hc]
      by_cases z : wa_b rc t t
      · exact br_t ((nb_bY _ (by omega)).mpr z) (hT ⟨t, by omega, S t t (by omega) (by omega) z⟩ rc)
      · refine br_f (fun y => z ((nb_bY _ (by omega)).mp y)) (nm_r (nI_1 t) (ih (t + 1) (by omega) ?_))
        intro j hj x
        by_cases y : j = t
        · subst y; exact z (Cm j j (by omega) (by omega) x)
        · exact h j (by omega) x
  have H87 : ∀ v J, v < 4 → (∀ rc, wa_snd (wa_dc K A s) rc → wa_cmp (wa_dc K A s) rc (v + 1) 4 → J (nI (v + 1)) K A B C SV VR CE KP LF cl rc wy tm) → ∀ d f, f + d = 16 → ∀ rc, wa_snd (wa_dc K A s) rc → wa_cmp (wa_dc K A s) rc v 4 → wa_cmp (wa_dc K A s) rc (v + 1) (f / 4) →
      (v < f % 4 → ∀ t, t < 4 → wa_P (wa_dc K A s) (v + 1) (f / 4) t → wa_b rc (f / 4) t) →
      wY_recursive_87 post J (nI v) (nI s) pc (d + 1) (nI f) K A B C SV VR CE KP LF cl rc wy tm := by
    intro v J hv hJ d
    induction d with
    | zero =>
      intro f hf rc S C1 C2 _
      have e : f = 16 := by omega
      subst e
      exact br_t (nI_le (a := 16) (by omega) (by omega)) (nm_r (nI_1 v) (hJ rc S C2))
    | succ d ih =>
      intro f hf rc S C1 C2 C3
      have e1 : nI f >>> ((2 : Int32) &&& 31) = nI (f / 4) := pk_shrN (n := f) (by omega) _ 2 (by decide)
      have e2 : nI f &&& 3 = nI (f % 4) := pk_andN (n := f) (by omega) 2 (by decide)
      have hp : f / 4 < 4 := by omega
      have hq : f % 4 < 4 := by omega
      have hc1 : (nI (f / 4)).toNatClampNeg = f / 4 := nb_cl (by omega)
      have hc2 : (nI (f % 4)).toNatClampNeg = f % 4 := nb_cl (by omega)
      have hi1 : vp_in (nI (f / 4)) 4 := vp_in_nI (by omega) (by omega)
      have hi2 : vp_in (nI (f % 4)) 4 := vp_in_nI (by omega) (by omega)
      have NX : ∀ rc', wa_st rc rc' (f / 4) (f % 4) → wY_recursive_87 post J (nI v) (nI s) pc (d + 1) (nI (f + 1)) K A B C SV VR CE KP LF cl rc' wy tm := by
        intro rc' T
        have C1' := wa_cmp_s C1 T
        have RW : v ≤ f % 4 → ∀ t, t < 4 → wa_P (wa_dc K A s) (v + 1) (f / 4) t → wa_b rc' (f / 4) t := by
          intro hv' t ht x
          by_cases z : v = f % 4
          · rw [← z] at T
            exact wa_row hp hv C1 T t ht x
          · exact T.1 _ t (C3 (by omega) t ht x)
        refine ih (f + 1) (by omega) rc' (wa_snd_s hq S T) C1' ?_ ?_
        · intro x t hx ht y
          by_cases z : x < f / 4
          · exact T.1 x t (C2 x t z ht y)
          · have e : x = f / 4 := by omega
            subst e
            exact RW (by omega) t ht y
        · intro hv' t ht y
          have e : (f + 1) / 4 = f / 4 := by omega
          rw [e] at y ⊢
          exact RW (by omega) t ht y
      refine br_f (nI_ge (b := 16) (by omega) (by omega)) ?_
      rw [e1, e2, hc1]
      refine ⟨hi1, ?_⟩
      by_cases z : wa_b rc (f / 4) (f % 4)
      · refine br_t ((nb_bY _ (by omega)).mpr z) ⟨hi1, hi2, hi1, ?_⟩
        refine nm_r (e' := upd rc (f / 4) (rc (f / 4) ||| rc (f % 4))) (by rw [hc2]) (nm_r (nI_1 f) ?_)
        exact NX _ (wa_st_t z)
      · refine br_f (fun y => z ((nb_bY _ (by omega)).mp y)) (nm_r (nI_1 f) ?_)
        exact NX _ (wa_st_f z)
  have H80 : ∀ d v, v + d = 4 → ∀ rc, wa_snd (wa_dc K A s) rc → wa_cmp (wa_dc K A s) rc v 4 → wY_recursive_80 post (nI s) pc (d + 1) (nI v) K A B C SV VR CE KP LF cl rc wy tm := by
    intro d
    induction d with
    | zero =>
      intro v hv rc S C1
      have e : v = 4 := by omega
      subst e
      exact br_t (nI_le (a := 4) (by omega) (by omega)) ⟨5, H150 rc S C1 4 0 rfl (fun j hj => absurd hj (Nat.not_lt_zero _))⟩
    | succ d ih =>
      intro v hv rc S C1
      refine br_f (nI_ge (b := 4) (by omega) (by omega)) ⟨17, ?_⟩
      exact H87 v _ (by omega) (fun rc' S' C' => ih (v + 1) (by omega) rc' S' C') 16 0 rfl rc S C1 (fun x t hx => absurd hx (Nat.not_lt_zero _)) (fun h => absurd h (Nat.not_lt_zero _))
  have H22 : ∀ d i, i + d = s → ∀ rc, (∀ p t, p < 4 → t < 4 → (wa_b rc p t ↔ wa_dc K A i p t)) → wY_recursive_22 post (nI s) pc (d + 1) (nI i) K A B C SV VR CE KP LF cl rc wy tm := by
    intro d
    induction d with
    | zero =>
      intro i hi rc hr
      have e : i = s := by omega
      subst e
      refine br_t (nI_le (Nat.le_refl _) (by omega)) ⟨5, H80 4 0 rfl rc ?_ ?_⟩
      · intro x t hx ht hb
        exact wa_up 0 4 (by omega) ((hr x t (by omega) ht).mp hb)
      · intro x t hx ht hp
        exact (hr x t (by omega) ht).mpr hp
    | succ d ih =>
      intro i hi rc hr
      have his : i < s := by omega
      have hc : (nI i).toNatClampNeg = i := nb_c48 his hs
      have hin : vp_in (nI i) 48 := vp_in_nI (by omega) (by omega)
      have hp4 := pg_pw4 g (i + 1) (by omega)
      refine br_f (nI_ge his (by omega)) ?_
      refine yw_pieceOf hs his g ⟨hin, ?_⟩
      by_cases b : K i = 9
      · obtain ⟨a4, ea⟩ := (g i his).2.1 (Or.inl b)
        refine br_t (by rw [hc]; exact b) ?_
        by_cases z : pg_pw K A (i + 1) = 4
        · refine br_t (by unfold yw_p; rw [if_pos z]; decide) (nm_r (nI_1 i) (ih (i + 1) (by omega) rc ?_))
          intro p t hp ht
          rw [wa_dcy b, ← hr p t hp ht]
          exact ⟨fun x => Or.inl x, fun x => x.elim id (fun y => by omega)⟩
        · have e : yw_p (pg_pw K A (i + 1)) = nI (pg_pw K A (i + 1)) := if_neg z
          have hcp : (nI (pg_pw K A (i + 1))).toNatClampNeg = pg_pw K A (i + 1) := nb_cl (by omega)
          have hi4 : vp_in (nI (pg_pw K A (i + 1))) 4 := vp_in_nI (by omega) (by omega)
          rw [e]
          refine br_f (nI_pos (by omega)) ⟨hi4, hin, hi4, ?_⟩
          refine nm_r (e' := upd rc (pg_pw K A (i + 1)) (rc (pg_pw K A (i + 1)) ||| ((1 : Int32) <<< (nI (pg_ar A i) &&& 31)))) (by rw [hcp, hc, ← ea]) ?_
          refine nm_r (nI_1 i) (ih (i + 1) (by omega) _ ?_)
          intro p t hp ht
          exact wa_nd b a4 ht (hr p t hp ht)
      · refine br_f (by rw [hc]; exact b) (nm_r (nI_1 i) (ih (i + 1) (by omega) rc ?_))
        intro p t hp ht
        exact (hr p t hp ht).trans (wa_dcn b).symm
  have H2 : ∀ d p, p + d = 4 → ∀ rc, (∀ j, j < p → rc j = 0) → wY_recursive_2 post (nI s) pc (d + 1) (nI p) K A B C SV VR CE KP LF cl rc wy tm := by
    intro d
    induction d with
    | zero =>
      intro p hp rc hr
      refine br_t (nI_le (a := 4) (by omega) (by omega)) ⟨s + 1, H22 s 0 (by omega) rc ?_⟩
      intro x t hx ht
      show bt (rc x) t = true ↔ _
      rw [hr x (by omega), b_0]
      exact ⟨fun z => absurd z (by decide), fun ⟨j, a, _⟩ => absurd a (Nat.not_lt_zero _)⟩
    | succ d ih =>
      intro p hp rc hr
      refine br_f (nI_ge (b := 4) (by omega) (by omega)) ⟨vp_in_nI (by omega) (by omega), ?_⟩
      refine nm_r (e' := upd rc p 0) (by rw [nb_cl (by omega)]) (nm_r (nI_1 p) (ih (p + 1) (by omega) _ ?_))
      intro j hj
      by_cases y : j = p
      · rw [y, pk_us]
      · rw [pk_un y]; exact hr j (by omega)
  exact ⟨5, H2 4 0 rfl rc (fun j hj => absurd hj (Nat.not_lt_zero _))⟩
/-! without recursion: calls go down -/
def wd_D (K A : Nat → Int32) (s : Nat) : Nat → Nat → Prop
  | 0, _ => False
  | k + 1, p => ∀ t, wa_dc K A s p t → wd_D K A s k t
theorem wd_mono1 {K A : Nat → Int32} {s : Nat} : ∀ k p, wd_D K A s k p → wd_D K A s (k + 1) p := by
  intro k
  induction k with
  | zero => intro p h; exact h.elim
  | succ k ih => intro p h t ht; exact ih t (h t ht)
theorem wd_mono {K A : Nat → Int32} {s p k : Nat} : ∀ m, k ≤ m → wd_D K A s k p → wd_D K A s m p := by
  intro m
  induction m with
  | zero => intro h x; rw [show k = 0 by omega] at x; exact x
  | succ m ih =>
    intro h x
    by_cases z : k = m + 1
    · rw [← z]; exact x
    · exact wd_mono1 m p (ih (by omega) x)
theorem wd_no {K A : Nat → Int32} {s k p : Nat} (h : ¬ wd_D K A s (k + 1) p) : ∃ t, wa_dc K A s p t ∧ ¬ wd_D K A s k t :=
  Classical.byContradiction fun z => h fun t ht => Classical.byContradiction fun y => z ⟨t, ht, y⟩
theorem wd_dc4 {K A : Nat → Int32} {s p t : Nat} (g : pg_g K A s) (h : wa_dc K A s p t) : t < 4 := by
  obtain ⟨i, a, b, c, d⟩ := h
  rw [← d]; exact ((g i a).2.1 (Or.inl b)).1
theorem wd_pig {a b c d e : Nat} (ha : a < 4) (hb : b < 4) (hc : c < 4) (hd : d < 4) (he : e < 4) : a = b ∨ a = c ∨ a = d ∨ a = e ∨ b = c ∨ b = d ∨ b = e ∨ c = d ∨ c = e ∨ d = e := by
  omega
theorem wd_all {K A : Nat → Int32} {s : Nat} (g : pg_g K A s) (h : ¬ wa_rec K A s) : ∀ p, p < 4 → wd_D K A s 4 p := by
  intro a ha
  apply Classical.byContradiction
  intro n
  obtain ⟨b, h1, n1⟩ := wd_no n
  obtain ⟨c, h2, n2⟩ := wd_no n1
  obtain ⟨d, h3, n3⟩ := wd_no n2
  obtain ⟨e, h4, _⟩ := wd_no n3
  have hb := wd_dc4 g h1
  have hc := wd_dc4 g h2
  have hd := wd_dc4 g h3
  have he := wd_dc4 g h4
  have U : ∀ x y, wa_dc K A s x y → wa_P (wa_dc K A s) 4 x y := fun x y z => wa_up 0 4 (by omega) z
  have T : ∀ x m y, m < 4 → wa_P (wa_dc K A s) 4 x m → wa_P (wa_dc K A s) 4 m y → wa_P (wa_dc K A s) 4 x y := fun x m y hm p q => wa_tr 4 m x y hm p q
  have ab := U _ _ h1
  have bc := U _ _ h2
  have cd := U _ _ h3
  have de := U _ _ h4
  have ac := T _ _ _ hb ab bc
  have bd := T _ _ _ hc bc cd
  have ce := T _ _ _ hd cd de
  have ad := T _ _ _ hc ac cd
  have be := T _ _ _ hd bd de
  have ae := T _ _ _ hd ad de
  apply h
  rcases wd_pig ha hb hc hd he with z | z | z | z | z | z | z | z | z | z
  · exact ⟨a, ha, by rw [← z] at ab; exact ab⟩
  · exact ⟨a, ha, by rw [← z] at ac; exact ac⟩
  · exact ⟨a, ha, by rw [← z] at ad; exact ad⟩
  · exact ⟨a, ha, by rw [← z] at ae; exact ae⟩
  · exact ⟨b, hb, by rw [← z] at bc; exact bc⟩
  · exact ⟨b, hb, by rw [← z] at bd; exact bd⟩
  · exact ⟨b, hb, by rw [← z] at be; exact be⟩
  · exact ⟨c, hc, by rw [← z] at cd; exact cd⟩
  · exact ⟨c, hc, by rw [← z] at ce; exact ce⟩
  · exact ⟨d, hd, by rw [← z] at de; exact de⟩
theorem wd_all5 {K A : Nat → Int32} {s : Nat} (g : pg_g K A s) (h : ¬ wa_rec K A s) (p : Nat) : wd_D K A s 5 p :=
  fun t ht => wd_all g h t (wd_dc4 g ht)
end WY
end
section
section WE
/-! weights -/
theorem wb_tb (n : Nat) : (lN n).toBitVec = BitVec.ofNat 64 n := rfl
theorem wb_inj {a b : Int64} (h : a.toBitVec = b.toBitVec) : a = b := Int64.toBitVec_inj.mp h
theorem wb_of (x : Int64) : ∃ n, n < 2 ^ 64 ∧ x = lN n := ⟨x.toBitVec.toNat, x.toBitVec.isLt, wb_inj (by rw [wb_tb]; simp)⟩
def we_T (K A : Nat → Int32) : Nat → Nat → Nat
  | 0, _ => 1
  | i + 1, j => if pg_op K i ∧ j = pg_dp K i + 1 then we_T K A i (pg_dp K i) * (if K i = 7 then pg_ar A i else 1) else we_T K A i j
abbrev we_pf (K A : Nat → Int32) (i : Nat) : Nat := we_T K A i (pg_dp K i)
theorem we_T_y {K A : Nat → Int32} {i : Nat} (o : pg_op K i) : we_T K A (i + 1) (pg_dp K i + 1) = we_T K A i (pg_dp K i) * (if K i = 7 then pg_ar A i else 1) := by
  show (if _ then _ else _) = _; rw [if_pos ⟨o, rfl⟩]
theorem we_T_n {K A : Nat → Int32} {i j : Nat} (h : ¬ (pg_op K i ∧ j = pg_dp K i + 1)) : we_T K A (i + 1) j = we_T K A i j := by
  show (if _ then _ else _) = _; rw [if_neg h]
theorem we_T_0 {K A : Nat → Int32} : ∀ i, we_T K A i 0 = 1 := by
  intro i
  induction i with
  | zero => rfl
  | succ i ih => rw [we_T_n (fun z => by omega)]; exact ih
theorem we_pf_no {K A : Nat → Int32} {i : Nat} (o : ¬ pg_op K i) (h8 : ¬ K i = 8) : we_pf K A (i + 1) = we_pf K A i := by
  show we_T K A (i + 1) (pg_dp K (i + 1)) = _
  rw [pg_dp_no o h8, we_T_n (fun z => o z.1)]
theorem we_pf_op {K A : Nat → Int32} {i : Nat} (o : pg_op K i) : we_pf K A (i + 1) = we_pf K A i * (if K i = 7 then pg_ar A i else 1) := by
  show we_T K A (i + 1) (pg_dp K (i + 1)) = _
  rw [pg_dp_op o, we_T_y o]
theorem we_T_mt {K A : Nat → Int32} {q e : Nat} (m : pg_mt K q e) : ∀ d, q + d ≤ e + 1 → we_T K A (q + d) (pg_dp K q) = we_pf K A q := by
  intro d
  induction d with
  | zero => intro _; rfl
  | succ d ih =>
    intro h
    rw [← Nat.add_assoc, we_T_n ?_]
    · exact ih (by omega)
    · intro z
      by_cases y : d = 0
      · subst y; have := z.2; simp only [Nat.add_zero] at this; omega
      · have := m.2.2.2.2 (q + d) (by omega) (by omega); omega
theorem we_pf_mt {K A : Nat → Int32} {q e : Nat} (m : pg_mt K q e) : we_pf K A (e + 1) = we_pf K A q := by
  have h := we_T_mt (A := A) m (e + 1 - q) (by have := m.1; omega)
  rw [show q + (e + 1 - q) = e + 1 by have := m.1; omega] at h
  show we_T K A (e + 1) (pg_dp K (e + 1)) = _
  rw [m.2.2.2.1]; exact h
def we_s (K A : Nat → Int32) (w : Nat → Nat) (i : Nat) : Nat := if pg_op K i then 2 else if K i = 8 ∨ K i = 11 then 0 else if K i = 9 then 1 + w (pg_ar A i) else 1
def we_S (K A : Nat → Int32) (w : Nat → Nat) (p : Nat) : Nat → Nat
  | 0 => 0
  | i + 1 => we_S K A w p i + (if pg_pw K A (i + 1) = p then we_pf K A i * we_s K A w i else 0)
theorem we_S_y {K A : Nat → Int32} {w : Nat → Nat} {p i : Nat} (h : pg_pw K A (i + 1) = p) : we_S K A w p (i + 1) = we_S K A w p i + we_pf K A i * we_s K A w i := by
  show _ + (if _ then _ else _) = _; rw [if_pos h]
theorem we_S_n {K A : Nat → Int32} {w : Nat → Nat} {p i : Nat} (h : ¬ pg_pw K A (i + 1) = p) : we_S K A w p (i + 1) = we_S K A w p i := by
  show _ + (if _ then _ else _) = _; rw [if_neg h]; rfl
theorem we_s_op {K A : Nat → Int32} {w : Nat → Nat} {i : Nat} (o : pg_op K i) : we_s K A w i = 2 := if_pos o
theorem we_s_0 {K A : Nat → Int32} {w : Nat → Nat} {i : Nat} (h : K i = 8 ∨ K i = 11) : we_s K A w i = 0 := by
  unfold we_s
  rw [if_neg ?_, if_pos h]
  rintro (z | z) <;> rcases h with y | y <;> · rw [z] at y; exact absurd y (by decide)
theorem we_s_9 {K A : Nat → Int32} {w : Nat → Nat} {i : Nat} (h : K i = 9) : we_s K A w i = 1 + w (pg_ar A i) := by
  unfold we_s
  rw [if_neg ?_, if_neg ?_, if_pos h]
  · rintro (z | z) <;> · rw [z] at h; exact absurd h (by decide)
  · rintro (z | z) <;> · rw [z] at h; exact absurd h (by decide)
theorem we_s_1 {K A : Nat → Int32} {w : Nat → Nat} {i : Nat} (o : ¬ pg_op K i) (h8 : ¬ K i = 8) (h9 : ¬ K i = 9) (hb : ¬ K i = 11) : we_s K A w i = 1 := by
  unfold we_s
  rw [if_neg o, if_neg (fun z => z.elim h8 hb), if_neg h9]
theorem we_S_eq {K A : Nat → Int32} {w : Nat → Nat} {t a : Nat} : ∀ b, a ≤ b → (∀ k, a ≤ k → k < b → pg_pw K A (k + 1) = t → K k = 11) → we_S K A w t b = we_S K A w t a := by
  intro b
  induction b with
  | zero => intro h _; rw [show a = 0 by omega]
  | succ b ih =>
    intro h hk
    by_cases z : a = b + 1
    · rw [z]
    · have I := ih (by omega) (fun k k1 k2 => hk k k1 (by omega))
      by_cases y : pg_pw K A (b + 1) = t
      · rw [we_S_y y, we_s_0 (Or.inr (hk b (by omega) (by omega) y)), Nat.mul_zero, I]; rfl
      · rw [we_S_n y, I]
theorem we_S_congr {K A : Nat → Int32} {w w' : Nat → Nat} {s p : Nat} (h : ∀ t, wa_dc K A s p t → w t = w' t) : ∀ i, i ≤ s → we_S K A w p i = we_S K A w' p i := by
  intro i
  induction i with
  | zero => intro _; rfl
  | succ i ih =>
    intro hi
    by_cases y : pg_pw K A (i + 1) = p
    · rw [we_S_y y, we_S_y y, ih (by omega)]
      by_cases z : K i = 9
      · rw [we_s_9 z, we_s_9 z, h _ ⟨i, by omega, z, y, rfl⟩]
      · have : we_s K A w i = we_s K A w' i := by unfold we_s; rw [if_neg z, if_neg z]
        rw [this]
    · rw [we_S_n y, we_S_n y, ih (by omega)]
def we_W (K A : Nat → Int32) (s : Nat) : Nat → Nat → Nat
  | 0, _ => 0
  | k + 1, p => we_S K A (we_W K A s k) p s
theorem we_fix {K A : Nat → Int32} {s : Nat} : ∀ k p, wd_D K A s k p → ∀ m, k ≤ m → we_W K A s m p = we_W K A s k p := by
  intro k
  induction k with
  | zero => intro p h; exact h.elim
  | succ k ih =>
    intro p h m hm
    obtain ⟨m, rfl⟩ : ∃ j, m = j + 1 := ⟨m - 1, by omega⟩
    exact we_S_congr (fun t ht => ih t (h t ht) m (by omega)) s (Nat.le_refl _)
theorem we_fix5 {K A : Nat → Int32} {s : Nat} {p : Nat} (D : wd_D K A s 5 p) : we_S K A (we_W K A s 5) p s = we_W K A s 5 p :=
  we_fix 5 p D 6 (by omega)
theorem we_good {K A : Nat → Int32} {s : Nat} {p k : Nat} {w : Nat → Nat} (D5 : wd_D K A s 5 p) (h : ∀ t, wd_D K A s k t → w t = we_W K A s 5 t) (D : wd_D K A s (k + 1) p) : we_S K A w p s = we_W K A s 5 p := by
  rw [← we_fix5 D5]
  exact we_S_congr (fun t ht => h t (D t ht)) s (Nat.le_refl _)
/-! X -/
theorem we_passes {pc cp : Int32} {K A B C SV VR CE KP oa pa ow ba re : Nat → Int32} {wt : Nat → Int64} {LF rt co : Nat → Int32} {s : Nat} (hs : s ≤ 48) (g : pg_g K A s) (hp : pg_pr K s pa) {post : SX → Prop}
    (h : ∀ ps, (∀ j, j < s → ps j = lN (we_pf K A j)) → post ((nI s), pc, cp, K, A, B, C, SV, VR, CE, KP, oa, pa, ow, ba, re, ps, wt, LF, rt, co)) : ∀ ps, wpX_countPasses post ((nI s), pc, cp, K, A, B, C, SV, VR, CE, KP, oa, pa, ow, ba, re, ps, wt, LF, rt, co) := by
  have H : ∀ d i, i + d = s → ∀ ps, (∀ j, j < i → ps j = lN (we_pf K A j)) → wX_countPasses_4 post (nI s) pc cp (d + 1) (lN (we_pf K A i)) (nI i) K A B C SV VR CE KP oa pa ow ba re ps wt LF rt co := by
    intro d
    induction d with
    | zero =>
      intro i hi ps hps
      have e : i = s := by omega
      subst e
      exact br_t (nI_le (Nat.le_refl _) (by omega)) (h ps hps)
    | succ d ih =>
      intro i hi ps hps
      have his : i < s := by omega
      have hc : (nI i).toNatClampNeg = i := nb_c48 his hs
      have hin : vp_in (nI i) 48 := vp_in_nI (by omega) (by omega)
      refine br_f (nI_ge his (by omega)) ⟨hin, ?_⟩
      refine nm_r (e' := vp_updL ps i (lN (we_pf K A i))) (by rw [hc]) ⟨hin, ?_⟩
      have hps' : ∀ j, j < i + 1 → vp_updL ps i (lN (we_pf K A i)) j = lN (we_pf K A j) := by
        intro j hj
        by_cases y : j = i
        · rw [y, pk_uLs]
        · rw [pk_uLn y]; exact hps j (by omega)
      have I := ih (i + 1) (by omega) _ hps'
      have H40 : ∀ x, (¬ K i = 8 → x = lN (we_pf K A (i + 1))) → wX_countPasses_40 post (wX_countPasses_4 post (nI s) pc cp (d + 1)) x (nI i) (nI s) pc cp K A B C SV VR CE KP oa pa ow ba re (vp_updL ps i (lN (we_pf K A i))) wt LF rt co := by
        intro x hx
        refine ⟨hin, ?_⟩
        by_cases k8 : K i = 8
        · obtain ⟨q, eq, m⟩ := hp.1 i his k8
          have hq := m.1
          have hcq : (nI q).toNatClampNeg = q := nb_cl (by omega)
          refine br_t (by rw [hc]; exact k8) ⟨hin, by rw [hc, eq]; exact vp_in_nI (by omega) (by omega), ?_⟩
          refine nm_r (e' := lN (we_pf K A (i + 1))) (by rw [hc, eq, hcq, hps' q (by omega), we_pf_mt m]) ?_
          exact nm_r (nI_1 i) I
        · refine br_f (by rw [hc]; exact k8) (nm_r (nI_1 i) ?_)
          rw [hx k8]; exact I
      by_cases k7 : K i = 7
      · obtain ⟨a1, a5, ea⟩ := (g i his).2.2 k7
        refine br_t (by rw [hc]; exact k7) ⟨hin, ?_⟩
        refine nm_r (e' := lN (we_pf K A i * pg_ar A i)) (by rw [hc, ea, nI_l (by omega), lN_mul]) ?_
        exact H40 _ (fun _ => by rw [we_pf_op (Or.inr k7), if_pos k7])
      · refine br_f (by rw [hc]; exact k7) (H40 _ (fun k8 => ?_))
        by_cases k6 : K i = 6
        · rw [we_pf_op (Or.inl k6), if_neg k7, Nat.mul_one]
        · rw [we_pf_no (fun z => z.elim k6 k7) k8]
  exact fun ps => ⟨s + 1, H s 0 (by omega) ps (fun j hj => absurd hj (Nat.not_lt_zero _))⟩
theorem we_stmt {pc cp : Int32} {K A B C SV VR CE KP oa pa ow ba re : Nat → Int32} {ps wt : Nat → Int64} {LF rt co : Nat → Int32} {s i : Nat} (hs : s ≤ 48) (his : i < s) (g : pg_g K A s) {w : Nat → Nat} (hw : ∀ t, wt t = lN (w t)) {post : Int64 → Prop} (h : post (lN (we_s K A w i))) : wpX_weighStatement post ((nI s), pc, cp, K, A, B, C, SV, VR, CE, KP, oa, pa, ow, ba, re, ps, wt, LF, rt, co) (nI i) := by
  have hc : (nI i).toNatClampNeg = i := nb_c48 his hs
  have hin : vp_in (nI i) 48 := vp_in_nI (by omega) (by omega)
  obtain ⟨k, hk, ek⟩ := (g i his).1
  refine ⟨hin, nm_r (e' := nI k) (by rw [hc]; exact ek) ?_⟩
  have NE : ∀ c, c < 12 → k ≠ c → ¬ K i = nI c := fun c hc z => by rw [ek]; exact nb_ne z (by omega) (by omega)
  have E1 : k ≠ 6 → k ≠ 7 → k ≠ 8 → k ≠ 9 → k ≠ 11 → post 1 := by
    intro n6 n7 n8 n9 n11
    rw [we_s_1 (fun z => z.elim (NE 6 (by omega) n6) (NE 7 (by omega) n7)) (NE 8 (by omega) n8) (NE 9 (by omega) n9) (NE 11 (by omega) n11)] at h
    exact h
  have EQ : ∀ c, k = c → K i = nI c := fun c z => by rw [ek, z]
  refine pk_lt k 6 (fun z => E1 (by omega) (by omega) (by omega) (by omega) (by omega)) (fun z => ?_)
  refine pk_lt 11 k (fun y => absurd y (by omega)) (fun _ => ?_)
  refine pk_eq k 6 (fun y => ?_) (fun n6 => ?_)
  · rw [we_s_op (Or.inl (EQ 6 y))] at h; exact h
  refine pk_eq k 7 (fun y => ?_) (fun n7 => ?_)
  · rw [we_s_op (Or.inr (EQ 7 y))] at h; exact h
  refine pk_eq k 8 (fun y => ?_) (fun n8 => ?_)
  · rw [we_s_0 (Or.inl (EQ 8 y))] at h; exact h
  refine pk_eq k 9 (fun y => ?_) (fun n9 => ?_)
  · obtain ⟨a4, ea⟩ := (g i his).2.1 (Or.inl (EQ 9 y))
    rw [we_s_9 (EQ 9 y), ← lN_add] at h
    refine ⟨hin, by rw [hc, ea]; exact vp_in_nI (by omega) (by omega), ?_⟩
    rw [hc, hw]; exact h
  refine pk_eq k 10 (fun y => ?_) (fun n10 => ?_)
  · exact E1 (by omega) (by omega) (by omega) (by omega) (by omega)
  refine pk_eq k 11 (fun y => ?_) (fun n11 => trivial)
  rw [we_s_0 (Or.inr (EQ 11 y))] at h; exact h
theorem we_piece {pc cp : Int32} {K A B C SV VR CE KP oa pa ow ba re : Nat → Int32} {ps wt : Nat → Int64} {LF rt co : Nat → Int32} {s p : Nat} (hs : s ≤ 48) (hp : p < 5) (g : pg_g K A s) (how : ∀ j, j < s → ow j = nI (pg_pw K A (j + 1))) (hps : ∀ j, j < s → ps j = lN (we_pf K A j)) {w : Nat → Nat} (hw : ∀ t, wt t = lN (w t))
    {post : Int64 → Prop} (h : post (lN (we_S K A w p s))) : wpX_weighPiece post ((nI s), pc, cp, K, A, B, C, SV, VR, CE, KP, oa, pa, ow, ba, re, ps, wt, LF, rt, co) (nI p) := by
  have H : ∀ d i, i + d = s → wX_weighPiece_5 post (nI p) (nI s) pc cp K A B C SV VR CE KP oa pa ow ba re ps wt LF rt co (d + 1) (lN (we_S K A w p i)) (nI i) := by
    intro d
    induction d with
    | zero =>
      intro i hi
      have e : i = s := by omega
      subst e
      exact br_t (nI_le (Nat.le_refl _) (by omega)) h
    | succ d ih =>
      intro i hi
      have his : i < s := by omega
      have hc : (nI i).toNatClampNeg = i := nb_c48 his hs
      have hin : vp_in (nI i) 48 := vp_in_nI (by omega) (by omega)
      have hp4 := pg_pw4 g (i + 1) (by omega)
      have I := ih (i + 1) (by omega)
      refine br_f (nI_ge his (by omega)) ⟨hin, ?_⟩
      rw [hc, how i his, hps i his]
      by_cases y : pg_pw K A (i + 1) = p
      · refine br_t (by rw [y]) ⟨hin, ?_⟩
        refine we_stmt hs his g hw ?_
        refine nm_r (e' := lN (we_S K A w p (i + 1))) (by rw [lN_mul, lN_add, we_S_y y]) (nm_r (nI_1 i) I)
      · refine br_f (nb_ne y (by omega) (by omega)) (nm_r (nI_1 i) ?_)
        rw [we_S_n y] at I; exact I
  exact ⟨s + 1, H s 0 (by omega)⟩
def we_ok (K A : Nat → Int32) (s : Nat) (w : Nat → Nat) (k n : Nat) : Prop := ∀ p, p < n → wd_D K A s k p → w p = we_W K A s 5 p
theorem we_ok_s {K A : Nat → Int32} {s : Nat} {w : Nat → Nat} {k j n : Nat} (g : pg_g K A s) (D5 : ∀ p, wd_D K A s 5 p) (h4 : 4 ≤ n) (h1 : we_ok K A s w k n) (h2 : we_ok K A s w (k + 1) j) :
    we_ok K A s (fun x => if x = j then we_S K A w j s else w x) k n ∧ we_ok K A s (fun x => if x = j then we_S K A w j s else w x) (k + 1) (j + 1) := by
  have V : wd_D K A s (k + 1) j → we_S K A w j s = we_W K A s 5 j := by
    intro D
    rw [← we_fix5 (D5 j)]
    exact we_S_congr (fun t ht => h1 t (by have := wd_dc4 g ht; omega) (D t ht)) s (Nat.le_refl _)
  constructor
  · intro p hp D
    by_cases z : p = j
    · subst z; show (if _ then _ else _) = _; rw [if_pos rfl]; exact V (wd_mono1 _ _ D)
    · show (if _ then _ else _) = _; rw [if_neg z]; exact h1 p hp D
  · intro p hp D
    by_cases z : p = j
    · subst z; show (if _ then _ else _) = _; rw [if_pos rfl]; exact V D
    · show (if _ then _ else _) = _; rw [if_neg z]; exact h2 p (by omega) D
theorem we_upd {wt : Nat → Int64} {w : Nat → Nat} {j v : Nat} (hw : ∀ t, wt t = lN (w t)) : ∀ t, vp_updL wt j (lN v) t = lN ((fun x => if x = j then v else w x) t) := by
  intro t
  by_cases z : t = j
  · subst z; rw [pk_uLs]; show _ = lN (if _ then _ else _); rw [if_pos rfl]
  · rw [pk_uLn z, hw]; show _ = lN (if _ then _ else _); rw [if_neg z]
theorem we_rep (wt : Nat → Int64) : ∃ w : Nat → Nat, ∀ t, wt t = lN (w t) :=
  ⟨fun t => Classical.choose (wb_of (wt t)), fun t => (Classical.choose_spec (wb_of (wt t))).2⟩
theorem we_main {pc cp : Int32} {K A B C SV VR CE KP oa pa ow ba re : Nat → Int32} {ps wt : Nat → Int64} {LF rt co : Nat → Int32} {s : Nat} (hs : s ≤ 48) (g : pg_g K A s) (hp : pg_pr K s pa) (how : ∀ j, j < s → ow j = nI (pg_pw K A (j + 1))) (D5 : ∀ p, wd_D K A s 5 p) {post : Int64 → SX → Prop}
    (h : ∀ ps wt, post (lN (we_W K A s 5 4)) ((nI s), pc, cp, K, A, B, C, SV, VR, CE, KP, oa, pa, ow, ba, re, ps, wt, LF, rt, co)) : wpX_weighMainPiece post ((nI s), pc, cp, K, A, B, C, SV, VR, CE, KP, oa, pa, ow, ba, re, ps, wt, LF, rt, co) := by
  unfold wpX_weighMainPiece
  refine we_passes hs g hp ?_ ps
  intro ps hps
  have H13 : ∀ v J, v < 5 → (∀ wt w, (∀ t, wt t = lN (w t)) → we_ok K A s w (v + 1) 5 → J (nI (v + 1)) K A B C SV VR CE KP oa pa ow ba re ps wt LF rt co) → ∀ d f, f + d = 5 → ∀ wt w, (∀ t, wt t = lN (w t)) → we_ok K A s w v 5 → we_ok K A s w (v + 1) f →
      wX_weighMainPiece_13 post J (nI v) (nI s) pc cp (d + 1) (nI f) K A B C SV VR CE KP oa pa ow ba re ps wt LF rt co := by
    intro v J hv hJ d
    induction d with
    | zero =>
      intro f hf wt w hw C1 C2
      have e : f = 5 := by omega
      subst e
      exact br_t (nI_le (a := 5) (by omega) (by omega)) (nm_r (nI_1 v) (hJ wt w hw C2))
    | succ d ih =>
      intro f hf wt w hw C1 C2
      have hcf : (nI f).toNatClampNeg = f := nb_cl (by omega)
      refine br_f (nI_ge (b := 5) (by omega) (by omega)) ?_
      refine we_piece hs (by omega) g how hps hw ⟨vp_in_nI (by omega) (by omega), ?_⟩
      refine nm_r (e' := vp_updL wt f (lN (we_S K A w f s))) (by rw [hcf]) (nm_r (nI_1 f) ?_)
      have O := we_ok_s g D5 (by omega) C1 C2
      exact ih (f + 1) (by omega) _ _ (we_upd hw) O.1 O.2
  have H6 : ∀ d v, v + d = 5 → ∀ wt w, (∀ t, wt t = lN (w t)) → we_ok K A s w v 5 → wX_weighMainPiece_6 post (nI s) pc cp (d + 1) (nI v) K A B C SV VR CE KP oa pa ow ba re ps wt LF rt co := by
    intro d
    induction d with
    | zero =>
      intro v hv wt w hw C1
      have e : v = 5 := by omega
      subst e
      refine br_t (nI_le (a := 5) (by omega) (by omega)) ?_
      rw [hw 4, C1 4 (by omega) (D5 4)]
      exact h ps wt
    | succ d ih =>
      intro v hv wt w hw C1
      refine br_f (nI_ge (b := 5) (by omega) (by omega)) ⟨6, ?_⟩
      exact H13 v _ (by omega) (fun wt' w' hw' C' => ih (v + 1) (by omega) wt' w' hw' C') 5 0 rfl wt w hw C1 (fun x hx => absurd hx (Nat.not_lt_zero _))
  obtain ⟨w, hw⟩ := we_rep wt
  exact ⟨6, H6 5 0 rfl wt w hw (fun x hx z => z.elim)⟩
end WE
end
section
section WF
/-! pieces in place, and the reference's weights -/
def pc_at (K A : Nat → Int32) (s t f e : Nat) : Prop := f ≤ e ∧ e ≤ s ∧ (e < s → K e = 11) ∧ pg_dp K f = 0 ∧ (∀ k, f ≤ k → k < e → ¬ K k = 11 ∧ pg_pw K A (k + 1) = t) ∧
  (∀ i, i < s → ¬ K i = 11 → pg_pw K A (i + 1) = t → f ≤ i ∧ i < e)
theorem pc_stop {K : Nat → Int32} {s : Nat} : ∀ d f, f + d = s → ∃ e, f ≤ e ∧ e ≤ s ∧ (e < s → K e = 11) ∧ ∀ k, f ≤ k → k < e → ¬ K k = 11 := by
  intro d
  induction d with
  | zero => intro f hf; exact ⟨f, Nat.le_refl _, by omega, fun h => by omega, fun k h1 h2 => by omega⟩
  | succ d ih =>
    intro f hf
    by_cases b : K f = 11
    · exact ⟨f, Nat.le_refl _, by omega, fun _ => b, fun k h1 h2 => by omega⟩
    · obtain ⟨e, h1, h2, h3, h4⟩ := ih (f + 1) (by omega)
      refine ⟨e, by omega, h2, h3, fun k k1 k2 => ?_⟩
      by_cases z : k = f
      · rw [z]; exact b
      · exact h4 k (by omega) k2
theorem pc_of {K A : Nat → Int32} {s t f : Nat} (hf : f ≤ s) (hd : pg_dp K f = 0) (hp : f < s → ¬ K f = 11 → pg_pw K A f = t)
    (hl : ∀ e, f ≤ e → e ≤ s → (e < s → K e = 11) → ∀ i, i < s → ¬ K i = 11 → pg_pw K A (i + 1) = t → f ≤ i ∧ i < e) : ∃ e, pc_at K A s t f e := by
  obtain ⟨e, h1, h2, h3, h4⟩ := pc_stop (K := K) (s := s) (s - f) f (by omega)
  refine ⟨e, h1, h2, h3, hd, fun k k1 k2 => ⟨h4 k k1 k2, ?_⟩, hl e h1 h2 h3⟩
  rw [pg_pw_run (i := f) (k + 1) (by omega) (fun j j1 j2 => h4 j j1 (by omega))]
  exact hp (by omega) (h4 f (Nat.le_refl _) (by omega))
theorem pc_ex4 {K A : Nat → Int32} {s : Nat} (g : pg_g K A s) : ∃ e, pc_at K A s 4 0 e := by
  refine pc_of (Nat.zero_le _) rfl (fun _ _ => rfl) ?_
  intro e h1 h2 h3 i hi hb hp
  refine ⟨Nat.zero_le _, ?_⟩
  apply Classical.byContradiction
  intro z
  exact pg_pw_main g (i + 1) (by omega) hp e (by omega) (h3 (by omega))
theorem pc_k11 {K : Nat → Int32} {i : Nat} (h : K i = 11) : ¬ pg_op K i ∧ ¬ K i = 8 := by
  constructor
  · rintro (z | z) <;> · rw [z] at h; exact absurd h (by decide)
  · intro z; rw [z] at h; exact absurd h (by decide)
theorem pc_ex {K A : Nat → Int32} {s t : Nat} (g : pg_g K A s) (w : pg_wf K s) (hn : pg_cb K A t s ≤ 1) (ht : t < 4) : ∃ e, pc_at K A s t (yw_pl K A s t) e := by
  have hle := pg_lb_le (K := K) (A := A) (t := t) s
  by_cases z : pg_lb K A t s = 0
  · have e : yw_pl K A s t = s := if_pos z
    rw [e]
    refine pc_of (Nat.le_refl _) w.2 (fun h => by omega) ?_
    intro e h1 h2 h3 i hi hb hp
    obtain ⟨m, a1, a2, a3, a4⟩ := pg_pw_at (i + 1) t hp (by omega)
    have h6 := pg_cb_mono (K := K) (A := A) (t := t) (m + 1) s (by omega)
    rw [pg_cb_y a2 a3, (pg_lb_cb s).mp z] at h6
    omega
  · have e : yw_pl K A s t = pg_lb K A t s := if_neg z
    rw [e]
    have hb := pg_lb_b s z
    obtain ⟨f, hf⟩ : ∃ f, pg_lb K A t s = f + 1 := ⟨pg_lb K A t s - 1, by omega⟩
    rw [hf] at hb hle ⊢
    simp only [Nat.add_sub_cancel] at hb
    have n8 := pc_k11 hb.1
    refine pc_of hle (by rw [pg_dp_no n8.1 n8.2]; exact (w.1 f (by omega)).1 hb.1) (fun _ _ => by rw [pg_pw_b hb.1]; exact hb.2) ?_
    intro e h1 h2 h3 i hi hbi hp
    obtain ⟨m, a1, a2, a3, a4⟩ := pg_pw_at (i + 1) t hp (by omega)
    have em : m = f := pg_nt_u hn (by omega) (by omega) a2 hb.1 a3 hb.2
    subst em
    have hm : m ≠ i := fun y => hbi (by rw [← y]; exact a2)
    refine ⟨by omega, ?_⟩
    apply Classical.byContradiction
    intro y
    exact a4 e (by omega) (by omega) (h3 (by omega))
theorem pc_lo {K A : Nat → Int32} {s t f e : Nat} {w : Nat → Nat} (h : pc_at K A s t f e) : we_S K A w t f = 0 := by
  have := we_S_eq (K := K) (A := A) (w := w) (t := t) (a := 0) f (Nat.zero_le _) (fun k _ k2 y => ?_)
  · exact this
  · apply Classical.byContradiction
    intro z
    have := h.2.2.2.2.2 k (by have := h.1; have := h.2.1; omega) z y
    omega
theorem pc_hi {K A : Nat → Int32} {s t f e : Nat} {w : Nat → Nat} (h : pc_at K A s t f e) : we_S K A w t s = we_S K A w t e := by
  refine we_S_eq s h.2.1 (fun k k1 k2 y => ?_)
  apply Classical.byContradiction
  intro z
  have := h.2.2.2.2.2 k k2 z y
  omega
theorem yv_weigh {pc : Int32} {K A B C SV VR CE KP LF cl rc : Nat → Int32} {wy tm : Nat → Int64} {s t f e : Nat} (hs : s ≤ 48) (g : pg_g K A s) (wf : pg_wp K s) (P : pc_at K A s t f e) {w : Nat → Nat} (hw : ∀ j, wy j = lN (w j)) {post : Int64 → SY → Prop}
    (h : ∀ tm, post (lN (we_S K A w t s)) ((nI s), pc, K, A, B, C, SV, VR, CE, KP, LF, cl, rc, wy, tm)) : wpY_weigh post ((nI s), pc, K, A, B, C, SV, VR, CE, KP, LF, cl, rc, wy, tm) (nI f) := by
  have H : ∀ d i, i + d = e → f ≤ i → ∀ tm, (∀ j, j ≤ pg_dp K i → tm j = lN (we_T K A i j)) → wY_weigh_15 post (nI s) pc (d + 1) (lN (we_S K A w t i)) (nI (pg_dp K i)) (nI i) K A B C SV VR CE KP LF cl rc wy tm := by
    intro d
    induction d with
    | zero =>
      intro i hi hf tm htm
      have e' : i = e := by omega
      subst e'
      have L := h tm
      rw [pc_hi P] at L
      have hes := P.2.1
      by_cases z : i = s
      · exact br_t (nI_le (by omega) (by omega)) L
      · have his : i < s := by omega
        have hc : (nI i).toNatClampNeg = i := nb_c48 his hs
        refine br_f (nI_ge his (by omega)) ⟨vp_in_nI (by omega) (by omega), ?_⟩
        exact br_t (by rw [hc]; exact P.2.2.1 his) L
    | succ d ih =>
      intro i hi hf tm htm
      have hes := P.2.1
      have his : i < s := by omega
      have hc : (nI i).toNatClampNeg = i := nb_c48 his hs
      have hin : vp_in (nI i) 48 := vp_in_nI (by omega) (by omega)
      obtain ⟨nb, hpw⟩ := P.2.2.2.2.1 i hf (by omega)
      have h3 := pg_dp3 wf i (by omega)
      have hcd : (nI (pg_dp K i)).toNatClampNeg = pg_dp K i := nb_cl (by omega)
      have hid : vp_in (nI (pg_dp K i)) 5 := vp_in_nI (by omega) (by omega)
      have hT := htm (pg_dp K i) (Nat.le_refl _)
      have I := ih (i + 1) (by omega) (by omega)
      have SY' := we_S_y (w := w) hpw
      refine br_f (nI_ge his (by omega)) ⟨hin, ?_⟩
      refine br_f (by rw [hc]; exact nb) ⟨hin, ?_⟩
      by_cases k8 : K i = 8
      · refine br_t (by rw [hc]; exact k8) ?_
        have hd := (wf i his).2.2 k8
        refine nm_r (nb_m1 hd) (nm_r (nI_1 i) ?_)
        have J := I tm (fun j hj => by rw [pg_dp_end k8] at hj; rw [we_T_n (fun z => pg_k_68 k8 z.1)]; exact htm j (by omega))
        rw [SY', we_s_0 (Or.inl k8), Nat.mul_zero, Nat.add_zero, pg_dp_end k8] at J
        exact J
      · refine br_f (by rw [hc]; exact k8) ?_
        refine yw_opens (by omega) (fun o => br_f (by decide) ?_) (fun o => br_t rfl ⟨hin, ?_⟩)
        · have d3 := (wf i his).2.1 o
          have hid1 : vp_in (nI (pg_dp K i) + 1) 5 := by rw [nI_1]; exact vp_in_nI (by omega) (by omega)
          have hcd1 : (nI (pg_dp K i) + 1).toNatClampNeg = pg_dp K i + 1 := by rw [nI_1]; exact nb_cl (by omega)
          refine ⟨hid, nm_r (e' := lN (we_S K A w t (i + 1))) ?_ ⟨hin, ?_⟩⟩
          · rw [hcd, hT, show (2 : Int64) = lN 2 from rfl, lN_mul, lN_add, SY', we_s_op o, Nat.mul_comm 2]
          have J : ∀ m, m = we_T K A (i + 1) (pg_dp K i + 1) → wY_weigh_15 post (nI s) pc (d + 1) (lN (we_S K A w t (i + 1))) (nI (pg_dp K i + 1)) (nI (i + 1)) K A B C SV VR CE KP LF cl rc wy (vp_updL tm (pg_dp K i + 1) (lN m)) := by
            intro m em
            rw [← pg_dp_op o]
            refine I _ (fun j hj => ?_)
            rw [pg_dp_op o] at hj ⊢
            by_cases y : j = pg_dp K i + 1
            · subst y; rw [pk_uLs, em]
            · rw [pk_uLn y, we_T_n (fun z => y z.2)]; exact htm j (by omega)
          by_cases k7 : K i = 7
          · obtain ⟨a1, a5, ea⟩ := (g i his).2.2 k7
            refine br_t (by rw [hc]; exact k7) ⟨hid, hin, hid1, ?_⟩
            refine nm_r (e' := vp_updL tm (pg_dp K i + 1) (lN (we_pf K A i * pg_ar A i))) (by rw [hcd1, hcd, hc, hT, ea, nI_l (by omega), lN_mul]) ?_
            refine nm_r (nI_1 _) (nm_r (nI_1 i) (J _ ?_))
            rw [we_T_y o, if_pos k7]
          · refine br_f (by rw [hc]; exact k7) ⟨hid, hid1, ?_⟩
            refine nm_r (e' := vp_updL tm (pg_dp K i + 1) (lN (we_pf K A i))) (by rw [hcd1, hcd, hT]) ?_
            refine nm_r (nI_1 _) (nm_r (nI_1 i) (J _ ?_))
            rw [we_T_y o, if_neg k7, Nat.mul_one]
        · have J := I tm (fun j hj => by rw [pg_dp_no o k8] at hj; rw [we_T_n (fun z => o z.1)]; exact htm j hj)
          rw [pg_dp_no o k8] at J
          by_cases k9 : K i = 9
          · obtain ⟨a4, ea⟩ := (g i his).2.1 (Or.inl k9)
            have hca : (nI (pg_ar A i)).toNatClampNeg = pg_ar A i := nb_cl (by omega)
            refine br_t (by rw [hc]; exact k9) ⟨hid, hin, by rw [hc, ea]; exact vp_in_nI (by omega) (by omega), ?_⟩
            refine nm_r (e' := lN (we_S K A w t (i + 1))) ?_ (nm_r (nI_1 i) J)
            rw [hc, hcd, hT, hw, show (1 : Int64) = lN 1 from rfl, lN_add, lN_mul, lN_add, SY', we_s_9 k9]
          · refine br_f (by rw [hc]; exact k9) ⟨hid, ?_⟩
            refine nm_r (e' := lN (we_S K A w t (i + 1))) ?_ (nm_r (nI_1 i) J)
            rw [hcd, hT, lN_add, SY', we_s_1 o k8 k9 nb, Nat.mul_one]
  refine nm_e ⟨(e - f) + 1, ?_⟩
  have J := H (e - f) f (by have := P.1; omega) (Nat.le_refl _) (vp_updL tm 0 1) (fun j hj => by
    have : j = 0 := by have := P.2.2.2.1; omega
    subst this; rw [pk_uLs, we_T_0]; rfl)
  rw [pc_lo P, P.2.2.2.1] at J
  exact J
theorem yv_tooLong {pc : Int32} {K A B C SV VR CE KP LF cl rc : Nat → Int32} {wy tm : Nat → Int64} {s : Nat} (hs : s ≤ 48) (g : pg_g K A s) (wf : pg_wf K s) (hn : pg_nt K A s) (D4 : ∀ p, p < 4 → wd_D K A s 4 p) (D5 : ∀ p, wd_D K A s 5 p) {post : Int32 → SY → Prop}
    (hT : lN (we_W K A s 5 4) ≤ 3000 → ∀ wy tm, post 0 ((nI s), pc, K, A, B, C, SV, VR, CE, KP, LF, cl, rc, wy, tm)) (hF : ¬ lN (we_W K A s 5 4) ≤ 3000 → ∀ wy tm, post 1 ((nI s), pc, K, A, B, C, SV, VR, CE, KP, LF, cl, rc, wy, tm)) : wpY_tooLong post ((nI s), pc, K, A, B, C, SV, VR, CE, KP, LF, cl, rc, wy, tm) := by
  have H22 : ∀ d i, i + d = 16 → ∀ wy tm w, (∀ j, wy j = lN (w j)) → we_ok K A s w (i / 4) 4 → we_ok K A s w (i / 4 + 1) (i % 4) → wY_tooLong_22 post (d + 1) (nI i) (nI s) pc K A B C SV VR CE KP LF cl rc wy tm := by
    intro d
    induction d with
    | zero =>
      intro i hi wy tm w hw C1 _
      have e : i = 16 := by omega
      subst e
      refine br_t (nI_le (a := 16) (by omega) (by omega)) ?_
      obtain ⟨e4, P⟩ := pc_ex4 g
      refine yv_weigh (f := 0) hs g wf.1 P hw ?_
      intro tm
      have E : we_S K A w 4 s = we_W K A s 5 4 := by
        rw [← we_fix5 (D5 4)]
        exact we_S_congr (fun t ht => C1 t (wd_dc4 g ht) (D4 t (wd_dc4 g ht))) s (Nat.le_refl _)
      rw [E]
      exact br_c (fun z => hT z wy tm) (fun z => hF z wy tm)
    | succ d ih =>
      intro i hi wy tm w hw C1 C2
      have e2 : nI i &&& 3 = nI (i % 4) := pk_andN (n := i) (by omega) 2 (by decide)
      have hq : i % 4 < 4 := by omega
      have hc2 : (nI (i % 4)).toNatClampNeg = i % 4 := nb_cl (by omega)
      refine br_f (nI_ge (b := 16) (by omega) (by omega)) ?_
      rw [e2]
      refine yw_placeOf hs hq g (hn _ hq) ?_
      obtain ⟨e, P⟩ := pc_ex g wf (hn _ hq) hq
      refine yv_weigh hs g wf.1 P hw ?_
      intro tm
      refine ⟨vp_in_nI hq (by omega), ?_⟩
      refine nm_r (e' := vp_updL wy (i % 4) (lN (we_S K A w (i % 4) s))) (by rw [hc2]) (nm_r (nI_1 i) ?_)
      have O := we_ok_s g D5 (Nat.le_refl _) C1 C2
      refine ih (i + 1) (by omega) _ tm _ (we_upd hw) ?_ ?_
      · by_cases z : i % 4 = 3
        · have a : (i + 1) / 4 = i / 4 + 1 := by omega
          rw [a]
          have := O.2
          rw [z] at this ⊢
          exact this
        · have a : (i + 1) / 4 = i / 4 := by omega
          rw [a]; exact O.1
      · by_cases z : i % 4 = 3
        · have a : (i + 1) % 4 = 0 := by omega
          rw [a]; exact fun p hp => absurd hp (Nat.not_lt_zero _)
        · have a : (i + 1) / 4 = i / 4 := by omega
          have b : (i + 1) % 4 = i % 4 + 1 := by omega
          rw [a, b]; exact O.2
  have H2 : ∀ d p, p + d = 4 → ∀ wy, wY_tooLong_2 post (nI s) pc (d + 1) (nI p) K A B C SV VR CE KP LF cl rc wy tm := by
    intro d
    induction d with
    | zero =>
      intro p hp wy
      obtain ⟨w, hw⟩ := we_rep wy
      refine br_t (nI_le (a := 4) (by omega) (by omega)) ⟨17, H22 16 0 rfl wy tm w hw (fun p hp z => z.elim) (fun p hp => absurd hp (Nat.not_lt_zero _))⟩
    | succ d ih =>
      intro p hp wy
      refine br_f (nI_ge (b := 4) (by omega) (by omega)) ⟨vp_in_nI (by omega) (by omega), ?_⟩
      exact nm_e (nm_r (nI_1 p) (ih (p + 1) (by omega) _))
  exact ⟨5, H2 4 0 rfl wy⟩
end WF
end
section
section FF
/-! the test for faults on both sides -/
def fa_ok (K A : Nat → Int32) (s : Nat) : Prop := pg_wf K s ∧ pg_nt K A s ∧ pg_nm K A s ∧ ¬ wa_rec K A s ∧ lN (we_W K A s 5 4) ≤ 3000
noncomputable def ff_if (c : Prop) (x y : Int32) : Int32 := @ite _ c (Classical.propDecidable c) x y
theorem ff_t {c : Prop} {x y : Int32} (h : c) : ff_if c x y = x := if_pos h
theorem ff_f {c : Prop} {x y : Int32} (h : ¬ c) : ff_if c x y = y := if_neg h
noncomputable def ff_r (K A : Nat → Int32) (s : Nat) : Int32 :=
  ff_if (pg_wf K s) (ff_if (pg_nt K A s) (ff_if (pg_nm K A s) (ff_if (wa_rec K A s) (-6) (ff_if (lN (we_W K A s 5 4) ≤ 3000) 0 (-7))) (-5)) (-4)) (-3)
theorem xf_findFault {pc cp : Int32} {K A B C SV VR CE KP oa pa ow ba re : Nat → Int32} {ps wt : Nat → Int64} {LF rt co : Nat → Int32} {s : Nat} (hs : s ≤ 48) (g : pg_g K A s) {post : Int32 → SX → Prop}
    (h : ∀ oa pa ow ba re ps wt, (ff_r K A s = 0 → fa_ok K A s ∧ pg_pr K s pa ∧ (∀ t, t < 4 → ba t = nI (pg_lb K A t s) - 1)) → post (ff_r K A s) ((nI s), pc, cp, K, A, B, C, SV, VR, CE, KP, oa, pa, ow, ba, re, ps, wt, LF, rt, co)) : wpX_findFault post ((nI s), pc, cp, K, A, B, C, SV, VR, CE, KP, oa, pa, ow, ba, re, ps, wt, LF, rt, co) := by
  unfold wpX_findFault
  refine xw_pairEnds hs (fun w oa pa hpr => ?_) (fun w oa pa => ?_)
  · refine br_f (by decide) ?_
    refine xw_placeBodies hs g (fun nt ow ba how hba => ?_) (fun nt ow ba => ?_)
    · refine br_f (by decide) ?_
      refine xw_allCalls hs g hba (fun nm => ?_) (fun nm => ?_)
      · refine br_f (by decide) ?_
        refine wx_rec hs g how (fun rr re => ?_) (fun rr re => ?_)
        · refine br_f (by decide) ?_
          have e : ff_r K A s = -6 := by unfold ff_r; rw [ff_t w, ff_t nt, ff_t nm, ff_t rr]
          have L := h oa pa ow ba re ps wt (fun z => by rw [e] at z; exact absurd z (by decide))
          rw [e] at L; exact L
        · refine br_t rfl ?_
          refine we_main hs g hpr how (wd_all5 g rr) (fun ps wt => ?_)
          refine br_c (fun z => ?_) (fun z => ?_)
          · have e : ff_r K A s = 0 := by unfold ff_r; rw [ff_t w, ff_t nt, ff_t nm, ff_f rr, ff_t z]
            have L := h oa pa ow ba re ps wt (fun _ => ⟨⟨w, nt, nm, rr, z⟩, hpr, hba⟩)
            rw [e] at L; exact L
          · have e : ff_r K A s = -7 := by unfold ff_r; rw [ff_t w, ff_t nt, ff_t nm, ff_f rr, ff_f z]
            have L := h oa pa ow ba re ps wt (fun z => by rw [e] at z; exact absurd z (by decide))
            rw [e] at L; exact L
      · refine br_t rfl ?_
        have e : ff_r K A s = -5 := by unfold ff_r; rw [ff_t w, ff_t nt, ff_f nm]
        have L := h oa pa ow ba re ps wt (fun z => by rw [e] at z; exact absurd z (by decide))
        rw [e] at L; exact L
    · refine br_t rfl ?_
      have e : ff_r K A s = -4 := by unfold ff_r; rw [ff_t w, ff_f nt]
      have L := h oa pa ow ba re ps wt (fun z => by rw [e] at z; exact absurd z (by decide))
      rw [e] at L; exact L
  · refine br_t rfl ?_
    have e : ff_r K A s = -3 := by unfold ff_r; rw [ff_f w]
    have L := h oa pa ow ba re ps wt (fun z => by rw [e] at z; exact absurd z (by decide))
    rw [e] at L; exact L
theorem yf_check {pc : Int32} {K A B C SV VR CE KP LF cl rc : Nat → Int32} {wy tm : Nat → Int64} {s : Nat} (hs : s ≤ 48) (g : pg_g K A s) {post : Int32 → SY → Prop}
    (h : ∀ rc wy tm, post (ff_r K A s) ((nI s), pc, K, A, B, C, SV, VR, CE, KP, LF, cl, rc, wy, tm)) : wpY_check post ((nI s), pc, K, A, B, C, SV, VR, CE, KP, LF, cl, rc, wy, tm) := by
  refine yw_malformed hs (fun w => br_t rfl ?_) (fun w => br_f (by decide) ?_)
  · have H : ∀ d t, t + d = 4 → (∀ j, j < t → pg_cb K A j s ≤ 1) → wY_check_12 post (nI s) pc K A B C SV VR CE KP LF cl rc wy tm (d + 1) (nI t) := by
      intro d
      induction d with
      | zero =>
        intro t ht hn
        have nt : pg_nt K A s := fun j hj => hn j (by omega)
        refine br_t (nI_le (a := 4) (by omega) (by omega)) ?_
        refine yw_missing hs g nt (fun nm => br_t rfl ?_) (fun nm => br_f (by decide) ?_)
        · refine wy_rec hs g (fun rr rc => ?_) (fun rr rc => ?_)
          · have e : ff_r K A s = -6 := by unfold ff_r; rw [ff_t w, ff_t nt, ff_t nm, ff_t rr]
            have L := h rc wy tm
            rw [e] at L; exact br_f (by decide) L
          · refine br_t rfl ?_
            refine yv_tooLong hs g w nt (wd_all g rr) (wd_all5 g rr) (fun z wy tm => ?_) (fun z wy tm => ?_)
            · have e : ff_r K A s = 0 := by unfold ff_r; rw [ff_t w, ff_t nt, ff_t nm, ff_f rr, ff_t z]
              have L := h rc wy tm
              rw [e] at L; exact br_t rfl L
            · have e : ff_r K A s = -7 := by unfold ff_r; rw [ff_t w, ff_t nt, ff_t nm, ff_f rr, ff_f z]
              have L := h rc wy tm
              rw [e] at L; exact br_f (by decide) L
        · have e : ff_r K A s = -5 := by unfold ff_r; rw [ff_t w, ff_t nt, ff_f nm]
          have L := h rc wy tm
          rw [e] at L; exact L
      | succ d ih =>
        intro t ht hn
        refine br_f (nI_ge (b := 4) (by omega) (by omega)) ?_
        refine yw_bodies hs (by omega) g ?_
        have hcs : pg_cb K A t s ≤ s := by
          have : ∀ i, pg_cb K A t i ≤ i := by
            intro i
            induction i with
            | zero => exact Nat.le_refl _
            | succ i ih =>
              by_cases y : K i = 11 ∧ pg_ar A i = t
              · rw [pg_cb_y y.1 y.2]; omega
              · rw [pg_cb_n y]; omega
          exact this s
        refine pk_le (pg_cb K A t s) 1 (fun z => ?_) (fun z => ?_)
        · refine nm_r (nI_1 t) (ih (t + 1) (by omega) ?_)
          intro j hj
          by_cases y : j = t
          · rw [y]; exact z
          · exact hn j (by omega)
        · have e : ff_r K A s = -4 := by unfold ff_r; rw [ff_t w, ff_f (fun y => by have := y t (by omega); omega)]
          have L := h rc wy tm
          rw [e] at L; exact L
    exact ⟨5, H 4 0 rfl (fun j hj => absurd hj (Nat.not_lt_zero _))⟩
  · have e : ff_r K A s = -3 := by unfold ff_r; rw [ff_f w]
    have L := h rc wy tm
    rw [e] at L; exact L
end FF
end
section
section RE
/-! the relation, and the small methods -/
theorem pk_ix (x : Int32) {n : Nat} (hn : n < 2 ^ 31) : x < 0 ∨ nI n ≤ x ∨ ∃ j : Nat, j < n ∧ x = nI j := by
  by_cases h : x < 0
  · exact Or.inl h
  · obtain ⟨j, hj, rfl⟩ := nI_of h
    by_cases h2 : j < n
    · exact Or.inr (Or.inr ⟨j, h2, rfl⟩)
    · exact Or.inr (Or.inl (nI_le (by omega) hj))
/-- the program, the start values, the variables, the cells, what is kept and the counters are one and the same; the rest is scratch -/
def i_Rel (_ : Nat) (u : SX) (v : SY) : Prop := ∃ (s c : Nat) (cp : Int32) (K A B C SV VR CE KP LF : Nat → Int32) (oa pa ow ba re rt co : Nat → Int32) (ps wt : Nat → Int64) (cl rc : Nat → Int32) (wy tm : Nat → Int64),
  u = ((nI s), (nI c), cp, K, A, B, C, SV, VR, CE, KP, oa, pa, ow, ba, re, ps, wt, LF, rt, co) ∧ v = ((nI s), (nI c), K, A, B, C, SV, VR, CE, KP, LF, cl, rc, wy, tm) ∧ s ≤ 48 ∧ c ≤ 1000000 ∧ pg_ok K A B C s
theorem re_mk {k s c : Nat} {cp : Int32} {K A B C SV VR CE KP LF oa pa ow ba re rt co : Nat → Int32} {ps wt : Nat → Int64} {cl rc : Nat → Int32} {wy tm : Nat → Int64} (hs : s ≤ 48) (hc : c ≤ 1000000) (h : pg_ok K A B C s) :
    i_Rel k ((nI s), (nI c), cp, K, A, B, C, SV, VR, CE, KP, oa, pa, ow, ba, re, ps, wt, LF, rt, co) ((nI s), (nI c), K, A, B, C, SV, VR, CE, KP, LF, cl, rc, wy, tm) :=
  ⟨s, c, cp, K, A, B, C, SV, VR, CE, KP, LF, oa, pa, ow, ba, re, rt, co, ps, wt, cl, rc, wy, tm, rfl, rfl, hs, hc, h⟩
theorem i_up {k : Nat} {u : SX} {v : SY} (h : i_Rel k u v) : i_Rel (k + 5) u v := h
theorem i_vc0 : wpX_init (fun u => wpY_init (fun v => i_Rel 0 u v)) :=
  re_mk (k := 0) (s := 0) (c := 0) (by omega) (by omega) (fun i hi => absurd hi (Nat.not_lt_zero _))
theorem re_var {x : Int32} {post : Int32 → Prop} (h1 : (∃ j : Nat, j < 8 ∧ x = nI j) → post 1) (h0 : ¬ (∃ j : Nat, j < 8 ∧ x = nI j) → post 0) : wpX_isVariable post x := by
  rcases pk_ix x (n := 8) (by omega) with z | z | ⟨j, hj, e⟩
  · exact br_t z (h0 (fun ⟨j, hj, e⟩ => by rw [e] at z; exact nI_pos (by omega) z))
  · refine br_f (fun y => ?_) (br_t z (h0 (fun ⟨j, hj, e⟩ => by rw [e] at z; exact nI_ge (b := 8) hj (by omega) z)))
    exact absurd (Int32.lt_of_le_of_lt z y) (by decide)
  · rw [e]
    exact br_f (nI_pos (by omega)) (br_f (nI_ge (b := 8) hj (by omega)) (h1 ⟨j, hj, e⟩))
theorem re_arr {x : Int32} {post : Int32 → Prop} (h1 : (∃ j : Nat, j < 3 ∧ x = nI j) → post 1) (h0 : ¬ (∃ j : Nat, j < 3 ∧ x = nI j) → post 0) : wpX_isArray post x := by
  rcases pk_ix x (n := 3) (by omega) with z | z | ⟨j, hj, e⟩
  · exact br_t z (h0 (fun ⟨j, hj, e⟩ => by rw [e] at z; exact nI_pos (by omega) z))
  · refine br_f (fun y => ?_) (br_t z (h0 (fun ⟨j, hj, e⟩ => by rw [e] at z; exact nI_ge (b := 3) hj (by omega) z)))
    exact absurd (Int32.lt_of_le_of_lt z y) (by decide)
  · rw [e]
    exact br_f (nI_pos (by omega)) (br_f (nI_ge (b := 3) hj (by omega)) (h1 ⟨j, hj, e⟩))
theorem re_sub {x : Int32} {post : Int32 → Prop} (h1 : (∃ j : Nat, j < 4 ∧ x = nI j) → post 1) (h0 : ¬ (∃ j : Nat, j < 4 ∧ x = nI j) → post 0) : wpX_isSubroutine post x := by
  rcases pk_ix x (n := 4) (by omega) with z | z | ⟨j, hj, e⟩
  · exact br_t z (h0 (fun ⟨j, hj, e⟩ => by rw [e] at z; exact nI_pos (by omega) z))
  · refine br_f (fun y => ?_) (br_t z (h0 (fun ⟨j, hj, e⟩ => by rw [e] at z; exact nI_ge (b := 4) hj (by omega) z)))
    exact absurd (Int32.lt_of_le_of_lt z y) (by decide)
  · rw [e]
    exact br_f (nI_pos (by omega)) (br_f (nI_ge (b := 4) hj (by omega)) (h1 ⟨j, hj, e⟩))
theorem re_vs {n : Nat} {a b c : Int32} (hn : n ≤ 11) : pg_vs (nI n) a b c ↔ (((n = 9 ∨ n = 11) → ∃ j : Nat, j < 4 ∧ a = nI j) ∧
  (n = 7 → ∃ j : Nat, 1 ≤ j ∧ j ≤ 5 ∧ a = nI j) ∧
  ((n ≤ 6 ∨ n = 10) → ∃ j : Nat, j < 8 ∧ a = nI j) ∧
  ((1 ≤ n ∧ n ≤ 3) → (∃ j : Nat, j < 8 ∧ b = nI j) ∧ (∃ j : Nat, j < 8 ∧ c = nI j)) ∧
  ((n = 4 ∨ n = 5) → (∃ j : Nat, j < 3 ∧ b = nI j) ∧ (∃ j : Nat, j < 8 ∧ c = nI j))) := by
  constructor
  · rintro ⟨m, hm, e, h⟩
    have : n = m := nb_i e (by omega) (by omega)
    subst this; exact h
  · intro h; exact ⟨n, hn, rfl, h⟩
theorem re_v0 {n : Nat} {a b c : Int32} (h : n = 0 ∨ n = 6 ∨ n = 10) : pg_vs (nI n) a b c ↔ ∃ j : Nat, j < 8 ∧ a = nI j := by
  have q1 : ¬ (n = 9 ∨ n = 11) := by omega
  have q2 : ¬ n = 7 := by omega
  have q3 : (n ≤ 6 ∨ n = 10) := by omega
  have q4 : ¬ (1 ≤ n ∧ n ≤ 3) := by omega
  have q5 : ¬ (n = 4 ∨ n = 5) := by omega
  rw [re_vs (by omega)]
  exact ⟨fun z => z.2.2.1 q3, fun z => ⟨fun y => absurd y q1, fun y => absurd y q2, fun _ => z, fun y => absurd y q4, fun y => absurd y q5⟩⟩
theorem re_v1 {n : Nat} {a b c : Int32} (h : 1 ≤ n ∧ n ≤ 3) : pg_vs (nI n) a b c ↔ (∃ j : Nat, j < 8 ∧ a = nI j) ∧ (∃ j : Nat, j < 8 ∧ b = nI j) ∧ (∃ j : Nat, j < 8 ∧ c = nI j) := by
  have q1 : ¬ (n = 9 ∨ n = 11) := by omega
  have q2 : ¬ n = 7 := by omega
  have q3 : (n ≤ 6 ∨ n = 10) := by omega
  have q4 : (1 ≤ n ∧ n ≤ 3) := by omega
  have q5 : ¬ (n = 4 ∨ n = 5) := by omega
  rw [re_vs (by omega)]
  exact ⟨fun z => ⟨z.2.2.1 q3, z.2.2.2.1 q4⟩, fun z => ⟨fun y => absurd y q1, fun y => absurd y q2, fun _ => z.1, fun _ => z.2, fun y => absurd y q5⟩⟩
theorem re_v4 {n : Nat} {a b c : Int32} (h : n = 4 ∨ n = 5) : pg_vs (nI n) a b c ↔ (∃ j : Nat, j < 8 ∧ a = nI j) ∧ (∃ j : Nat, j < 3 ∧ b = nI j) ∧ (∃ j : Nat, j < 8 ∧ c = nI j) := by
  have q1 : ¬ (n = 9 ∨ n = 11) := by omega
  have q2 : ¬ n = 7 := by omega
  have q3 : (n ≤ 6 ∨ n = 10) := by omega
  have q4 : ¬ (1 ≤ n ∧ n ≤ 3) := by omega
  have q5 : (n = 4 ∨ n = 5) := by omega
  rw [re_vs (by omega)]
  exact ⟨fun z => ⟨z.2.2.1 q3, z.2.2.2.2 q5⟩, fun z => ⟨fun y => absurd y q1, fun y => absurd y q2, fun _ => z.1, fun y => absurd y q4, fun _ => z.2⟩⟩
theorem re_v9 {n : Nat} {a b c : Int32} (h : n = 9 ∨ n = 11) : pg_vs (nI n) a b c ↔ ∃ j : Nat, j < 4 ∧ a = nI j := by
  have q1 : (n = 9 ∨ n = 11) := by omega
  have q2 : ¬ n = 7 := by omega
  have q3 : ¬ (n ≤ 6 ∨ n = 10) := by omega
  have q4 : ¬ (1 ≤ n ∧ n ≤ 3) := by omega
  have q5 : ¬ (n = 4 ∨ n = 5) := by omega
  rw [re_vs (by omega)]
  exact ⟨fun z => z.1 q1, fun z => ⟨fun _ => z, fun y => absurd y q2, fun y => absurd y q3, fun y => absurd y q4, fun y => absurd y q5⟩⟩
theorem re_v7 {n : Nat} {a b c : Int32} (h : n = 7) : pg_vs (nI n) a b c ↔ ∃ j : Nat, 1 ≤ j ∧ j ≤ 5 ∧ a = nI j := by
  have q1 : ¬ (n = 9 ∨ n = 11) := by omega
  have q2 : n = 7 := by omega
  have q3 : ¬ (n ≤ 6 ∨ n = 10) := by omega
  have q4 : ¬ (1 ≤ n ∧ n ≤ 3) := by omega
  have q5 : ¬ (n = 4 ∨ n = 5) := by omega
  rw [re_vs (by omega)]
  exact ⟨fun z => z.2.1 q2, fun z => ⟨fun y => absurd y q1, fun _ => z, fun y => absurd y q3, fun y => absurd y q4, fun y => absurd y q5⟩⟩
theorem re_v8 {n : Nat} {a b c : Int32} (h : n = 8) : pg_vs (nI n) a b c :=
  (re_vs (by omega)).mpr ⟨fun y => by omega, fun y => by omega, fun y => by omega, fun y => by omega, fun y => by omega⟩
theorem re_loop {a : Int32} {A B : Prop} (f : (∃ j : Nat, 1 ≤ j ∧ j ≤ 5 ∧ a = nI j) → B) (h : ¬ (∃ j : Nat, 1 ≤ j ∧ j ≤ 5 ∧ a = nI j) → A) : ((a < 1 → A) ∧ (¬ a < 1 → ((5 < a → A) ∧ (¬ 5 < a → B)))) := by
  rcases pk_ix a (n := 6) (by omega) with z | z | ⟨j, hj, e⟩
  · exact br_t (Int32.lt_trans z (by decide)) (h (fun ⟨j, _, hj, e⟩ => by rw [e] at z; exact nI_pos (by omega) z))
  · refine br_f (fun y => absurd (Int32.lt_of_le_of_lt z y) (by decide)) (br_t (Int32.lt_of_lt_of_le (by decide) z) (h (fun ⟨j, _, hj, e⟩ => by rw [e] at z; exact nI_ge (b := 6) (by omega) (by omega) z)))
  · subst e
    refine pk_lt j 1 (fun z => h (fun ⟨i, h1, h5, e⟩ => by have := nb_i e (by omega) (by omega); omega)) (fun z => ?_)
    exact pk_lt 5 j (fun y => h (fun ⟨i, h1, h5, e⟩ => by have := nb_i e (by omega) (by omega); omega)) (fun y => f ⟨j, z, y, rfl⟩)
theorem re_n0 : narrow .boolean (.int 0) = .int 0 := by decide
theorem re_n1 : narrow .boolean (.int 1) = .int 1 := by decide
theorem re_kind (k : Int32) {a b c : Int32} : (k < 0 ∧ ¬ pg_vs k a b c) ∨ (11 < k ∧ ¬ k < 0 ∧ ¬ k ≤ 11 ∧ ¬ pg_vs k a b c) ∨ ∃ n : Nat, n ≤ 11 ∧ k = nI n := by
  rcases pk_ix k (n := 12) (by omega) with z | z | ⟨j, hj, e⟩
  · exact Or.inl ⟨z, fun ⟨n, hn, e, _⟩ => by rw [e] at z; exact nI_pos (by omega) z⟩
  · refine Or.inr (Or.inl ⟨Int32.lt_of_lt_of_le (by decide) z, fun y => absurd (Int32.lt_of_le_of_lt z y) (by decide), fun y => absurd (Int32.le_trans z y) (by decide), ?_⟩)
    exact fun ⟨n, hn, e, _⟩ => by rw [e] at z; exact nI_ge (b := 12) (by omega) (by omega) z
  · exact Or.inr (Or.inr ⟨j, by omega, e⟩)
theorem re_stX {k a b c : Int32} {post : Int32 → Prop} (h1 : pg_vs k a b c → post 1) (h0 : ¬ pg_vs k a b c → post 0) : wpX_isStatement post k a b c := by
  rcases re_kind k (a := a) (b := b) (c := c) with ⟨z, y⟩ | ⟨z, z0, _, y⟩ | ⟨n, hn, e⟩
  · exact br_t z (h0 y)
  · exact br_f z0 (br_t z (h0 y))
  · subst e
    have V0 : (n = 0 ∨ n = 6 ∨ n = 10) → wX_isStatement_64 post a := by
      intro z
      exact re_var (fun y => ⟨re_n1, h1 ((re_v0 z).mpr y)⟩) (fun y => ⟨re_n0, h0 (fun x => y ((re_v0 z).mp x))⟩)
    have V1 : (1 ≤ n ∧ n ≤ 3) → wX_isStatement_69 post a b c := by
      intro z
      refine re_var (fun y => br_f (by decide) ?_) (fun y => br_t rfl (h0 (fun x => y ((re_v1 z).mp x).1)))
      refine re_var (fun y' => br_f (by decide) ?_) (fun y' => br_t rfl (h0 (fun x => y' ((re_v1 z).mp x).2.1)))
      exact re_var (fun y'' => br_f (by decide) (h1 ((re_v1 z).mpr ⟨y, y', y''⟩))) (fun y'' => br_t rfl (h0 (fun x => y'' ((re_v1 z).mp x).2.2)))
    have V4 : (n = 4 ∨ n = 5) → wX_isStatement_96 post a b c := by
      intro z
      refine re_var (fun y => br_f (by decide) ?_) (fun y => br_t rfl (h0 (fun x => y ((re_v4 z).mp x).1)))
      refine re_arr (fun y' => br_f (by decide) ?_) (fun y' => br_t rfl (h0 (fun x => y' ((re_v4 z).mp x).2.1)))
      exact re_var (fun y'' => br_f (by decide) (h1 ((re_v4 z).mpr ⟨y, y', y''⟩))) (fun y'' => br_t rfl (h0 (fun x => y'' ((re_v4 z).mp x).2.2)))
    have V9 : (n = 9 ∨ n = 11) → wX_isStatement_139 post a := by
      intro z
      exact re_sub (fun y => ⟨re_n1, h1 ((re_v9 z).mpr y)⟩) (fun y => ⟨re_n0, h0 (fun x => y ((re_v9 z).mp x))⟩)
    refine br_f (nI_pos (by omega)) ?_
    refine pk_lt 11 n (fun y => absurd y (by omega)) (fun _ => ?_)
    refine pk_eq n 0 (fun y => V0 (by omega)) (fun _ => ?_)
    refine pk_eq n 1 (fun y => V1 (by omega)) (fun _ => ?_)
    refine pk_eq n 2 (fun y => V1 (by omega)) (fun _ => ?_)
    refine pk_eq n 3 (fun y => V1 (by omega)) (fun _ => ?_)
    refine pk_eq n 4 (fun y => V4 (by omega)) (fun _ => ?_)
    refine pk_eq n 5 (fun y => V4 (by omega)) (fun _ => ?_)
    refine pk_eq n 6 (fun y => V0 (by omega)) (fun _ => ?_)
    refine pk_eq n 7 (fun y => re_loop (fun x => h1 ((re_v7 y).mpr x)) (fun x => h0 (fun w => x ((re_v7 y).mp w)))) (fun _ => ?_)
    refine pk_eq n 8 (fun y => h1 (re_v8 y)) (fun _ => ?_)
    refine pk_eq n 9 (fun y => V9 (by omega)) (fun _ => ?_)
    refine pk_eq n 10 (fun y => V0 (by omega)) (fun _ => ?_)
    exact pk_eq n 11 (fun y => V9 (by omega)) (fun _ => trivial)
/-- x < 0, lim < x, else -/
theorem re_lim {x : Int32} {A B : Prop} (n : Nat) (hn : n < 1000) (f : (∃ j : Nat, j < n + 1 ∧ x = nI j) → B) (h : ¬ (∃ j : Nat, j < n + 1 ∧ x = nI j) → A) {l : Int32} (el : l = nI n := by rfl) : ((x < 0 → A) ∧ (¬ x < 0 → ((l < x → A) ∧ (¬ l < x → B)))) := by
  subst el
  rcases pk_ix x (n := n + 1) (by omega) with z | z | ⟨j, hj, e⟩
  · exact br_t z (h (fun ⟨j, hj, e⟩ => by rw [e] at z; exact nI_pos (by omega) z))
  · have lx : nI n < x := Int32.lt_of_lt_of_le (nI_lt (by omega) (by omega)) z
    refine br_f (fun y => ?_) (br_t lx (h (fun ⟨j, hj, e⟩ => by rw [e] at z; exact nI_ge (by omega) (by omega) z)))
    exact nI_pos (n := n) (by omega) (Int32.lt_trans lx y)
  · subst e
    exact br_f (nI_pos (by omega)) (br_f (nI_nlt (by omega) (by omega)) (f ⟨j, hj, rfl⟩))
theorem re_limle {x : Int32} {A B : Prop} (n : Nat) (hn : n < 1000) (f : (∃ j : Nat, j < n + 1 ∧ x = nI j) → B) (h : ¬ (∃ j : Nat, j < n + 1 ∧ x = nI j) → A) {l : Int32} (el : l = nI n := by rfl) : ((x < 0 → A) ∧ (¬ x < 0 → ((x ≤ l → B) ∧ (¬ x ≤ l → A)))) := by
  have H := re_lim n hn f h (el := el)
  refine ⟨H.1, fun z => ⟨fun y => (H.2 z).2 (Int32.not_lt.mpr y), fun y => (H.2 z).1 (Int32.not_le.mp y)⟩⟩
theorem re_stY {pc : Int32} {K A B C SV VR CE KP LF cl rc : Nat → Int32} {wy tm : Nat → Int64} {s : Nat} {k a b c : Int32} {post : Int32 → Prop} (h1 : pg_vs k a b c → post 1) (h0 : ¬ pg_vs k a b c → post 0) : wpY_fits post ((nI s), pc, K, A, B, C, SV, VR, CE, KP, LF, cl, rc, wy, tm) k a b c := by
  rcases re_kind k (a := a) (b := b) (c := c) with ⟨z, y⟩ | ⟨z, z0, z1, y⟩ | ⟨n, hn, e⟩
  · exact br_t z (h0 y)
  · exact br_f z0 (br_f z1 (h0 y))
  · subst e
    have V9 : (n = 9 ∨ n = 11) → wY_fits_54 post a (nI s) pc K A B C SV VR CE KP LF cl rc wy tm := by
      intro z
      exact re_lim 3 (by omega) (fun y => h1 ((re_v9 z).mpr y)) (fun y => h0 (fun x => y ((re_v9 z).mp x)))
    have V119 : ¬ (1 ≤ n ∧ n ≤ 3) → n ≤ 6 ∨ n = 10 → (∃ j : Nat, j < 8 ∧ a = nI j) → wY_fits_119 post (nI n) b c (nI s) pc K A B C SV VR CE KP LF cl rc wy tm := by
      intro z z' ya
      have V129 : (n = 4 ∨ n = 5) → wY_fits_129 post b c (nI s) pc K A B C SV VR CE KP LF cl rc wy tm := by
        intro x
        refine re_lim 2 (by omega) (fun yb => ?_) (fun y => h0 (fun w => y ((re_v4 x).mp w).2.1))
        exact re_lim 7 (by omega) (fun yc => h1 ((re_v4 x).mpr ⟨ya, yb, yc⟩)) (fun y => h0 (fun w => y ((re_v4 x).mp w).2.2))
      refine pk_eq n 4 (fun y => V129 (by omega)) (fun n4 => ?_)
      refine pk_eq n 5 (fun y => V129 (by omega)) (fun n5 => ?_)
      exact h1 ((re_v0 (by omega)).mpr ya)
    refine br_f (nI_pos (by omega)) ?_
    refine pk_le n 11 (fun _ => ?_) (fun z => absurd z (by omega))
    refine pk_eq n 8 (fun y => h1 (re_v8 y)) (fun n8 => ?_)
    refine pk_eq n 7 (fun y => re_loop (fun x => h1 ((re_v7 y).mpr x)) (fun x => h0 (fun w => x ((re_v7 y).mp w)))) (fun n7 => ?_)
    refine pk_eq n 9 (fun y => V9 (by omega)) (fun n9 => ?_)
    refine pk_eq n 11 (fun y => V9 (by omega)) (fun n11 => ?_)
    refine re_limle 7 (by omega) (fun ya => ?_) (fun y => h0 (fun w => y (((re_vs hn).mp w).2.2.1 (by omega))))
    refine pk_lt n 1 (fun z => V119 (by omega) (by omega) ya) (fun z1 => ?_)
    refine pk_lt 3 n (fun z => V119 (by omega) (by omega) ya) (fun z3 => ?_)
    refine re_lim 7 (by omega) (fun yb => ?_) (fun y => h0 (fun w => y ((re_v1 ⟨z1, z3⟩).mp w).2.1))
    exact re_lim 7 (by omega) (fun yc => h1 ((re_v1 ⟨z1, z3⟩).mpr ⟨ya, yb, yc⟩)) (fun y => h0 (fun w => y ((re_v1 ⟨z1, z3⟩).mp w).2.2))
end RE
end
section
section SM
/-! the small methods -/
theorem i_vc_add {k : Nat} {u : SX} {v : SY} (I : i_Rel k u v) (hk : k + 5 ≤ 2560) (v1 : Int32) (v2 : Int32) (v3 : Int32) (v4 : Int32) : wpX_add (fun r u' => wpY_add (fun r' v' => r' = r ∧ i_Rel (k + 5) u' v') v v1 v2 v3 v4) u v1 v2 v3 v4 := by
  obtain ⟨s, c, cp, K, A, B, C, SV, VR, CE, KP, LF, oa, pa, ow, ba, re, rt, co, ps, wt, cl, rc, wy, tm, rfl, rfl, hs, hc, ok⟩ := I
  by_cases h : s < 48
  · have hcs : (nI s).toNatClampNeg = s := nb_cl (by omega)
    have hin : vp_in (nI s) 48 := vp_in_nI h (by omega)
    refine br_t (nI_lt (b := 48) h (by omega)) (re_stX (fun vs => br_f (by decide) ?_) (fun nv => br_t rfl ?_))
    · refine ⟨hin, nm_r (e' := upd K s v1) (by rw [hcs]) ⟨hin, nm_r (e' := upd A s v2) (by rw [hcs]) ⟨hin, nm_r (e' := upd B s v3) (by rw [hcs]) ⟨hin, nm_r (e' := upd C s v4) (by rw [hcs]) (nm_r (nI_1 s) ?_)⟩⟩⟩⟩
      refine br_f (nb_ne (b := 48) (by omega) (by omega) (by omega)) (re_stY (fun _ => br_f (by decide) ?_) (fun z => absurd vs z))
      refine ⟨hin, nm_r (e' := upd K s v1) (by rw [hcs]) ⟨hin, nm_r (e' := upd A s v2) (by rw [hcs]) ⟨hin, nm_r (e' := upd B s v3) (by rw [hcs]) ⟨hin, nm_r (e' := upd C s v4) (by rw [hcs]) (nm_r (nI_1 s) ?_)⟩⟩⟩⟩
      refine ⟨rfl, re_mk (by omega) hc ?_⟩
      intro i hi
      by_cases z : i = s
      · subst z; rw [pk_us, pk_us, pk_us, pk_us]; exact vs
      · rw [pk_un z, pk_un z, pk_un z, pk_un z]; exact ok i (by omega)
    · refine br_f (nb_ne (b := 48) (by omega) (by omega) (by omega)) (re_stY (fun z => absurd z nv) (fun _ => br_t rfl ?_))
      exact ⟨rfl, re_mk hs hc ok⟩
  · have e : s = 48 := by omega
    subst e
    refine br_f (nI_nlt (b := 48) (by omega) (by omega)) (br_t rfl ?_)
    exact ⟨rfl, re_mk hs hc ok⟩
theorem i_vc_retract {k : Nat} {u : SX} {v : SY} (I : i_Rel k u v) (hk : k + 5 ≤ 2560) : wpX_retract (fun r u' => wpY_retract (fun r' v' => r' = r ∧ i_Rel (k + 5) u' v') v) u := by
  obtain ⟨s, c, cp, K, A, B, C, SV, VR, CE, KP, LF, oa, pa, ow, ba, re, rt, co, ps, wt, cl, rc, wy, tm, rfl, rfl, hs, hc, ok⟩ := I
  refine pk_lt 0 s (fun z => ?_) (fun z => ?_)
  · obtain ⟨m, rfl⟩ : ∃ m, s = m + 1 := ⟨s - 1, by omega⟩
    refine nm_r (nI_pred m) ?_
    refine br_f (nI_ne0 (by omega) (by omega)) (nm_r (nI_pred m) ?_)
    exact ⟨rfl, re_mk (by omega) hc (fun i hi => ok i (by omega))⟩
  · have e : s = 0 := by omega
    subst e
    exact br_t rfl ⟨rfl, re_mk hs hc ok⟩
theorem i_vc_start {k : Nat} {u : SX} {v : SY} (I : i_Rel k u v) (hk : k + 5 ≤ 2560) (v1 : Int32) (v2 : Int32) : wpX_start (fun r u' => wpY_start (fun r' v' => r' = r ∧ i_Rel (k + 5) u' v') v v1 v2) u v1 v2 := by
  obtain ⟨s, c, cp, K, A, B, C, SV, VR, CE, KP, LF, oa, pa, ow, ba, re, rt, co, ps, wt, cl, rc, wy, tm, rfl, rfl, hs, hc, ok⟩ := I
  unfold wpX_start
  refine re_var (fun z => br_f (by decide) ?_) (fun z => br_t rfl ?_)
  · obtain ⟨j, hj, e⟩ := id z
    subst e
    refine ⟨vp_in_nI hj (by omega), nm_e ?_⟩
    refine re_limle 7 (by omega) (fun _ => ?_) (fun y => absurd z y)
    exact ⟨vp_in_nI hj (by omega), nm_e ⟨rfl, re_mk hs hc ok⟩⟩
  · exact re_limle 7 (by omega) (fun y => absurd y z) (fun _ => ⟨rfl, re_mk hs hc ok⟩)
theorem i_vc_check {k : Nat} {u : SX} {v : SY} (I : i_Rel k u v) (hk : k + 5 ≤ 2560) : wpX_check (fun r u' => wpY_check (fun r' v' => r' = r ∧ i_Rel (k + 5) u' v') v) u := by
  obtain ⟨s, c, cp, K, A, B, C, SV, VR, CE, KP, LF, oa, pa, ow, ba, re, rt, co, ps, wt, cl, rc, wy, tm, rfl, rfl, hs, hc, ok⟩ := I
  unfold wpX_check
  refine xf_findFault hs (pg_of_ok ok) (fun oa pa ow ba re ps wt _ => ?_)
  exact yf_check hs (pg_of_ok ok) (fun rc wy tm => ⟨rfl, re_mk hs hc ok⟩)
theorem i_vc_printed {k : Nat} {u : SX} {v : SY} (I : i_Rel k u v) (hk : k + 5 ≤ 2560) : wpX_printed (fun r => wpY_printed (fun r' => r' = r ∧ i_Rel (k + 5) u v) v) u := by
  obtain ⟨s, c, cp, K, A, B, C, SV, VR, CE, KP, LF, oa, pa, ow, ba, re, rt, co, ps, wt, cl, rc, wy, tm, rfl, rfl, hs, hc, ok⟩ := I
  exact ⟨rfl, re_mk hs hc ok⟩
theorem i_vc_output {k : Nat} {u : SX} {v : SY} (I : i_Rel k u v) (hk : k + 5 ≤ 2560) (v1 : Int32) : wpX_output (fun r => wpY_output (fun r' => r' = r ∧ i_Rel (k + 5) u v) v v1) u v1 := by
  obtain ⟨s, c, cp, K, A, B, C, SV, VR, CE, KP, LF, oa, pa, ow, ba, re, rt, co, ps, wt, cl, rc, wy, tm, rfl, rfl, hs, hc, ok⟩ := I
  have R : i_Rel (k + 5) ((nI s), (nI c), cp, K, A, B, C, SV, VR, CE, KP, oa, pa, ow, ba, re, ps, wt, LF, rt, co) ((nI s), (nI c), K, A, B, C, SV, VR, CE, KP, LF, cl, rc, wy, tm) := re_mk hs hc ok
  refine br_c (fun z => br_t z ⟨rfl, R⟩) (fun z => ?_)
  refine br_c (fun y => br_f z (br_t y ⟨rfl, R⟩)) (fun y => ?_)
  refine br_c (fun x => ?_) (fun x => br_f z (br_f y (br_t (Int32.not_lt.mp x) ⟨rfl, R⟩)))
  have hin : vp_in v1 48 := by
    obtain ⟨j, hj, rfl⟩ := nI_of z
    exact vp_in_nI ((nI_ltI (b := 48) hj (by omega)).mp x) (by omega)
  exact ⟨hin, br_f z (br_f y (br_f (Int32.not_le.mpr x) ⟨hin, rfl, R⟩))⟩
theorem i_vc_variable {k : Nat} {u : SX} {v : SY} (I : i_Rel k u v) (hk : k + 5 ≤ 2560) (v1 : Int32) : wpX_variable (fun r => wpY_variable (fun r' => r' = r ∧ i_Rel (k + 5) u v) v v1) u v1 := by
  obtain ⟨s, c, cp, K, A, B, C, SV, VR, CE, KP, LF, oa, pa, ow, ba, re, rt, co, ps, wt, cl, rc, wy, tm, rfl, rfl, hs, hc, ok⟩ := I
  have R : i_Rel (k + 5) ((nI s), (nI c), cp, K, A, B, C, SV, VR, CE, KP, oa, pa, ow, ba, re, ps, wt, LF, rt, co) ((nI s), (nI c), K, A, B, C, SV, VR, CE, KP, LF, cl, rc, wy, tm) := re_mk hs hc ok
  unfold wpX_variable
  refine re_var (fun z => br_f (by decide) ?_) (fun z => br_t rfl ?_)
  · obtain ⟨j, hj, e⟩ := id z
    subst e
    have hin : vp_in (nI j) 8 := vp_in_nI hj (by omega)
    exact ⟨hin, re_lim 7 (by omega) (fun _ => ⟨hin, rfl, R⟩) (fun y => absurd z y)⟩
  · exact re_lim 7 (by omega) (fun y => absurd y z) (fun _ => ⟨rfl, R⟩)
theorem sm_8l (a b : Nat) : nI a * 8 + nI b = nI (a * 8 + b) := by
  show nI a * nI 8 + nI b = _
  rw [pk_mul, nI_add]
theorem sm_8r (a b : Nat) : 8 * nI a + nI b = nI (a * 8 + b) := by
  show nI 8 * nI a + nI b = _
  rw [pk_mul, nI_add, Nat.mul_comm]
theorem i_vc_cell {k : Nat} {u : SX} {v : SY} (I : i_Rel k u v) (hk : k + 5 ≤ 2560) (v1 : Int32) (v2 : Int32) : wpX_cell (fun r => wpY_cell (fun r' => r' = r ∧ i_Rel (k + 5) u v) v v1 v2) u v1 v2 := by
  obtain ⟨s, c, cp, K, A, B, C, SV, VR, CE, KP, LF, oa, pa, ow, ba, re, rt, co, ps, wt, cl, rc, wy, tm, rfl, rfl, hs, hc, ok⟩ := I
  have R : i_Rel (k + 5) ((nI s), (nI c), cp, K, A, B, C, SV, VR, CE, KP, oa, pa, ow, ba, re, ps, wt, LF, rt, co) ((nI s), (nI c), K, A, B, C, SV, VR, CE, KP, LF, cl, rc, wy, tm) := re_mk hs hc ok
  unfold wpX_cell
  refine re_arr (fun z => br_f (by decide) ?_) (fun z => br_t rfl ?_)
  · obtain ⟨a, ha, e⟩ := id z
    subst e
    have Y0 : ¬ (∃ j : Nat, j < 8 ∧ v2 = nI j) → wpY_cell (fun r' => r' = 0 ∧ i_Rel (k + 5) ((nI s), (nI c), cp, K, A, B, C, SV, VR, CE, KP, oa, pa, ow, ba, re, ps, wt, LF, rt, co) ((nI s), (nI c), K, A, B, C, SV, VR, CE, KP, LF, cl, rc, wy, tm)) ((nI s), (nI c), K, A, B, C, SV, VR, CE, KP, LF, cl, rc, wy, tm) (nI a) v2 := by
      intro y
      refine re_lim 2 (by omega) (fun _ => ?_) (fun y => absurd z y)
      exact re_lim 7 (by omega) (fun x => absurd x y) (fun _ => ⟨rfl, R⟩)
    rcases pk_ix v2 (n := 8) (by omega) with y | y | ⟨b, hb, e⟩
    · exact br_t y (Y0 (fun ⟨j, hj, e⟩ => by rw [e] at y; exact nI_pos (by omega) y))
    · refine br_f (fun x => absurd (Int32.lt_of_le_of_lt y x) (by decide)) (br_f (Int32.not_lt.mpr y) ?_)
      exact Y0 (fun ⟨j, hj, e⟩ => by rw [e] at y; exact nI_ge (b := 8) hj (by omega) y)
    · subst e
      have hin : vp_in (nI (a * 8 + b)) 24 := vp_in_nI (by omega) (by omega)
      refine br_f (nI_pos (by omega)) (br_t (nI_lt (b := 8) hb (by omega)) ?_)
      rw [sm_8l]
      refine ⟨hin, ?_⟩
      refine re_lim 2 (by omega) (fun _ => ?_) (fun y => absurd z y)
      refine re_lim 7 (by omega) (fun _ => ?_) (fun y => absurd ⟨b, hb, rfl⟩ y)
      rw [sm_8r]
      exact ⟨hin, rfl, R⟩
  · exact re_lim 2 (by omega) (fun y => absurd y z) (fun _ => ⟨rfl, R⟩)
/-! arrays filled by a loop -/
def sm_z (a : Nat → Int32) (n : Nat) : Nat → Int32 := fun j => if j < n then 0 else a j
def sm_c (a b : Nat → Int32) (n : Nat) : Nat → Int32 := fun j => if j < n then a j else b j
theorem sm_z0 (a : Nat → Int32) : sm_z a 0 = a := funext fun j => if_neg (Nat.not_lt_zero _)
theorem sm_c0 (a b : Nat → Int32) : sm_c a b 0 = b := funext fun j => if_neg (Nat.not_lt_zero _)
theorem sm_zs (a : Nat → Int32) (n : Nat) : upd (sm_z a n) n 0 = sm_z a (n + 1) := by
  funext j
  by_cases z : j = n
  · subst z; rw [pk_us]; unfold sm_z; rw [if_pos (by omega)]
  · rw [pk_un z]; unfold sm_z
    by_cases y : j < n
    · rw [if_pos y, if_pos (by omega)]
    · rw [if_neg y, if_neg (by omega)]
theorem sm_cs (a b : Nat → Int32) (n : Nat) : upd (sm_c a b n) n (a n) = sm_c a b (n + 1) := by
  funext j
  by_cases z : j = n
  · subst z; rw [pk_us]; unfold sm_c; rw [if_pos (by omega)]
  · rw [pk_un z]; unfold sm_c
    by_cases y : j < n
    · rw [if_pos y, if_pos (by omega)]
    · rw [if_neg y, if_neg (by omega)]
theorem sm_cz (a b : Nat → Int32) (n : Nat) : sm_c (sm_z a n) b n = sm_z b n := by
  funext j
  unfold sm_c sm_z
  by_cases y : j < n
  · rw [if_pos y, if_pos y, if_pos y]
  · rw [if_neg y, if_neg y]
theorem sm_begin {pc cp : Int32} {K A B C SV VR CE KP oa pa ow ba re : Nat → Int32} {ps wt : Nat → Int64} {LF rt co : Nat → Int32} {s : Nat} {post : SX → Prop} (h : post ((nI s), 0, 4, K, A, B, C, SV, (sm_c SV VR 8), (sm_z CE 24), KP, oa, pa, ow, ba, re, ps, wt, LF, rt, co)) : wpX_beginRun post ((nI s), pc, cp, K, A, B, C, SV, VR, CE, KP, oa, pa, ow, ba, re, ps, wt, LF, rt, co) := by
  have H28 : ∀ d i, i + d = 24 → wX_beginRun_28 post (nI s) pc cp (d + 1) (nI i) K A B C SV (sm_c SV VR 8) (sm_z CE i) KP oa pa ow ba re ps wt LF rt co := by
    intro d
    induction d with
    | zero =>
      intro i hi
      have e : i = 24 := by omega
      subst e
      exact br_t (nI_le (a := 24) (by omega) (by omega)) h
    | succ d ih =>
      intro i hi
      refine br_f (nI_ge (b := 24) (by omega) (by omega)) ⟨vp_in_nI (by omega) (by omega), ?_⟩
      exact nm_r (e' := sm_z CE (i + 1)) (by rw [nb_cl (by omega), sm_zs]) (nm_r (nI_1 i) (ih (i + 1) (by omega)))
  have H2 : ∀ d i, i + d = 8 → wX_beginRun_2 post (nI s) pc cp (d + 1) (nI i) K A B C SV (sm_c SV VR i) CE KP oa pa ow ba re ps wt LF rt co := by
    intro d
    induction d with
    | zero =>
      intro i hi
      have e : i = 8 := by omega
      subst e
      have L := H28 24 0 rfl
      rw [sm_z0] at L
      exact br_t (nI_le (a := 8) (by omega) (by omega)) ⟨25, L⟩
    | succ d ih =>
      intro i hi
      have hin : vp_in (nI i) 8 := vp_in_nI (by omega) (by omega)
      refine br_f (nI_ge (b := 8) (by omega) (by omega)) ⟨hin, hin, ?_⟩
      exact nm_r (e' := sm_c SV VR (i + 1)) (by rw [nb_cl (by omega), sm_cs]) (nm_r (nI_1 i) (ih (i + 1) (by omega)))
  have L := H2 8 0 rfl
  rw [sm_c0] at L
  exact ⟨9, L⟩
theorem sm_clearX {pc cp : Int32} {K A B C SV VR CE KP oa pa ow ba re : Nat → Int32} {ps wt : Nat → Int64} {LF rt co : Nat → Int32} {s : Nat} {post : SX → Prop} (h : post ((nI 0), 0, 4, K, A, B, C, (sm_z SV 8), (sm_z VR 8), (sm_z CE 24), KP, oa, pa, ow, ba, re, ps, wt, LF, rt, co)) : wpX_clear post ((nI s), pc, cp, K, A, B, C, SV, VR, CE, KP, oa, pa, ow, ba, re, ps, wt, LF, rt, co) := by
  have H : ∀ d i, i + d = 8 → wX_clear_7 post (nI 0) pc cp (d + 1) (nI i) K A B C (sm_z SV i) VR CE KP oa pa ow ba re ps wt LF rt co := by
    intro d
    induction d with
    | zero =>
      intro i hi
      have e : i = 8 := by omega
      subst e
      refine br_t (nI_le (a := 8) (by omega) (by omega)) (sm_begin ?_)
      rw [sm_cz]; exact h
    | succ d ih =>
      intro i hi
      refine br_f (nI_ge (b := 8) (by omega) (by omega)) ⟨vp_in_nI (by omega) (by omega), ?_⟩
      exact nm_r (e' := sm_z SV (i + 1)) (by rw [nb_cl (by omega), sm_zs]) (nm_r (nI_1 i) (ih (i + 1) (by omega)))
  have L := H 8 0 rfl
  rw [sm_z0] at L
  exact ⟨9, L⟩
theorem sm_clearY {pc : Int32} {K A B C SV VR CE KP LF cl rc : Nat → Int32} {wy tm : Nat → Int64} {s : Nat} {post : SY → Prop} (h : post ((nI 0), 0, K, A, B, C, (sm_z SV 8), (sm_z VR 8), (sm_z CE 24), KP, LF, cl, rc, wy, tm)) : wpY_clear post ((nI s), pc, K, A, B, C, SV, VR, CE, KP, LF, cl, rc, wy, tm) := by
  have H40 : ∀ d i, i + d = 24 → wY_clear_40 post (nI 0) 0 (d + 1) (nI i) K A B C (sm_z SV 8) (sm_z VR 8) (sm_z CE i) KP LF cl rc wy tm := by
    intro d
    induction d with
    | zero =>
      intro i hi
      have e : i = 24 := by omega
      subst e
      exact br_t (nI_le (a := 24) (by omega) (by omega)) h
    | succ d ih =>
      intro i hi
      refine br_f (nI_ge (b := 24) (by omega) (by omega)) ⟨vp_in_nI (by omega) (by omega), ?_⟩
      exact nm_r (e' := sm_z CE (i + 1)) (by rw [nb_cl (by omega), sm_zs]) (nm_r (nI_1 i) (ih (i + 1) (by omega)))
  have H12 : ∀ d i, i + d = 8 → wY_clear_12 post (nI 0) 0 (d + 1) (nI i) K A B C (sm_z SV i) (sm_z VR i) CE KP LF cl rc wy tm := by
    intro d
    induction d with
    | zero =>
      intro i hi
      have e : i = 8 := by omega
      subst e
      have L := H40 24 0 rfl
      rw [sm_z0] at L
      exact br_t (nI_le (a := 8) (by omega) (by omega)) ⟨25, L⟩
    | succ d ih =>
      intro i hi
      have hin : vp_in (nI i) 8 := vp_in_nI (by omega) (by omega)
      refine br_f (nI_ge (b := 8) (by omega) (by omega)) ⟨hin, ?_⟩
      refine nm_r (e' := sm_z SV (i + 1)) (by rw [nb_cl (by omega), sm_zs]) ⟨hin, ?_⟩
      exact nm_r (e' := sm_z VR (i + 1)) (by rw [nb_cl (by omega), sm_zs]) (nm_r (nI_1 i) (ih (i + 1) (by omega)))
  have L := H12 8 0 rfl
  rw [sm_z0, sm_z0] at L
  exact ⟨9, L⟩
theorem i_vc_clear {k : Nat} {u : SX} {v : SY} (I : i_Rel k u v) (hk : k + 5 ≤ 2560) : wpX_clear (fun u' => wpY_clear (fun v' => i_Rel (k + 5) u' v') v) u := by
  obtain ⟨s, c, cp, K, A, B, C, SV, VR, CE, KP, LF, oa, pa, ow, ba, re, rt, co, ps, wt, cl, rc, wy, tm, rfl, rfl, hs, hc, ok⟩ := I
  refine sm_clearX (sm_clearY ?_)
  exact re_mk (s := 0) (c := 0) (by omega) (by omega) (fun i hi => absurd hi (Nat.not_lt_zero _))
end SM
end
section
section MC
/-! the machine, as a picture: where it stands, its piece, rounds left, return addresses (0: none), variables, cells, kept, count -/
abbrev mc_D : Type := (Nat → Int32) × (Nat → Int32) × (Nat → Int32) × Nat
abbrev mc_M : Type := Nat × Nat × (Nat → Int32) × (Nat → Nat) × mc_D
def mc_ix (B C VR : Nat → Int32) (i : Nat) : Nat := ((B i * 8) + ((VR (C i).toNatClampNeg) &&& 7)).toNatClampNeg
def mc_d (K A B C : Nat → Int32) (i : Nat) (d : mc_D) : mc_D :=
  if K i = 0 then (upd d.1 (pg_ar A i) (B i), d.2.1, d.2.2.1, d.2.2.2)
  else if K i = 1 then (upd d.1 (pg_ar A i) (d.1 (B i).toNatClampNeg + d.1 (C i).toNatClampNeg), d.2.1, d.2.2.1, d.2.2.2)
  else if K i = 2 then (upd d.1 (pg_ar A i) (d.1 (B i).toNatClampNeg - d.1 (C i).toNatClampNeg), d.2.1, d.2.2.1, d.2.2.2)
  else if K i = 3 then (upd d.1 (pg_ar A i) (d.1 (B i).toNatClampNeg * d.1 (C i).toNatClampNeg), d.2.1, d.2.2.1, d.2.2.2)
  else if K i = 4 then (upd d.1 (pg_ar A i) (d.2.1 (mc_ix B C d.1 i)), d.2.1, d.2.2.1, d.2.2.2)
  else if K i = 5 then (d.1, upd d.2.1 (mc_ix B C d.1 i) (d.1 (pg_ar A i)), d.2.2.1, d.2.2.2)
  else if K i = 10 then (d.1, d.2.1, if d.2.2.2 < 48 then upd d.2.2.1 d.2.2.2 (d.1 (pg_ar A i)) else d.2.2.1, d.2.2.2 + 1)
  else d
def mc_u (f : Nat → Nat) (k x : Nat) : Nat → Nat := fun j => if j = k then x else f j
theorem mc_us {f : Nat → Nat} {k x : Nat} : mc_u f k x k = x := if_pos rfl
theorem mc_un {f : Nat → Nat} {k j x : Nat} (h : j ≠ k) : mc_u f k x j = f j := if_neg h
def mc_s (K A B C : Nat → Int32) (s : Nat) (en : Nat → Nat) (m : mc_M) : mc_M :=
  if m.1 < s ∧ ¬ K m.1 = 11 then
    if K m.1 = 6 then (if m.2.2.2.2.1 (pg_ar A m.1) ≤ 0 then en m.1 + 1 else m.1 + 1, m.2.1, m.2.2.1, m.2.2.2.1, m.2.2.2.2)
    else if K m.1 = 7 then (m.1 + 1, m.2.1, upd m.2.2.1 m.1 (A m.1), m.2.2.2.1, m.2.2.2.2)
    else if K m.1 = 8 then
      if K (en m.1) = 7 then (if m.2.2.1 (en m.1) - 1 ≤ 0 then m.1 + 1 else en m.1 + 1, m.2.1, upd m.2.2.1 (en m.1) (m.2.2.1 (en m.1) - 1), m.2.2.2.1, m.2.2.2.2)
      else (m.1 + 1, m.2.1, m.2.2.1, m.2.2.2.1, m.2.2.2.2)
    else if K m.1 = 9 then (pg_lb K A (pg_ar A m.1) s, pg_ar A m.1, m.2.2.1, mc_u m.2.2.2.1 (pg_ar A m.1) (m.1 + 1), m.2.2.2.2)
    else (m.1 + 1, m.2.1, m.2.2.1, m.2.2.2.1, mc_d K A B C m.1 m.2.2.2.2)
  else if m.2.1 = 4 then m else (m.2.2.2.1 m.2.1, pg_pw K A (m.2.2.2.1 m.2.1), m.2.2.1, m.2.2.2.1, m.2.2.2.2)
def mc_it (K A B C : Nat → Int32) (s : Nat) (en : Nat → Nat) : Nat → mc_M → mc_M
  | 0, m => m
  | n + 1, m => mc_it K A B C s en n (mc_s K A B C s en m)
def mc_h (K : Nat → Int32) (s : Nat) (m : mc_M) : Prop := ¬ (m.1 < s ∧ ¬ K m.1 = 11) ∧ m.2.1 = 4
theorem mc_h_s {K A B C : Nat → Int32} {s : Nat} {en : Nat → Nat} {m : mc_M} (h : mc_h K s m) : mc_s K A B C s en m = m := by
  unfold mc_s; rw [if_neg h.1, if_pos h.2]
theorem mc_h_it {K A B C : Nat → Int32} {s : Nat} {en : Nat → Nat} {m : mc_M} (h : mc_h K s m) : ∀ n, mc_it K A B C s en n m = m := by
  intro n
  induction n with
  | zero => rfl
  | succ n ih => show mc_it K A B C s en n (mc_s K A B C s en m) = m; rw [mc_h_s h]; exact ih
theorem mc_add {K A B C : Nat → Int32} {s : Nat} {en : Nat → Nat} : ∀ a b m, mc_it K A B C s en (a + b) m = mc_it K A B C s en b (mc_it K A B C s en a m) := by
  intro a
  induction a with
  | zero => intro b m; rw [Nat.zero_add]; rfl
  | succ a ih =>
    intro b m
    rw [show a + 1 + b = a + b + 1 by omega]
    exact ih b (mc_s K A B C s en m)
theorem mc_1 {K A B C : Nat → Int32} {s : Nat} {en : Nat → Nat} (b : Nat) (m : mc_M) : mc_it K A B C s en (1 + b) m = mc_it K A B C s en b (mc_s K A B C s en m) := by
  rw [mc_add]; rfl
variable {K A B C : Nat → Int32} {s : Nat} {en : Nat → Nat} {i p : Nat} {LF : Nat → Int32} {cl : Nat → Nat} {d : mc_D}
theorem mc_ne {a b : Int32} {i : Nat} (h : K i = a) (n : ¬ a = b) : ¬ K i = b := fun z => n (h.symm.trans z)
theorem mc_6 (hi : i < s) (h : K i = 6) : mc_s K A B C s en (i, p, LF, cl, d) = (if d.1 (pg_ar A i) ≤ 0 then en i + 1 else i + 1, p, LF, cl, d) := by
  show (if i < s ∧ ¬ K i = 11 then _ else _) = _
  rw [if_pos ⟨hi, mc_ne h (by decide)⟩, if_pos h]
theorem mc_7 (hi : i < s) (h : K i = 7) : mc_s K A B C s en (i, p, LF, cl, d) = (i + 1, p, upd LF i (A i), cl, d) := by
  show (if i < s ∧ ¬ K i = 11 then _ else _) = _
  rw [if_pos ⟨hi, mc_ne h (by decide)⟩, if_neg (mc_ne h (by decide)), if_pos h]
theorem mc_8l (hi : i < s) (h : K i = 8) (h7 : K (en i) = 7) : mc_s K A B C s en (i, p, LF, cl, d) = (if LF (en i) - 1 ≤ 0 then i + 1 else en i + 1, p, upd LF (en i) (LF (en i) - 1), cl, d) := by
  show (if i < s ∧ ¬ K i = 11 then _ else _) = _
  rw [if_pos ⟨hi, mc_ne h (by decide)⟩, if_neg (mc_ne h (by decide)), if_neg (mc_ne h (by decide)), if_pos h, if_pos h7]
theorem mc_8i (hi : i < s) (h : K i = 8) (h7 : ¬ K (en i) = 7) : mc_s K A B C s en (i, p, LF, cl, d) = (i + 1, p, LF, cl, d) := by
  show (if i < s ∧ ¬ K i = 11 then _ else _) = _
  rw [if_pos ⟨hi, mc_ne h (by decide)⟩, if_neg (mc_ne h (by decide)), if_neg (mc_ne h (by decide)), if_pos h, if_neg h7]
theorem mc_9 (hi : i < s) (h : K i = 9) : mc_s K A B C s en (i, p, LF, cl, d) = (pg_lb K A (pg_ar A i) s, pg_ar A i, LF, mc_u cl (pg_ar A i) (i + 1), d) := by
  show (if i < s ∧ ¬ K i = 11 then _ else _) = _
  rw [if_pos ⟨hi, mc_ne h (by decide)⟩, if_neg (mc_ne h (by decide)), if_neg (mc_ne h (by decide)), if_neg (mc_ne h (by decide)), if_pos h]
theorem mc_p (hi : i < s) (o : ¬ pg_op K i) (h8 : ¬ K i = 8) (h9 : ¬ K i = 9) (hb : ¬ K i = 11) : mc_s K A B C s en (i, p, LF, cl, d) = (i + 1, p, LF, cl, mc_d K A B C i d) := by
  show (if i < s ∧ ¬ K i = 11 then _ else _) = _
  rw [if_pos ⟨hi, hb⟩, if_neg (fun z => o (Or.inl z)), if_neg (fun z => o (Or.inr z)), if_neg h8, if_neg h9]
theorem mc_l (hi : i < s → K i = 11) (h4 : ¬ p = 4) : mc_s K A B C s en (i, p, LF, cl, d) = (cl p, pg_pw K A (cl p), LF, cl, d) := by
  show (if i < s ∧ ¬ K i = 11 then _ else _) = _
  rw [if_neg (fun z => z.2 (hi z.1))]
  show (if p = 4 then _ else _) = _
  rw [if_neg h4]
/-- what a program without fault gives -/
def mc_H (K A : Nat → Int32) (s : Nat) (en : Nat → Nat) : Prop := pg_g K A s ∧ pg_wf K s ∧ pg_nt K A s ∧ pg_nm K A s ∧ ¬ wa_rec K A s ∧ (∀ e, e < s → K e = 8 → pg_mt K (en e) e) ∧ (∀ q, q < s → pg_op K q → en q < s ∧ pg_mt K q (en q))
theorem mc_mtu {q q' e : Nat} (h : pg_mt K q e) (h' : pg_mt K q' e) : q = q' := by
  obtain ⟨a1, _, _, a4, a5⟩ := h
  obtain ⟨b1, _, _, b4, b5⟩ := h'
  rcases Nat.lt_trichotomy q q' with z | z | z
  · have := a5 q' z (by omega); omega
  · exact z
  · have := b5 q z (by omega); omega
theorem mc_nb {q e : Nat} (w : pg_wp K s) (hes : e < s) (h : pg_mt K q e) : ∀ k, q ≤ k → k < e + 1 → ¬ K k = 11 := by
  intro k h1 h2 hb
  by_cases z : k = q
  · subst z; exact (pc_k11 hb).1 h.2.1
  · have := h.2.2.2.2 k (by omega) (by omega)
    have := (w k (by omega)).1 hb
    omega
theorem mc_pwe {q e : Nat} (w : pg_wp K s) (hes : e < s) (h : pg_mt K q e) : pg_pw K A (e + 1) = pg_pw K A q :=
  pg_pw_run (e + 1) (by have := h.1; omega) (mc_nb w hes h)
theorem mc_pwq {q e : Nat} (h : pg_mt K q e) : pg_pw K A (q + 1) = pg_pw K A q :=
  pg_pw_n (fun z => (pc_k11 z).1 h.2.1)
theorem mc_pwi {q e : Nat} (w : pg_wp K s) (hes : e < s) (h : pg_mt K q e) : pg_pw K A e = pg_pw K A q :=
  pg_pw_run e (by have := h.1; omega) (fun j j1 j2 => mc_nb w hes h j j1 (by omega))
/-- what holds at every step -/
def mc_I (K A : Nat → Int32) (s : Nat) (m : mc_M) : Prop := m.1 ≤ s ∧ pg_pw K A m.1 = m.2.1 ∧ (m.2.1 = 4 ∨ m.2.2.2.1 m.2.1 ≠ 0) ∧ ∀ t, t < 4 → m.2.2.2.1 t ≠ 0 → m.2.2.2.1 t ≤ s ∧ (pg_pw K A (m.2.2.2.1 t) = 4 ∨ m.2.2.2.1 (pg_pw K A (m.2.2.2.1 t)) ≠ 0)
theorem mc_at (H : mc_H K A s en) (I : mc_I K A s (i, p, LF, cl, d)) {j : Nat} {LF' : Nat → Int32} {d' : mc_D} (hj : j ≤ s) (e : pg_pw K A j = pg_pw K A i) : mc_I K A s (j, p, LF', cl, d') :=
  ⟨hj, e.trans I.2.1, I.2.2.1, I.2.2.2⟩
theorem mc_I_s (H : mc_H K A s en) (I : mc_I K A s (i, p, LF, cl, d)) : mc_I K A s (mc_s K A B C s en (i, p, LF, cl, d)) := by
  have G := H.1
  have w := H.2.1.1
  by_cases z : i < s ∧ ¬ K i = 11
  · obtain ⟨hi, hb⟩ := z
    have nx : pg_pw K A (i + 1) = pg_pw K A i := pg_pw_n hb
    by_cases k6 : K i = 6
    · obtain ⟨h1, h2⟩ := H.2.2.2.2.2.2 i hi (Or.inl k6)
      rw [mc_6 hi k6]
      by_cases y : d.1 (pg_ar A i) ≤ 0
      · rw [if_pos y]; exact mc_at H I (by omega) (mc_pwe w h1 h2)
      · rw [if_neg y]; exact mc_at H I (by omega) nx
    by_cases k7 : K i = 7
    · rw [mc_7 hi k7]; exact mc_at H I (by omega) nx
    by_cases k8 : K i = 8
    · have h2 := H.2.2.2.2.2.1 i hi k8
      by_cases y : K (en i) = 7
      · rw [mc_8l hi k8 y]
        by_cases x : LF (en i) - 1 ≤ 0
        · rw [if_pos x]; exact mc_at H I (by omega) nx
        · rw [if_neg x]
          exact mc_at H I (by have := h2.1; omega) ((mc_pwq h2).trans (mc_pwi w hi h2).symm)
      · rw [mc_8i hi k8 y]; exact mc_at H I (by omega) nx
    by_cases k9 : K i = 9
    · rw [mc_9 hi k9]
      have a4 := ((G i hi).2.1 (Or.inl k9)).1
      have nz := H.2.2.2.1 i hi k9
      have hb' := pg_lb_b s nz
      have hl := pg_lb_le (K := K) (A := A) (t := pg_ar A i) s
      have e : pg_pw K A (pg_lb K A (pg_ar A i) s) = pg_ar A i := by
        obtain ⟨f, hf⟩ : ∃ f, pg_lb K A (pg_ar A i) s = f + 1 := ⟨pg_lb K A (pg_ar A i) s - 1, by omega⟩
        rw [hf] at hb' ⊢
        simp only [Nat.add_sub_cancel] at hb'
        rw [pg_pw_b hb'.1]; exact hb'.2
      have nn : ∀ x, (x = 4 ∨ cl x ≠ 0) → x = 4 ∨ mc_u cl (pg_ar A i) (i + 1) x ≠ 0 := by
        intro x hx
        by_cases y : x = pg_ar A i
        · subst y; rw [mc_us]; exact Or.inr (by omega)
        · rw [mc_un y]; exact hx
      refine ⟨hl, e, Or.inr (by show mc_u cl (pg_ar A i) (i + 1) (pg_ar A i) ≠ 0; rw [mc_us]; omega), ?_⟩
      intro t ht
      show mc_u cl (pg_ar A i) (i + 1) t ≠ 0 → mc_u cl (pg_ar A i) (i + 1) t ≤ s ∧ (pg_pw K A (mc_u cl (pg_ar A i) (i + 1) t) = 4 ∨ mc_u cl (pg_ar A i) (i + 1) (pg_pw K A (mc_u cl (pg_ar A i) (i + 1) t)) ≠ 0)
      by_cases y : t = pg_ar A i
      · subst y; rw [mc_us]; intro _
        refine ⟨by omega, nn _ ?_⟩
        rw [nx, show pg_pw K A i = p from I.2.1]; exact I.2.2.1
      · rw [mc_un y]; intro hx
        have J := I.2.2.2 t ht hx
        exact ⟨J.1, nn _ J.2⟩
    · rw [mc_p hi (fun x => x.elim k6 k7) k8 k9 hb]; exact mc_at H I (by omega) nx
  · by_cases h4 : p = 4
    · rw [mc_h_s ⟨z, h4⟩]; exact I
    · have hx : cl p ≠ 0 := (show p = 4 ∨ cl p ≠ 0 from I.2.2.1).resolve_left h4
      rw [mc_l (fun y => Classical.byContradiction fun x => z ⟨y, x⟩) h4]
      have hp := pg_pw4 G i I.1
      rw [show pg_pw K A i = p from I.2.1] at hp
      have J := I.2.2.2 p (by omega) hx
      exact ⟨J.1, rfl, J.2, I.2.2.2⟩
end MC
end
section
section BS
/-! how long the machine runs: at most three steps for each unit of weight -/
variable {K A B C : Nat → Int32} {s : Nat} {en : Nat → Nat} {w : Nat → Nat} {p : Nat}
abbrev bs_R (K A : Nat → Int32) (s : Nat) (p t : Nat) : Prop := wa_P (wa_dc K A s) 4 p t
theorem bs_R4 (g : pg_g K A s) : ∀ k p t, wa_P (wa_dc K A s) k p t → t < 4 := by
  intro k
  induction k with
  | zero => intro p t h; exact wd_dc4 g h
  | succ k ih =>
    intro p t h
    rcases h with h | h
    · exact ih p t h
    · exact ih k t h.2
theorem bs_irr (H : mc_H K A s en) (p : Nat) : ¬ bs_R K A s p p := by
  intro h
  exact H.2.2.2.2.1 ⟨p, bs_R4 H.1 4 p p h, h⟩
def bs_sg (K A : Nat → Int32) (s p i j : Nat) : Prop := i ≤ j ∧ j ≤ s ∧ pg_dp K j = pg_dp K i ∧ (∀ k, i ≤ k → k ≤ j → pg_dp K i ≤ pg_dp K k) ∧ (∀ k, i ≤ k → k < j → ¬ K k = 11 ∧ pg_pw K A (k + 1) = p)
def bs_fr (K A : Nat → Int32) (s p i j : Nat) (LF : Nat → Int32) (cl : Nat → Nat) (LF' : Nat → Int32) (cl' : Nat → Nat) : Prop :=
  (∀ t, ¬ bs_R K A s p t → cl' t = cl t) ∧ (∀ o, (o < i ∨ j ≤ o) → ¬ bs_R K A s p (pg_pw K A (o + 1)) → LF' o = LF o)
theorem bs_fr_0 {i j : Nat} {LF : Nat → Int32} {cl : Nat → Nat} : bs_fr K A s p i j LF cl LF cl := ⟨fun _ _ => rfl, fun _ _ _ => rfl⟩
theorem bs_fr_t {i j a b a' b' : Nat} {LF LF' LF'' : Nat → Int32} {cl cl' cl'' : Nat → Nat} (h : bs_fr K A s p a b LF cl LF' cl') (h' : bs_fr K A s p a' b' LF' cl' LF'' cl'') (h1 : i ≤ a) (h2 : b ≤ j) (h3 : i ≤ a') (h4 : b' ≤ j) : bs_fr K A s p i j LF cl LF'' cl'' :=
  ⟨fun t ht => (h'.1 t ht).trans (h.1 t ht), fun o ho hr => (h'.2 o (by omega) hr).trans (h.2 o (by omega) hr)⟩
theorem bs_fr_u {q : Nat} {LF : Nat → Int32} {cl : Nat → Nat} {x : Int32} : bs_fr K A s p q (q + 1) LF cl (upd LF q x) cl :=
  ⟨fun _ _ => rfl, fun o ho _ => pk_un (by omega)⟩
def bs_go (K A B C : Nat → Int32) (s : Nat) (en : Nat → Nat) (w : Nat → Nat) (p i j : Nat) : Prop := ∀ LF cl d, ∃ k LF' cl' d',
  3 * we_S K A w p i + k * we_pf K A i ≤ 3 * we_S K A w p j ∧ mc_it K A B C s en k (i, p, LF, cl, d) = (j, p, LF', cl', d') ∧ bs_fr K A s p i j LF cl LF' cl'
def bs_pc (K A B C : Nat → Int32) (s : Nat) (en : Nat → Nat) (w : Nat → Nat) (t f e : Nat) : Prop := ∀ LF cl d, ∃ k LF' cl' d',
  k ≤ 3 * w t ∧ mc_it K A B C s en k (f, t, LF, cl, d) = (e, t, LF', cl', d') ∧ (∀ x, ¬ bs_R K A s t x → cl' x = cl x) ∧ (∀ o, ¬ pg_pw K A (o + 1) = t → ¬ bs_R K A s t (pg_pw K A (o + 1)) → LF' o = LF o)
theorem bs_mono {i : Nat} : ∀ j, i ≤ j → we_S K A w p i ≤ we_S K A w p j := by
  intro j
  induction j with
  | zero => intro h; rw [show i = 0 by omega]; exact Nat.le_refl _
  | succ j ih =>
    intro h
    by_cases z : i = j + 1
    · rw [z]; exact Nat.le_refl _
    · have := ih (by omega)
      by_cases y : pg_pw K A (j + 1) = p
      · rw [we_S_y y]; omega
      · rw [we_S_n y]; exact this
theorem bs_a1 {a b P k1 : Nat} (h : 3 * a + k1 * P ≤ 3 * b) : 3 * (1 * a) + (k1 + 1) * P ≤ 3 * (1 * b) + 1 * P := by
  rw [Nat.add_mul]; omega
theorem bs_a2 {a b P k1 k2 c : Nat} (h : 3 * a + k1 * P ≤ 3 * b) (h' : 3 * (c * a) + k2 * P ≤ 3 * (c * b) + c * P) : 3 * ((c + 1) * a) + (k1 + (1 + k2)) * P ≤ 3 * ((c + 1) * b) + (c + 1) * P := by
  rw [Nat.add_mul, Nat.add_mul, Nat.add_mul, Nat.add_mul, Nat.add_mul]; omega
theorem bs_a3 {a b P k c : Nat} (hc : 0 < c) (h : 3 * (c * a) + k * (P * c) ≤ 3 * (c * b) + c * (P * c)) : 3 * a + k * P ≤ 3 * b + c * P := by
  refine Nat.le_of_mul_le_mul_left (?_ : c * (3 * a + k * P) ≤ c * (3 * b + c * P)) hc
  have e1 : c * (3 * a + k * P) = 3 * (c * a) + k * (P * c) := by
    rw [Nat.mul_add, Nat.mul_left_comm, Nat.mul_left_comm c k P, Nat.mul_comm c P]
  have e2 : c * (3 * b + c * P) = 3 * (c * b) + c * (P * c) := by
    rw [Nat.mul_add, Nat.mul_left_comm, Nat.mul_comm c P]
  rw [e1, e2]; exact h
theorem bs_loop (H : mc_H K A s en) {q : Nat} (hq : q < s) (k7 : K q = 7) (hp : pg_pw K A (q + 1) = p) (body : bs_go K A B C s en w p (q + 1) (en q)) : ∀ c, 1 ≤ c → c ≤ 5 → ∀ LF cl d, LF q = nI c → ∃ k LF' cl' d',
    3 * (c * we_S K A w p (q + 1)) + k * we_pf K A (q + 1) ≤ 3 * (c * we_S K A w p (en q)) + c * we_pf K A (q + 1) ∧ mc_it K A B C s en k (q + 1, p, LF, cl, d) = (en q + 1, p, LF', cl', d') ∧ bs_fr K A s p q (en q + 1) LF cl LF' cl' := by
  obtain ⟨hes, mt⟩ := H.2.2.2.2.2.2 q hq (Or.inr k7)
  have k8 := mt.2.2.1
  have een : en (en q) = q := mc_mtu (H.2.2.2.2.2.1 (en q) hes k8) mt
  have hqe := mt.1
  intro c
  induction c with
  | zero => intro h; omega
  | succ c ih =>
    intro _ h5 LF cl d hL
    obtain ⟨k1, LF1, cl1, d1, b1, e1, f1⟩ := body LF cl d
    have hL1 : LF1 q = nI (c + 1) := (f1.2 q (Or.inl (by omega)) (by rw [hp]; exact bs_irr H p)).trans hL
    have e2 : mc_it K A B C s en 1 (en q, p, LF1, cl1, d1) = (if nI c ≤ 0 then en q + 1 else q + 1, p, upd LF1 q (nI c), cl1, d1) := by
      show mc_s K A B C s en _ = _
      rw [mc_8l hes k8 (by rw [een]; exact k7), een, hL1, nI_pred]
    have f2 : bs_fr K A s p q (en q + 1) LF cl (upd LF1 q (nI c)) cl1 := bs_fr_t f1 bs_fr_u (by omega) (by omega) (by omega) (by omega)
    by_cases z : c = 0
    · subst z
      rw [if_pos (by decide)] at e2
      exact ⟨k1 + 1, _, _, _, bs_a1 b1, by rw [mc_add, e1]; exact e2, f2⟩
    · rw [if_neg (nI_nle (by omega) (by omega))] at e2
      obtain ⟨k2, LF2, cl2, d2, b2, e3, f3⟩ := ih (by omega) (by omega) (upd LF1 q (nI c)) cl1 d1 pk_us
      exact ⟨k1 + (1 + k2), LF2, cl2, d2, bs_a2 b1 b2, by rw [mc_add, e1, mc_add, e2]; exact e3, bs_fr_t f2 f3 (by omega) (by omega) (by omega) (by omega)⟩
theorem bs_c1 {a b P k : Nat} {x : Nat} (hx : 1 ≤ x) (h : 3 * (a + P * x) + k * P ≤ 3 * b) : 3 * a + (1 + k) * P ≤ 3 * b := by
  have : P * 1 ≤ P * x := Nat.mul_le_mul_left P hx
  rw [Nat.add_mul]; omega
theorem bs_c2 {a b c P k k' : Nat} (h : 3 * (a + P * 2) + k * P ≤ 3 * b) (h' : 3 * b + k' * P ≤ 3 * c) : 3 * a + (1 + (k + (1 + k'))) * P ≤ 3 * c := by
  rw [Nat.add_mul, Nat.add_mul, Nat.add_mul]; omega
theorem bs_c3 {a b c P k k' n : Nat} (hn : n ≤ 5) (h : 3 * (a + P * 2) + k * P ≤ 3 * b + n * P) (h' : 3 * b + k' * P ≤ 3 * c) : 3 * a + (1 + (k + k')) * P ≤ 3 * c := by
  have : n * P ≤ 5 * P := Nat.mul_le_mul_right P hn
  rw [Nat.add_mul, Nat.add_mul]; omega
theorem bs_c4 {a b P k k' x : Nat} (hk : k ≤ 3 * x) (h : 3 * (a + P * (1 + x)) + k' * P ≤ 3 * b) : 3 * a + (1 + (k + (1 + k'))) * P ≤ 3 * b := by
  have h1 : k * P ≤ 3 * x * P := Nat.mul_le_mul_right P hk
  have h2 : 3 * x * P = 3 * (P * x) := by rw [Nat.mul_assoc, Nat.mul_comm x P]
  rw [h2] at h1
  rw [Nat.mul_add P, Nat.mul_one] at h
  rw [Nat.add_mul, Nat.add_mul, Nat.add_mul]; omega
theorem bs_seg (H : mc_H K A s en) (PC : ∀ t, wa_dc K A s p t → ∃ e, (e < s → K e = 11) ∧ bs_pc K A B C s en w t (pg_lb K A t s) e) : ∀ n i j, j ≤ i + n → bs_sg K A s p i j → bs_go K A B C s en w p i j := by
  intro n
  induction n with
  | zero =>
    intro i j h sg LF cl d
    have e : i = j := by have := sg.1; omega
    subst e
    exact ⟨0, LF, cl, d, by omega, rfl, bs_fr_0⟩
  | succ n ih =>
    intro i j hn sg LF cl d
    obtain ⟨g1, g2, g3, g4, g5⟩ := sg
    by_cases z : i = j
    · subst z; exact ⟨0, LF, cl, d, by omega, rfl, bs_fr_0⟩
    · have hij : i < j := by omega
      have hi : i < s := by omega
      obtain ⟨hb, hpw⟩ := g5 i (Nat.le_refl _) hij
      have S1 := we_S_y (w := w) hpw
      have w' := H.2.1.1
      by_cases o : pg_op K i
      · obtain ⟨hes, mt⟩ := H.2.2.2.2.2.2 i hi o
        obtain ⟨hie, _, k8, hd, hk⟩ := id mt
        have een : en (en i) = i := mc_mtu (H.2.2.2.2.2.1 (en i) hes k8) mt
        have hej : en i < j := by
          apply Classical.byContradiction
          intro y
          have := hk j hij (by omega)
          omega
        have dpe : pg_dp K (en i) = pg_dp K (i + 1) := by
          have := hk (en i) hie (Nat.le_refl _)
          rw [pg_dp_end k8] at hd
          rw [pg_dp_op o]; omega
        have sgB : bs_sg K A s p (i + 1) (en i) := ⟨by omega, by omega, dpe, fun k h1 h2 => by have := hk k (by omega) h2; rw [pg_dp_op o]; omega, fun k h1 h2 => g5 k (by omega) (by omega)⟩
        have sgR : bs_sg K A s p (en i + 1) j := ⟨by omega, g2, by rw [hd]; exact g3, fun k h1 h2 => by rw [hd]; exact g4 k (by omega) h2, fun k h1 h2 => g5 k (by omega) h2⟩
        have gB := ih (i + 1) (en i) (by omega) sgB
        have gR := ih (en i + 1) j (by omega) sgR
        have pfR : we_pf K A (en i + 1) = we_pf K A i := we_pf_mt mt
        have pwE := (g5 (en i) (by omega) hej).2
        have SE : we_S K A w p (en i + 1) = we_S K A w p (en i) := by rw [we_S_y pwE, we_s_0 (Or.inl k8), Nat.mul_zero, Nat.add_zero]
        rw [we_s_op o] at S1
        by_cases k7 : K i = 7
        · obtain ⟨a1, a5, ea⟩ := (H.1 i hi).2.2 k7
          have e1 : mc_it K A B C s en 1 (i, p, LF, cl, d) = (i + 1, p, upd LF i (A i), cl, d) := mc_7 hi k7
          obtain ⟨k2, LF2, cl2, d2, b2, e2, f2⟩ := bs_loop H hi k7 hpw gB (pg_ar A i) a1 a5 (upd LF i (A i)) cl d (by rw [pk_us]; exact ea)
          obtain ⟨k3, LF3, cl3, d3, b3, e3, f3⟩ := gR LF2 cl2 d2
          rw [we_pf_op o, if_pos k7] at b2
          have b2' := bs_a3 (by omega) b2
          rw [S1] at b2'
          rw [SE, pfR] at b3
          refine ⟨1 + (k2 + k3), LF3, cl3, d3, bs_c3 a5 b2' b3, by rw [mc_add, e1, mc_add, e2]; exact e3, ?_⟩
          have F1 : bs_fr K A s p i j LF cl LF2 cl2 := bs_fr_t (bs_fr_u (q := i)) f2 (by omega) (by omega) (by omega) (by omega)
          exact bs_fr_t F1 f3 (by omega) (by omega) (by omega) (by omega)
        · have k6 : K i = 6 := o.resolve_right k7
          have e1 : mc_it K A B C s en 1 (i, p, LF, cl, d) = (if d.1 (pg_ar A i) ≤ 0 then en i + 1 else i + 1, p, LF, cl, d) := mc_6 hi k6
          by_cases y : d.1 (pg_ar A i) ≤ 0
          · rw [if_pos y] at e1
            obtain ⟨k3, LF3, cl3, d3, b3, e3, f3⟩ := gR LF cl d
            have m := bs_mono (K := K) (A := A) (w := w) (p := p) (i := i + 1) (en i) (by omega)
            rw [SE, pfR] at b3
            refine ⟨1 + k3, LF3, cl3, d3, ?_, by rw [mc_add, e1]; exact e3, bs_fr_t bs_fr_0 f3 (Nat.le_refl _) (Nat.le_refl _) (by omega) (by omega)⟩
            refine bs_c1 (x := 2) (by omega) ?_
            omega
          · rw [if_neg y] at e1
            obtain ⟨k2, LF2, cl2, d2, b2, e2, f2⟩ := gB LF cl d
            have e3 : mc_it K A B C s en 1 (en i, p, LF2, cl2, d2) = (en i + 1, p, LF2, cl2, d2) := mc_8i hes k8 (by rw [een]; exact k7)
            obtain ⟨k4, LF4, cl4, d4, b4, e4, f4⟩ := gR LF2 cl2 d2
            rw [we_pf_op o, if_neg k7, Nat.mul_one, S1] at b2
            rw [SE, pfR] at b4
            exact ⟨1 + (k2 + (1 + k4)), LF4, cl4, d4, bs_c2 b2 b4, by rw [mc_add, e1, mc_add, e2, mc_add, e3]; exact e4, bs_fr_t f2 f4 (by omega) (by omega) (by omega) (by omega)⟩
      · by_cases k8 : K i = 8
        · have h0 := (w' i hi).2.2 k8
          have := g4 (i + 1) (by omega) (by omega)
          rw [pg_dp_end k8] at this
          omega
        · have sgR : bs_sg K A s p (i + 1) j := by
            have e := pg_dp_no o k8
            exact ⟨by omega, g2, by rw [e]; exact g3, fun k h1 h2 => by rw [e]; exact g4 k (by omega) h2, fun k h1 h2 => g5 k (by omega) h2⟩
          have gR := ih (i + 1) j (by omega) sgR
          have pfR : we_pf K A (i + 1) = we_pf K A i := we_pf_no o k8
          by_cases k9 : K i = 9
          · have dc : wa_dc K A s p (pg_ar A i) := ⟨i, hi, k9, hpw, rfl⟩
            have a4 := wd_dc4 H.1 dc
            have hR : bs_R K A s p (pg_ar A i) := wa_up 0 4 (by omega) dc
            have hT : ∀ x, bs_R K A s (pg_ar A i) x → bs_R K A s p x := fun x hx => wa_tr 4 _ p x a4 hR hx
            obtain ⟨e, he, P⟩ := PC _ dc
            obtain ⟨k2, LF2, cl2, d2, b2, e2, f2, f3⟩ := P LF (mc_u cl (pg_ar A i) (i + 1)) d
            have e1 : mc_it K A B C s en 1 (i, p, LF, cl, d) = (pg_lb K A (pg_ar A i) s, pg_ar A i, LF, mc_u cl (pg_ar A i) (i + 1), d) := mc_9 hi k9
            have ec : cl2 (pg_ar A i) = i + 1 := (f2 _ (bs_irr H _)).trans mc_us
            have e3 : mc_it K A B C s en 1 (e, pg_ar A i, LF2, cl2, d2) = (i + 1, p, LF2, cl2, d2) := by
              show mc_s K A B C s en _ = _
              rw [mc_l he (by omega), ec, hpw]
            obtain ⟨k4, LF4, cl4, d4, b4, e4, f4⟩ := gR LF2 cl2 d2
            rw [S1, we_s_9 k9, pfR] at b4
            refine ⟨1 + (k2 + (1 + k4)), LF4, cl4, d4, bs_c4 b2 b4, by rw [mc_add, e1, mc_add, e2, mc_add, e3]; exact e4, ?_⟩
            have F : bs_fr K A s p i j LF cl LF2 cl2 := by
              refine ⟨fun t ht => ?_, fun o ho hr => ?_⟩
              · rw [f2 t (fun x => ht (hT t x)), mc_un (fun x => ht (by rw [x]; exact hR))]
              · exact f3 o (fun x => hr (by rw [x]; exact hR)) (fun x => hr (hT _ x))
            exact bs_fr_t F f4 (by omega) (by omega) (by omega) (by omega)
          · have e1 : mc_it K A B C s en 1 (i, p, LF, cl, d) = (i + 1, p, LF, cl, mc_d K A B C i d) := mc_p hi o k8 k9 hb
            obtain ⟨k4, LF4, cl4, d4, b4, e4, f4⟩ := gR LF cl (mc_d K A B C i d)
            rw [S1, we_s_1 o k8 k9 hb, pfR] at b4
            exact ⟨1 + k4, LF4, cl4, d4, bs_c1 (Nat.le_refl 1) b4, by rw [mc_add, e1]; exact e4, bs_fr_t bs_fr_0 f4 (Nat.le_refl _) (Nat.le_refl _) (by omega) (by omega)⟩
theorem bs_piece (H : mc_H K A s en) (D5 : ∀ p, wd_D K A s 5 p) : ∀ l t f e, wd_D K A s l t → pc_at K A s t f e → bs_pc K A B C s en (we_W K A s 5) t f e := by
  intro l
  induction l with
  | zero => intro t f e h; exact h.elim
  | succ l ih =>
    intro t f e D P LF cl d
    have PC : ∀ x, wa_dc K A s t x → ∃ e, (e < s → K e = 11) ∧ bs_pc K A B C s en (we_W K A s 5) x (pg_lb K A x s) e := by
      intro x hx
      have x4 := wd_dc4 H.1 hx
      obtain ⟨e', P'⟩ := pc_ex H.1 H.2.1 (H.2.2.1 x x4) x4
      obtain ⟨j, j1, j2, j3, j4⟩ := id hx
      have nz := H.2.2.2.1 j j1 j2
      rw [j4] at nz
      have ee : yw_pl K A s x = pg_lb K A x s := if_neg nz
      rw [ee] at P'
      exact ⟨e', P'.2.2.1, ih x _ e' (D x hx) P'⟩
    have hde : pg_dp K e = 0 := by
      by_cases y : e = s
      · rw [y]; exact H.2.1.2
      · have hes : e < s := by have := P.2.1; omega
        exact (H.2.1.1 e hes).1 (P.2.2.1 hes)
    have sg : bs_sg K A s t f e := ⟨P.1, P.2.1, by rw [hde, P.2.2.2.1], fun k _ _ => by rw [P.2.2.2.1]; exact Nat.zero_le _, P.2.2.2.2.1⟩
    obtain ⟨k, LF', cl', d', b, e1, f1⟩ := bs_seg H PC (e - f) f e (by omega) sg LF cl d
    have pf1 : we_pf K A f = 1 := by show we_T K A f (pg_dp K f) = 1; rw [P.2.2.2.1]; exact we_T_0 f
    rw [pf1, pc_lo P, ← pc_hi P, we_fix5 (D5 t)] at b
    refine ⟨k, LF', cl', d', by omega, e1, f1.1, fun o ho hr => f1.2 o ?_ hr⟩
    apply Classical.byContradiction
    intro y
    exact ho (P.2.2.2.2.1 o (by omega) (by omega)).2
theorem bs_main (H : mc_H K A s en) (D5 : ∀ p, wd_D K A s 5 p) (h : we_W K A s 5 4 ≤ 3000) (LF : Nat → Int32) (cl : Nat → Nat) (d : mc_D) : ∃ T, T ≤ 9000 ∧ mc_h K s (mc_it K A B C s en T (0, 4, LF, cl, d)) := by
  obtain ⟨e, P⟩ := pc_ex4 (K := K) (A := A) (s := s) H.1
  obtain ⟨k, LF', cl', d', b, e1, _⟩ := bs_piece (B := B) (C := C) H D5 5 4 0 e (D5 4) P LF cl d
  refine ⟨k, by omega, ?_⟩
  rw [e1]
  exact ⟨fun z => z.2 (P.2.2.1 z.1), rfl⟩
end BS
end
section
section BW
/-! the weight as a number: it never wraps -/
variable {K A : Nat → Int32} {s : Nat}
theorem bw_T (g : pg_g K A s) : ∀ i, i ≤ s → ∀ j, we_T K A i j ≤ 5 ^ j := by
  intro i
  induction i with
  | zero => intro _ j; exact Nat.one_le_pow _ _ (by omega)
  | succ i ih =>
    intro hi j
    by_cases z : pg_op K i ∧ j = pg_dp K i + 1
    · rw [z.2, we_T_y z.1, Nat.pow_succ]
      refine Nat.mul_le_mul (ih (by omega) _) ?_
      by_cases k7 : K i = 7
      · rw [if_pos k7]; exact ((g i (by omega)).2.2 k7).2.1
      · rw [if_neg k7]; omega
    · rw [we_T_n z]; exact ih (by omega) j
theorem bw_pf (g : pg_g K A s) (w : pg_wp K s) {i : Nat} (hi : i ≤ s) : we_pf K A i ≤ 125 :=
  Nat.le_trans (bw_T g i hi _) (Nat.pow_le_pow_right (by omega) (pg_dp3 w i hi) : 5 ^ pg_dp K i ≤ 5 ^ 3)
noncomputable def bw_i (c : Prop) : Nat := @ite _ c (Classical.propDecidable c) 1 0
theorem bw_it {c : Prop} (h : c) : bw_i c = 1 := if_pos h
theorem bw_if {c : Prop} (h : ¬ c) : bw_i c = 0 := if_neg h
noncomputable def bw_n (P : Nat → Prop) : Nat → Nat
  | 0 => 0
  | k + 1 => bw_n P k + bw_i (P k)
theorem bw_y {P : Nat → Prop} {k : Nat} (h : P k) : bw_n P (k + 1) = bw_n P k + 1 := by
  show bw_n P k + bw_i (P k) = _; rw [bw_it h]
theorem bw_no {P : Nat → Prop} {k : Nat} (h : ¬ P k) : bw_n P (k + 1) = bw_n P k := by
  show bw_n P k + bw_i (P k) = _; rw [bw_if h]; rfl
theorem bw_le (P : Nat → Prop) : ∀ k, bw_n P k ≤ k := by
  intro k
  induction k with
  | zero => exact Nat.le_refl 0
  | succ k ih =>
    by_cases h : P k
    · rw [bw_y h]; omega
    · rw [bw_no h]; omega
theorem bw_sub {P Q : Nat → Prop} (h : ∀ k, P k → Q k) : ∀ k, bw_n P k ≤ bw_n Q k := by
  intro k
  induction k with
  | zero => exact Nat.le_refl 0
  | succ k ih =>
    by_cases a : P k
    · rw [bw_y a, bw_y (h k a)]; omega
    · rw [bw_no a]
      by_cases b : Q k
      · rw [bw_y b]; omega
      · rw [bw_no b]; exact ih
theorem bw_two {P Q R : Nat → Prop} (hp : ∀ k, P k → R k) (hq : ∀ k, Q k → R k) (d : ∀ k, P k → Q k → False) : ∀ k, bw_n P k + bw_n Q k ≤ bw_n R k := by
  intro k
  induction k with
  | zero => exact Nat.le_refl 0
  | succ k ih =>
    by_cases a : P k
    · rw [bw_y a, bw_no (fun b => d k a b), bw_y (hp k a)]; omega
    · rw [bw_no a]
      by_cases b : Q k
      · rw [bw_y b, bw_y (hq k b)]; omega
      · rw [bw_no b]
        by_cases c : R k
        · rw [bw_y c]; omega
        · rw [bw_no c]; exact ih
theorem bw_tab : ∀ n, n < 49 → 9 ^ n * (1 + 250 * n) ≤ 900 * 10 ^ n := by decide +kernel
theorem bw_pp (n : Nat) : 9 ^ n ≤ 10 ^ n := Nat.pow_le_pow_left (by omega) n
def bw_Q (l c x : Nat) : Prop := 9 ^ c * (1 + x) ≤ 900 ^ l * 10 ^ c
theorem bw_Qc {l c x e : Nat} (h : bw_Q l c x) : bw_Q l (c + e) x := by
  unfold bw_Q at h ⊢
  rw [Nat.pow_add, Nat.pow_add, Nat.mul_right_comm, ← Nat.mul_assoc]
  exact Nat.mul_le_mul h (bw_pp e)
theorem bw_Qm {l c c' x : Nat} (h : bw_Q l c x) (hc : c ≤ c') : bw_Q l c' x := by
  obtain ⟨e, rfl⟩ : ∃ e, c' = c + e := ⟨c' - c, by omega⟩
  exact bw_Qc h
theorem bw_Ql {l c x : Nat} (h : bw_Q l c x) : bw_Q (l + 1) c x := by
  unfold bw_Q at h ⊢
  refine Nat.le_trans h (Nat.mul_le_mul_right _ ?_)
  rw [Nat.pow_succ]; exact Nat.le_mul_of_pos_right _ (by omega)
theorem bw_S (g : pg_g K A s) (w' : pg_wp K s) {w : Nat → Nat} {p l c : Nat} (h : ∀ t, wa_dc K A s p t → bw_Q l c (w t)) : ∀ k, k ≤ s → 9 ^ c * we_S K A w p k ≤ 250 * (900 ^ l * 10 ^ c) * bw_n (fun i => pg_pw K A (i + 1) = p) k := by
  have V1 : 9 ^ c ≤ 900 ^ l * 10 ^ c := Nat.le_trans (bw_pp c) (Nat.le_mul_of_pos_left _ (Nat.pow_pos (by omega)))
  intro k
  induction k with
  | zero => intro _; show 9 ^ c * 0 ≤ _; rw [Nat.mul_zero]; exact Nat.zero_le _
  | succ k ih =>
    intro hk
    have I := ih (by omega)
    by_cases y : pg_pw K A (k + 1) = p
    · rw [we_S_y y, bw_y (P := fun i => pg_pw K A (i + 1) = p) y]
      have hs : 9 ^ c * we_s K A w k ≤ 2 * (900 ^ l * 10 ^ c) := by
        by_cases o : pg_op K k
        · rw [we_s_op o]; omega
        · by_cases z : K k = 8 ∨ K k = 11
          · rw [we_s_0 z]; omega
          · by_cases k9 : K k = 9
            · rw [we_s_9 k9]
              have := h (pg_ar A k) ⟨k, by omega, k9, y, rfl⟩
              unfold bw_Q at this
              omega
            · rw [we_s_1 o (fun x => z (Or.inl x)) k9 (fun x => z (Or.inr x))]; omega
      have hp := bw_pf g w' (i := k) (by omega)
      have h1 : 9 ^ c * (we_pf K A k * we_s K A w k) ≤ 125 * (2 * (900 ^ l * 10 ^ c)) := by
        rw [Nat.mul_left_comm]
        exact Nat.mul_le_mul hp hs
      rw [Nat.mul_add, Nat.mul_add]
      omega
    · rw [we_S_n y, bw_no (P := fun i => pg_pw K A (i + 1) = p) y]; exact I
theorem bw_lev (g : pg_g K A s) (hs : s ≤ 48) (w' : pg_wp K s) (D5 : ∀ p, wd_D K A s 5 p) : ∀ l p, wd_D K A s l p → bw_Q l (bw_n (fun i => wd_D K A s l (pg_pw K A (i + 1))) s) (we_W K A s 5 p) := by
  intro l
  induction l with
  | zero => intro p h; exact h.elim
  | succ l ih =>
    intro p D
    by_cases z : wd_D K A s l p
    · exact bw_Qm (bw_Ql (ih p z)) (bw_sub (fun k hk => wd_mono1 _ _ hk) s)
    · have c2 := bw_two (P := fun i => wd_D K A s l (pg_pw K A (i + 1))) (Q := fun i => pg_pw K A (i + 1) = p) (R := fun i => wd_D K A s (l + 1) (pg_pw K A (i + 1)))
        (fun k hk => wd_mono1 _ _ hk) (fun k hk => by show wd_D K A s (l + 1) (pg_pw K A (k + 1)); rw [hk]; exact D) (fun k a b => z (by rw [← b]; exact a)) s
      have hb := bw_S g w' (w := we_W K A s 5) (p := p) (l := l) (c := bw_n (fun i => wd_D K A s l (pg_pw K A (i + 1))) s) (fun t ht => ih t (D t ht)) s (Nat.le_refl _)
      rw [we_fix5 (D5 p)] at hb
      refine bw_Qm ?_ c2
      have hn := bw_le (fun i => pg_pw K A (i + 1) = p) s
      revert hb hn
      generalize bw_n (fun i => pg_pw K A (i + 1) = p) s = n
      generalize bw_n (fun i => wd_D K A s l (pg_pw K A (i + 1))) s = c
      generalize we_W K A s 5 p = W
      intro hb hn
      have V1 : 9 ^ c ≤ 900 ^ l * 10 ^ c := Nat.le_trans (bw_pp c) (Nat.le_mul_of_pos_left _ (Nat.pow_pos (by omega)))
      have t := bw_tab n (by omega)
      have h1 : 9 ^ c * (1 + W) ≤ (900 ^ l * 10 ^ c) * (1 + 250 * n) := by
        rw [Nat.mul_add, Nat.mul_add, Nat.mul_one, Nat.mul_one]
        have : 250 * (900 ^ l * 10 ^ c) * n = 900 ^ l * 10 ^ c * (250 * n) := by rw [Nat.mul_comm 250, Nat.mul_assoc]
        omega
      unfold bw_Q
      have e1 : 9 ^ (c + n) * (1 + W) = 9 ^ n * (9 ^ c * (1 + W)) := by rw [Nat.pow_add, Nat.mul_comm (9 ^ c), Nat.mul_assoc]
      have e2 : 900 ^ (l + 1) * 10 ^ (c + n) = (900 ^ l * 10 ^ c) * (900 * 10 ^ n) := by rw [Nat.pow_add 10 c n, Nat.pow_succ 900 l, Nat.mul_assoc, Nat.mul_assoc, Nat.mul_left_comm 900]
      rw [e1, e2]
      refine Nat.le_trans (Nat.mul_le_mul_left _ h1) ?_
      rw [Nat.mul_left_comm]
      exact Nat.mul_le_mul_left _ t
theorem bw_num : 900 ^ 5 * 10 ^ 48 < 9 ^ 48 * (1 + 2 ^ 63) := by decide +kernel
theorem bw_main (g : pg_g K A s) (hs : s ≤ 48) (w' : pg_wp K s) (D5 : ∀ p, wd_D K A s 5 p) (h : lN (we_W K A s 5 4) ≤ 3000) : we_W K A s 5 4 ≤ 3000 := by
  have q := bw_Qm (bw_lev g hs w' D5 5 4 (D5 4)) (c' := 48) (Nat.le_trans (bw_le _ s) hs)
  have b : we_W K A s 5 4 < 2 ^ 63 := by
    apply Classical.byContradiction
    intro z
    unfold bw_Q at q
    have h1 : 9 ^ 48 * (1 + 2 ^ 63) ≤ 9 ^ 48 * (1 + we_W K A s 5 4) := Nat.mul_le_mul_left _ (by omega)
    exact absurd (Nat.lt_of_lt_of_le bw_num (Nat.le_trans h1 q)) (Nat.lt_irrefl _)
  exact (pk_lLE b (b := 3000) (by omega)).mp h
end BW
end
section
section XM
/-! X walks as the machine does -/
theorem xm_A {K A B C : Nat → Int32} {s i n : Nat} (ok : pg_ok K A B C s) (hi : i < s) (e : K i = nI n) (hn : n ≤ 11) (h : n ≤ 6 ∨ n = 10) : pg_ar A i < 8 ∧ A i = nI (pg_ar A i) ∧ vp_in (A i) 8 := by
  have v := ok i hi
  rw [e, re_vs hn] at v
  obtain ⟨j, hj, ea⟩ := v.2.2.1 h
  have c : pg_ar A i = j := by unfold pg_ar; rw [ea]; exact nb_cl (by omega)
  rw [c]; exact ⟨hj, ea, by rw [ea]; exact vp_in_nI hj (by omega)⟩
theorem xm_BC {K A B C : Nat → Int32} {s i n : Nat} (ok : pg_ok K A B C s) (hi : i < s) (e : K i = nI n) (hn : n ≤ 11) (h : 1 ≤ n ∧ n ≤ 3) : vp_in (B i) 8 ∧ vp_in (C i) 8 := by
  have v := ok i hi
  rw [e, re_vs hn] at v
  obtain ⟨⟨j, hj, eb⟩, ⟨j', hj', ec⟩⟩ := v.2.2.2.1 h
  rw [eb, ec]; exact ⟨vp_in_nI hj (by omega), vp_in_nI hj' (by omega)⟩
theorem xm_BC4 {K A B C : Nat → Int32} {s i n : Nat} (ok : pg_ok K A B C s) (hi : i < s) (e : K i = nI n) (hn : n ≤ 11) (h : n = 4 ∨ n = 5) (VR : Nat → Int32) : vp_in (C i) 8 ∧ vp_in ((B i * 8) + ((VR (C i).toNatClampNeg) &&& 7)) 24 := by
  have v := ok i hi
  rw [e, re_vs hn] at v
  obtain ⟨⟨j, hj, eb⟩, ⟨j', hj', ec⟩⟩ := v.2.2.2.2 h
  refine ⟨by rw [ec]; exact vp_in_nI hj' (by omega), ?_⟩
  obtain ⟨x, hx, ex⟩ := pk_andE (VR (C i).toNatClampNeg) (m := 7) 3 (by decide)
  rw [eb, ex, sm_8l]
  exact vp_in_nI (by omega) (by omega)
theorem md_0 {K A B C : Nat → Int32} {i : Nat} {d : mc_D} (h : K i = 0) : mc_d K A B C i d = (upd d.1 (pg_ar A i) (B i), d.2.1, d.2.2.1, d.2.2.2) := by
  unfold mc_d; rw [if_pos h]
theorem md_1 {K A B C : Nat → Int32} {i : Nat} {d : mc_D} (h : K i = 1) : mc_d K A B C i d = (upd d.1 (pg_ar A i) (d.1 (B i).toNatClampNeg + d.1 (C i).toNatClampNeg), d.2.1, d.2.2.1, d.2.2.2) := by
  unfold mc_d; rw [if_neg (mc_ne h (by decide)), if_pos h]
theorem md_2 {K A B C : Nat → Int32} {i : Nat} {d : mc_D} (h : K i = 2) : mc_d K A B C i d = (upd d.1 (pg_ar A i) (d.1 (B i).toNatClampNeg - d.1 (C i).toNatClampNeg), d.2.1, d.2.2.1, d.2.2.2) := by
  unfold mc_d; rw [if_neg (mc_ne h (by decide)), if_neg (mc_ne h (by decide)), if_pos h]
theorem md_3 {K A B C : Nat → Int32} {i : Nat} {d : mc_D} (h : K i = 3) : mc_d K A B C i d = (upd d.1 (pg_ar A i) (d.1 (B i).toNatClampNeg * d.1 (C i).toNatClampNeg), d.2.1, d.2.2.1, d.2.2.2) := by
  unfold mc_d; rw [if_neg (mc_ne h (by decide)), if_neg (mc_ne h (by decide)), if_neg (mc_ne h (by decide)), if_pos h]
theorem md_4 {K A B C : Nat → Int32} {i : Nat} {d : mc_D} (h : K i = 4) : mc_d K A B C i d = (upd d.1 (pg_ar A i) (d.2.1 (mc_ix B C d.1 i)), d.2.1, d.2.2.1, d.2.2.2) := by
  unfold mc_d; rw [if_neg (mc_ne h (by decide)), if_neg (mc_ne h (by decide)), if_neg (mc_ne h (by decide)), if_neg (mc_ne h (by decide)), if_pos h]
theorem md_5 {K A B C : Nat → Int32} {i : Nat} {d : mc_D} (h : K i = 5) : mc_d K A B C i d = (d.1, upd d.2.1 (mc_ix B C d.1 i) (d.1 (pg_ar A i)), d.2.2.1, d.2.2.2) := by
  unfold mc_d; rw [if_neg (mc_ne h (by decide)), if_neg (mc_ne h (by decide)), if_neg (mc_ne h (by decide)), if_neg (mc_ne h (by decide)), if_neg (mc_ne h (by decide)), if_pos h]
theorem md_10 {K A B C : Nat → Int32} {i : Nat} {d : mc_D} (h : K i = 10) : mc_d K A B C i d = (d.1, d.2.1, if d.2.2.2 < 48 then upd d.2.2.1 d.2.2.2 (d.1 (pg_ar A i)) else d.2.2.1, d.2.2.2 + 1) := by
  unfold mc_d; rw [if_neg (mc_ne h (by decide)), if_neg (mc_ne h (by decide)), if_neg (mc_ne h (by decide)), if_neg (mc_ne h (by decide)), if_neg (mc_ne h (by decide)), if_neg (mc_ne h (by decide)), if_pos h]
theorem md_n {K A B C : Nat → Int32} {i : Nat} {d : mc_D} (h : K i = 6 ∨ K i = 7 ∨ K i = 8) : mc_d K A B C i d = d := by
  have N : ∀ c : Int32, ¬ (6 : Int32) = c → ¬ (7 : Int32) = c → ¬ (8 : Int32) = c → ¬ K i = c := by
    intro c a b e
    rcases h with h | h | h
    · exact mc_ne h a
    · exact mc_ne h b
    · exact mc_ne h e
  unfold mc_d
  rw [if_neg (N 0 (by decide) (by decide) (by decide)), if_neg (N 1 (by decide) (by decide) (by decide)), if_neg (N 2 (by decide) (by decide) (by decide)), if_neg (N 3 (by decide) (by decide) (by decide)), if_neg (N 4 (by decide) (by decide) (by decide)), if_neg (N 5 (by decide) (by decide) (by decide)), if_neg (N 10 (by decide) (by decide) (by decide))]
theorem xm_c {K A B C : Nat → Int32} {s : Nat} {en : Nat → Nat} {m : mc_M} : (mc_s K A B C s en m).2.2.2.2.2.2.2 ≤ m.2.2.2.2.2.2.2 + 1 := by
  have D : ∀ i d, (mc_d K A B C i d).2.2.2 ≤ d.2.2.2 + 1 := by
    intro i d
    unfold mc_d
    repeat' split
    all_goals first | exact Nat.le_succ _ | exact Nat.le_refl _
  unfold mc_s
  repeat' split
  all_goals first | exact Nat.le_succ _ | exact D _ _
theorem xm_print {cp : Int32} {K A B C SV VR CE KP oa pa ow ba re : Nat → Int32} {ps wt : Nat → Int64} {LF rt co : Nat → Int32} {s c : Nat} (hc : c ≤ 1000000) {v : Int32} {post : SX → Prop} (h : post ((nI s), (nI (c + 1)), cp, K, A, B, C, SV, VR, CE, (if c < 48 then upd KP c v else KP), oa, pa, ow, ba, re, ps, wt, LF, rt, co)) : wpX_print post ((nI s), (nI c), cp, K, A, B, C, SV, VR, CE, KP, oa, pa, ow, ba, re, ps, wt, LF, rt, co) v := by
  refine pk_le 48 c (fun z => nm_r (nI_1 c) ?_) (fun z => ⟨vp_in_nI z (by omega), nm_r (e' := upd KP c v) (by rw [nb_cl (by omega)]) (nm_r (nI_1 c) ?_)⟩)
  · rw [if_neg (by omega)] at h; exact h
  · rw [if_pos z] at h; exact h
theorem xm_compute {cp : Int32} {K A B C SV VR CE KP oa pa ow ba re : Nat → Int32} {ps wt : Nat → Int64} {LF rt co : Nat → Int32} {s c i n : Nat} (hs : s ≤ 48) (hi : i < s) (ok : pg_ok K A B C s) (ek : K i = nI n) (hn : n ≤ 5) {VR' CE' KP' : Nat → Int32} {c' : Nat} (hd : mc_d K A B C i (VR, CE, KP, c) = (VR', CE', KP', c')) {post : SX → Prop}
    (h : post ((nI s), (nI c'), cp, K, A, B, C, SV, VR', CE', KP', oa, pa, ow, ba, re, ps, wt, LF, rt, co)) : wpX_compute post ((nI s), (nI c), cp, K, A, B, C, SV, VR, CE, KP, oa, pa, ow, ba, re, ps, wt, LF, rt, co) (nI i) := by
  have hci : (nI i).toNatClampNeg = i := nb_c48 hi hs
  have hin : vp_in (nI i) 48 := vp_in_nI (by omega) (by omega)
  obtain ⟨a8, ea, ia⟩ := xm_A ok hi ek (by omega) (by omega)
  refine ⟨hin, nm_r (e' := A i) (by rw [hci]) ⟨hin, nm_r (e' := B i) (by rw [hci]) ⟨hin, nm_r (e' := C i) (by rw [hci]) ⟨hin, nm_r (e' := nI n) (by rw [hci]; exact ek) ?_⟩⟩⟩⟩
  refine br_f (nI_pos (by omega)) (br_f (nI_nlt (a := 5) (b := n) hn (by omega)) ?_)
  refine pk_eq n 0 (fun z => ?_) (fun n0 => ?_)
  · subst z
    rw [md_0 ek] at hd
    cases hd
    exact ⟨ia, nm_e h⟩
  refine pk_eq n 1 (fun z => ?_) (fun n1 => ?_)
  · subst z
    obtain ⟨ib, ic⟩ := xm_BC ok hi ek (by omega) (by omega)
    rw [md_1 ek] at hd
    cases hd
    exact ⟨ib, ic, ia, nm_e h⟩
  refine pk_eq n 2 (fun z => ?_) (fun n2 => ?_)
  · subst z
    obtain ⟨ib, ic⟩ := xm_BC ok hi ek (by omega) (by omega)
    rw [md_2 ek] at hd
    cases hd
    exact ⟨ib, ic, ia, nm_e h⟩
  refine pk_eq n 3 (fun z => ?_) (fun n3 => ?_)
  · subst z
    obtain ⟨ib, ic⟩ := xm_BC ok hi ek (by omega) (by omega)
    rw [md_3 ek] at hd
    cases hd
    exact ⟨ib, ic, ia, nm_e h⟩
  refine pk_eq n 4 (fun z => ?_) (fun n4 => ?_)
  · subst z
    obtain ⟨ic, ix⟩ := xm_BC4 ok hi ek (by omega) (by omega) VR
    rw [md_4 ek] at hd
    cases hd
    exact ⟨ic, ix, ia, nm_e h⟩
  refine pk_eq n 5 (fun z => ?_) (fun n5 => trivial)
  · subst z
    obtain ⟨ic, ix⟩ := xm_BC4 ok hi ek (by omega) (by omega) VR
    rw [md_5 ek] at hd
    cases hd
    exact ⟨ic, ia, ix, nm_e h⟩
def xm_R (K A : Nat → Int32) (cm : Nat → Nat) (rt co : Nat → Int32) : Prop := ∀ t, t < 4 → cm t ≠ 0 → rt t = nI (cm t) ∧ co t = nI (pg_pw K A (cm t))
theorem xm_pass {K A B C SV VR CE KP oa pa ow ba re : Nat → Int32} {ps wt : Nat → Int64} {LF rt co : Nat → Int32} {s c i p : Nat} {en cm : Nat → Nat} (hs : s ≤ 48) (hi : i < s) (hb : ¬ K i = 11) (hc : c ≤ 1000000) (ok : pg_ok K A B C s) (H : mc_H K A s en) (hpa : ∀ i, i < s → (pg_op K i ∨ K i = 8) → pa i = nI (en i))
    (hba : ∀ t, t < 4 → ba t = nI (pg_lb K A t s) - 1) (hp : pg_pw K A i = p) (R : xm_R K A cm rt co) {i' p' c' : Nat} {LF' : Nat → Int32} {cm' : Nat → Nat} {VR' CE' KP' : Nat → Int32}
    (hm : mc_s K A B C s en (i, p, LF, cm, VR, CE, KP, c) = (i', p', LF', cm', VR', CE', KP', c')) {post : Int32 → SX → Prop}
    (h : ∀ rt' co', xm_R K A cm' rt' co' → post (nI i') ((nI s), (nI c'), (nI p'), K, A, B, C, SV, VR', CE', KP', oa, pa, ow, ba, re, ps, wt, LF', rt', co')) : wpX_passStatement post ((nI s), (nI c), (nI p), K, A, B, C, SV, VR, CE, KP, oa, pa, ow, ba, re, ps, wt, LF, rt, co) (nI i) := by
  have hci : (nI i).toNatClampNeg = i := nb_c48 hi hs
  have hin : vp_in (nI i) 48 := vp_in_nI (by omega) (by omega)
  obtain ⟨n, hn, ek⟩ := (H.1 i hi).1
  have NE : ∀ m, m < 12 → n ≠ m → ¬ K i = nI m := fun m hm z => by rw [ek]; exact nb_ne z (by omega) (by omega)
  have n11 : n ≠ 11 := fun z => hb (by rw [ek, z]; rfl)
  refine nm_r (nI_1 i) ⟨hin, nm_r (e' := A i) (by rw [hci]) ⟨hin, nm_r (e' := nI n) (by rw [hci]; exact ek) ?_⟩⟩
  refine pk_lt n 6 (fun z => ?_) (fun z => br_f (nI_nlt (a := 10) (b := n) (by omega) (by omega)) ?_)
  · rw [mc_p hi (fun x => x.elim (NE 6 (by omega) (by omega)) (NE 7 (by omega) (by omega))) (NE 8 (by omega) (by omega)) (NE 9 (by omega) (by omega)) hb] at hm
    simp only [Prod.mk.injEq] at hm
    obtain ⟨rfl, rfl, rfl, rfl, hd⟩ := hm
    exact xm_compute hs hi ok ek (by omega) hd (h rt co R)
  refine pk_eq n 6 (fun z6 => ?_) (fun n6 => ?_)
  · subst z6
    have k6 : K i = 6 := ek
    obtain ⟨a8, ea, ia⟩ := xm_A ok hi ek (by omega) (by omega)
    rw [mc_6 hi k6] at hm
    refine ⟨ia, br_c (fun y => ⟨hin, ?_⟩) (fun y => ?_)⟩
    · rw [if_pos y] at hm
      cases hm
      rw [hci, hpa i hi (Or.inl (Or.inl k6)), nI_1]
      exact h rt co R
    · rw [if_neg y] at hm
      cases hm
      exact h rt co R
  refine pk_eq n 7 (fun z7 => ?_) (fun n7 => ?_)
  · subst z7
    have k7 : K i = 7 := ek
    rw [mc_7 hi k7] at hm
    cases hm
    exact ⟨hin, nm_r (e' := upd LF i (A i)) (by rw [hci]) (h rt co R)⟩
  refine pk_eq n 8 (fun z8 => ?_) (fun n8 => ?_)
  · subst z8
    have k8 : K i = 8 := ek
    have mt := H.2.2.2.2.2.1 i hi k8
    have hq := mt.1
    have hcq : (nI (en i)).toNatClampNeg = en i := nb_cl (by omega)
    have hiq : vp_in (nI (en i)) 48 := vp_in_nI (by omega) (by omega)
    refine ⟨hin, nm_r (e' := nI (en i)) (by rw [hci]; exact hpa i hi (Or.inr k8)) ⟨hiq, ?_⟩⟩
    rw [hcq]
    by_cases k7 : K (en i) = 7
    · rw [mc_8l hi k8 k7] at hm
      refine br_t k7 ⟨hiq, hiq, nm_e ⟨hiq, ?_⟩⟩
      rw [pk_us]
      refine br_c (fun y => ?_) (fun y => ?_)
      · rw [if_pos y] at hm
        cases hm
        rw [nI_1]; exact h rt co R
      · rw [if_neg y] at hm
        cases hm
        rw [nI_1]; exact h rt co R
    · rw [mc_8i hi k8 k7] at hm
      cases hm
      refine br_f k7 ?_
      rw [nI_1]; exact h rt co R
  refine pk_eq n 9 (fun z9 => ?_) (fun n9 => ?_)
  · subst z9
    have k9 : K i = 9 := ek
    obtain ⟨a4, ea⟩ := (H.1 i hi).2.1 (Or.inl k9)
    have ia : vp_in (A i) 4 := by rw [ea]; exact vp_in_nI a4 (by omega)
    rw [mc_9 hi k9] at hm
    cases hm
    refine ⟨ia, nm_e ⟨ia, nm_e ⟨ia, ?_⟩⟩⟩
    have e : ba (A i).toNatClampNeg + 1 = nI (pg_lb K A (pg_ar A i) s) := by
      show ba (pg_ar A i) + 1 = _
      rw [hba _ a4, Int32.sub_add_cancel]
    rw [e]
    have L := h (upd rt (pg_ar A i) (nI (i + 1))) (upd co (pg_ar A i) (nI p)) ?_
    · have e2 : A i = nI (pg_ar A i) := ea
      rw [← e2] at L
      exact L
    · intro t ht
      by_cases y : t = pg_ar A i
      · subst y
        rw [mc_us, pk_us, pk_us]
        exact fun _ => ⟨rfl, by rw [pg_pw_n hb, hp]⟩
      · rw [mc_un y, pk_un y, pk_un y]; exact R t ht
  refine pk_eq n 10 (fun z10 => ?_) (fun _ => trivial)
  subst z10
  have k10 : K i = 10 := ek
  obtain ⟨a8, ea, ia⟩ := xm_A ok hi ek (by omega) (by omega)
  rw [mc_p hi (fun x => x.elim (NE 6 (by omega) (by omega)) (NE 7 (by omega) (by omega))) (NE 8 (by omega) (by omega)) (NE 9 (by omega) (by omega)) hb, md_10 k10] at hm
  cases hm
  exact ⟨ia, xm_print hc (h rt co R)⟩
theorem xm_run {K A B C SV oa pa ow ba re : Nat → Int32} {ps wt : Nat → Int64} {s : Nat} {en : Nat → Nat} (hs : s ≤ 48) (ok : pg_ok K A B C s) (H : mc_H K A s en) (hpa : ∀ i, i < s → (pg_op K i ∨ K i = 8) → pa i = nI (en i))
    (hba : ∀ t, t < 4 → ba t = nI (pg_lb K A t s) - 1) {post : SX → Prop} : ∀ T t i p LF cm VR CE KP c rt co, t + T ≤ 30000 → mc_I K A s (i, p, LF, cm, VR, CE, KP, c) → xm_R K A cm rt co → c ≤ t →
      mc_h K s (mc_it K A B C s en T (i, p, LF, cm, VR, CE, KP, c)) →
      (∀ i' p' LF' cm' VR' CE' KP' c' rt' co', mc_it K A B C s en T (i, p, LF, cm, VR, CE, KP, c) = (i', p', LF', cm', VR', CE', KP', c') → c' ≤ t + T → post ((nI s), (nI c'), (nI p'), K, A, B, C, SV, VR', CE', KP', oa, pa, ow, ba, re, ps, wt, LF', rt', co')) →
      wX_passMainPiece_4 post (T + 1) (nI i) (nI t) (nI s) (nI c) (nI p) K A B C SV VR CE KP oa pa ow ba re ps wt LF rt co := by
  have HA : ∀ n t i p LF cm VR CE KP c rt co, t ≤ 30000 → i ≤ s → mc_h K s (i, p, LF, cm, VR, CE, KP, c) → post ((nI s), (nI c), (nI p), K, A, B, C, SV, VR, CE, KP, oa, pa, ow, ba, re, ps, wt, LF, rt, co) → wX_passMainPiece_4 post (n + 1) (nI i) (nI t) (nI s) (nI c) (nI p) K A B C SV VR CE KP oa pa ow ba re ps wt LF rt co := by
    intro n t i p LF cm VR CE KP c rt co ht hi hh h
    have h4 : p = 4 := hh.2
    subst h4
    refine br_f (nI_ge (b := 1000000) (by omega) (by omega)) ?_
    have E : wX_passMainPiece_29 post (wX_passMainPiece_4 post n) (nI i) (nI t) (nI s) (nI c) (nI 4) K A B C SV VR CE KP oa pa ow ba re ps wt LF rt co := br_f (by decide) (br_t rfl h)
    by_cases z : i < s
    · have hci : (nI i).toNatClampNeg = i := nb_c48 z hs
      refine br_f (nI_ge z (by omega)) ⟨vp_in_nI (by omega) (by omega), br_t ?_ E⟩
      rw [hci]
      exact Classical.byContradiction fun y => hh.1 ⟨z, y⟩
    · exact br_t (nI_le (by omega) (by omega)) E
  intro T
  induction T with
  | zero =>
    intro t i p LF cm VR CE KP c rt co ht I R hc hh h
    exact HA 0 t i p LF cm VR CE KP c rt co (by omega) I.1 hh (h i p LF cm VR CE KP c rt co rfl (by omega))
  | succ T ih =>
    intro t i p LF cm VR CE KP c rt co ht I R hc hh h
    by_cases y : mc_h K s (i, p, LF, cm, VR, CE, KP, c)
    · exact HA (T + 1) t i p LF cm VR CE KP c rt co (by omega) I.1 y (h i p LF cm VR CE KP c rt co (mc_h_it y _) (by omega))
    · have I' := mc_I_s (B := B) (C := C) H I
      have hc' := xm_c (K := K) (A := A) (B := B) (C := C) (s := s) (en := en) (m := (i, p, LF, cm, VR, CE, KP, c))
      obtain ⟨i', p', LF', cm', VR', CE', KP', c', em⟩ : ∃ i' p' LF' cm' VR' CE' KP' c', mc_s K A B C s en (i, p, LF, cm, VR, CE, KP, c) = (i', p', LF', cm', VR', CE', KP', c') := ⟨_, _, _, _, _, _, _, _, rfl⟩
      have hh' : mc_h K s (mc_it K A B C s en T (mc_s K A B C s en (i, p, LF, cm, VR, CE, KP, c))) := hh
      have h' : ∀ i'' p'' LF'' cm'' VR'' CE'' KP'' c'' rt' co', mc_it K A B C s en T (mc_s K A B C s en (i, p, LF, cm, VR, CE, KP, c)) = (i'', p'', LF'', cm'', VR'', CE'', KP'', c'') → c'' ≤ t + (T + 1) → post ((nI s), (nI c''), (nI p''), K, A, B, C, SV, VR'', CE'', KP'', oa, pa, ow, ba, re, ps, wt, LF'', rt', co') := h
      rw [em] at I' hc' hh' h'
      have hc2 : c' ≤ c + 1 := hc'
      have NX : ∀ rt' co', xm_R K A cm' rt' co' → wX_passMainPiece_4 post (T + 1) (nI i') (nI (t + 1)) (nI s) (nI c') (nI p') K A B C SV VR' CE' KP' oa pa ow ba re ps wt LF' rt' co' := by
        intro rt' co' R'
        refine ih (t + 1) i' p' LF' cm' VR' CE' KP' c' rt' co' (by omega) I' R' (by omega) hh' ?_
        intro a1 a2 a3 a4 a5 a6 a7 a8 a9 a10 e1 e2
        exact h' a1 a2 a3 a4 a5 a6 a7 a8 a9 a10 e1 (by omega)
      refine br_f (nI_ge (b := 1000000) (by omega) (by omega)) ?_
      by_cases z : i < s ∧ ¬ K i = 11
      · have hci : (nI i).toNatClampNeg = i := nb_c48 z.1 hs
        refine br_f (nI_ge z.1 (by omega)) ⟨vp_in_nI (by omega) (by omega), br_f (by rw [hci]; exact z.2) ?_⟩
        refine br_t rfl (br_t rfl ?_)
        refine xm_pass hs z.1 z.2 (by omega) ok H hpa hba I.2.1 R em ?_
        intro rt' co' R'
        exact nm_r (nI_1 t) (NX rt' co' R')
      · have h4 : ¬ p = 4 := fun x => y ⟨z, x⟩
        have hx : cm p ≠ 0 := (show p = 4 ∨ cm p ≠ 0 from I.2.2.1).resolve_left h4
        have hp4 := pg_pw4 H.1 i I.1
        rw [show pg_pw K A i = p from I.2.1] at hp4
        have hcp : (nI p).toNatClampNeg = p := nb_cl (by omega)
        have hip : vp_in (nI p) 4 := vp_in_nI (by omega) (by omega)
        obtain ⟨r1, r2⟩ := R p (by omega) hx
        rw [mc_l (fun u => Classical.byContradiction fun v => z ⟨u, v⟩) h4] at em
        have E : wX_passMainPiece_29 post (wX_passMainPiece_4 post (T + 1)) (nI i) (nI t) (nI s) (nI c) (nI p) K A B C SV VR CE KP oa pa ow ba re ps wt LF rt co := by
          refine br_f (by decide) (br_f (nb_ne (b := 4) h4 (by omega) (by omega)) (br_f (by decide) ?_))
          cases em
          refine ⟨hip, nm_r (e' := nI (pg_pw K A (cm p))) (by rw [hcp]; exact r2) ⟨hip, nm_r (nI_1 t) ?_⟩⟩
          rw [hcp, r1]
          exact NX rt co R
        by_cases x : i < s
        · have hci : (nI i).toNatClampNeg = i := nb_c48 x hs
          refine br_f (nI_ge x (by omega)) ⟨vp_in_nI (by omega) (by omega), br_t ?_ E⟩
          rw [hci]
          exact Classical.byContradiction fun v => z ⟨x, v⟩
        · have hI : i ≤ s := I.1
          exact br_t (nI_le (by omega) (by omega)) E
end XM
end
section
section YM
/-! the reference walks as the machine does -/
theorem ym_258 {K A B C SV VR CE KP LF cl rc : Nat → Int32} {wy tm : Nat → Int64} {s c i : Nat} (hs : s ≤ 48) (hi : i < s) (n10 : ¬ K i = 10) {post : SY → Prop} (h : post ((nI s), (nI c), K, A, B, C, SV, VR, CE, KP, LF, cl, rc, wy, tm)) : wY_plain_258 post (nI i) (nI s) (nI c) K A B C SV VR CE KP LF cl rc wy tm := by
  have hci : (nI i).toNatClampNeg = i := nb_c48 hi hs
  exact ⟨vp_in_nI (by omega) (by omega), br_f (by rw [hci]; exact n10) h⟩
theorem ym_208 {K A B C SV VR CE KP LF cl rc : Nat → Int32} {wy tm : Nat → Int64} {s c i : Nat} (hs : s ≤ 48) (hi : i < s) (n5 : ¬ K i = 5) {post : SY → Prop} (h : wY_plain_258 post (nI i) (nI s) (nI c) K A B C SV VR CE KP LF cl rc wy tm) : wY_plain_208 post (nI i) (nI s) (nI c) K A B C SV VR CE KP LF cl rc wy tm := by
  have hci : (nI i).toNatClampNeg = i := nb_c48 hi hs
  exact ⟨vp_in_nI (by omega) (by omega), br_f (by rw [hci]; exact n5) h⟩
theorem ym_158 {K A B C SV VR CE KP LF cl rc : Nat → Int32} {wy tm : Nat → Int64} {s c i : Nat} (hs : s ≤ 48) (hi : i < s) (n4 : ¬ K i = 4) {post : SY → Prop} (h : wY_plain_208 post (nI i) (nI s) (nI c) K A B C SV VR CE KP LF cl rc wy tm) : wY_plain_158 post (nI i) (nI s) (nI c) K A B C SV VR CE KP LF cl rc wy tm := by
  have hci : (nI i).toNatClampNeg = i := nb_c48 hi hs
  exact ⟨vp_in_nI (by omega) (by omega), br_f (by rw [hci]; exact n4) h⟩
theorem ym_114 {K A B C SV VR CE KP LF cl rc : Nat → Int32} {wy tm : Nat → Int64} {s c i : Nat} (hs : s ≤ 48) (hi : i < s) (n3 : ¬ K i = 3) {post : SY → Prop} (h : wY_plain_158 post (nI i) (nI s) (nI c) K A B C SV VR CE KP LF cl rc wy tm) : wY_plain_114 post (nI i) (nI s) (nI c) K A B C SV VR CE KP LF cl rc wy tm := by
  have hci : (nI i).toNatClampNeg = i := nb_c48 hi hs
  exact ⟨vp_in_nI (by omega) (by omega), br_f (by rw [hci]; exact n3) h⟩
theorem ym_70 {K A B C SV VR CE KP LF cl rc : Nat → Int32} {wy tm : Nat → Int64} {s c i : Nat} (hs : s ≤ 48) (hi : i < s) (n2 : ¬ K i = 2) {post : SY → Prop} (h : wY_plain_114 post (nI i) (nI s) (nI c) K A B C SV VR CE KP LF cl rc wy tm) : wY_plain_70 post (nI i) (nI s) (nI c) K A B C SV VR CE KP LF cl rc wy tm := by
  have hci : (nI i).toNatClampNeg = i := nb_c48 hi hs
  exact ⟨vp_in_nI (by omega) (by omega), br_f (by rw [hci]; exact n2) h⟩
theorem ym_26 {K A B C SV VR CE KP LF cl rc : Nat → Int32} {wy tm : Nat → Int64} {s c i : Nat} (hs : s ≤ 48) (hi : i < s) (n1 : ¬ K i = 1) {post : SY → Prop} (h : wY_plain_70 post (nI i) (nI s) (nI c) K A B C SV VR CE KP LF cl rc wy tm) : wY_plain_26 post (nI i) (nI s) (nI c) K A B C SV VR CE KP LF cl rc wy tm := by
  have hci : (nI i).toNatClampNeg = i := nb_c48 hi hs
  exact ⟨vp_in_nI (by omega) (by omega), br_f (by rw [hci]; exact n1) h⟩
theorem ym_0 {K A B C SV VR CE KP LF cl rc : Nat → Int32} {wy tm : Nat → Int64} {s c i : Nat} (hs : s ≤ 48) (hi : i < s) (n0 : ¬ K i = 0) {post : SY → Prop} (h : wY_plain_26 post (nI i) (nI s) (nI c) K A B C SV VR CE KP LF cl rc wy tm) : wpY_plain post ((nI s), (nI c), K, A, B, C, SV, VR, CE, KP, LF, cl, rc, wy, tm) (nI i) := by
  have hci : (nI i).toNatClampNeg = i := nb_c48 hi hs
  exact ⟨vp_in_nI (by omega) (by omega), br_f (by rw [hci]; exact n0) h⟩
theorem ym_plain {K A B C SV VR CE KP LF cl rc : Nat → Int32} {wy tm : Nat → Int64} {s c i n : Nat} (hs : s ≤ 48) (hi : i < s) (hc : c ≤ 1000000) (ok : pg_ok K A B C s) (ek : K i = nI n) (hn : n ≤ 10) (n9 : n ≠ 9) {VR' CE' KP' : Nat → Int32} {c' : Nat} (hd : mc_d K A B C i (VR, CE, KP, c) = (VR', CE', KP', c')) {post : SY → Prop}
    (h : post ((nI s), (nI c'), K, A, B, C, SV, VR', CE', KP', LF, cl, rc, wy, tm)) : wpY_plain post ((nI s), (nI c), K, A, B, C, SV, VR, CE, KP, LF, cl, rc, wy, tm) (nI i) := by
  have hci : (nI i).toNatClampNeg = i := nb_c48 hi hs
  have hin : vp_in (nI i) 48 := vp_in_nI (by omega) (by omega)
  have NE : ∀ m, m < 12 → n ≠ m → ¬ K i = nI m := fun m hm z => by rw [ek]; exact nb_ne z (by omega) (by omega)
  by_cases z0 : n = 0
  · subst z0
    obtain ⟨a8, ea, ia⟩ := xm_A ok hi ek (by omega) (by omega)
    rw [md_0 ek] at hd
    cases hd
    refine ⟨hin, br_t (by rw [hci]; exact ek) ⟨hin, hin, by rw [hci]; exact ia, nm_r (e' := upd VR (pg_ar A i) (B i)) (by rw [hci]) ?_⟩⟩
    exact ym_26 hs hi (NE 1 (by omega) (by omega)) (ym_70 hs hi (NE 2 (by omega) (by omega)) (ym_114 hs hi (NE 3 (by omega) (by omega)) (ym_158 hs hi (NE 4 (by omega) (by omega)) (ym_208 hs hi (NE 5 (by omega) (by omega)) (ym_258 hs hi (NE 10 (by omega) (by omega)) h)))))
  refine ym_0 hs hi (NE 0 (by omega) z0) ?_
  by_cases z1 : n = 1
  · subst z1
    obtain ⟨a8, ea, ia⟩ := xm_A ok hi ek (by omega) (by omega)
    obtain ⟨ib, ic⟩ := xm_BC ok hi ek (by omega) (by omega)
    rw [md_1 ek] at hd
    cases hd
    refine ⟨hin, br_t (by rw [hci]; exact ek) ⟨hin, hin, by rw [hci]; exact ib, hin, by rw [hci]; exact ic, by rw [hci]; exact ia, nm_r (e' := upd VR (pg_ar A i) (VR (B i).toNatClampNeg + VR (C i).toNatClampNeg)) (by rw [hci]) ?_⟩⟩
    exact ym_70 hs hi (NE 2 (by omega) (by omega)) (ym_114 hs hi (NE 3 (by omega) (by omega)) (ym_158 hs hi (NE 4 (by omega) (by omega)) (ym_208 hs hi (NE 5 (by omega) (by omega)) (ym_258 hs hi (NE 10 (by omega) (by omega)) h))))
  refine ym_26 hs hi (NE 1 (by omega) z1) ?_
  by_cases z2 : n = 2
  · subst z2
    obtain ⟨a8, ea, ia⟩ := xm_A ok hi ek (by omega) (by omega)
    obtain ⟨ib, ic⟩ := xm_BC ok hi ek (by omega) (by omega)
    rw [md_2 ek] at hd
    cases hd
    refine ⟨hin, br_t (by rw [hci]; exact ek) ⟨hin, hin, by rw [hci]; exact ib, hin, by rw [hci]; exact ic, by rw [hci]; exact ia, nm_r (e' := upd VR (pg_ar A i) (VR (B i).toNatClampNeg - VR (C i).toNatClampNeg)) (by rw [hci]) ?_⟩⟩
    exact ym_114 hs hi (NE 3 (by omega) (by omega)) (ym_158 hs hi (NE 4 (by omega) (by omega)) (ym_208 hs hi (NE 5 (by omega) (by omega)) (ym_258 hs hi (NE 10 (by omega) (by omega)) h)))
  refine ym_70 hs hi (NE 2 (by omega) z2) ?_
  by_cases z3 : n = 3
  · subst z3
    obtain ⟨a8, ea, ia⟩ := xm_A ok hi ek (by omega) (by omega)
    obtain ⟨ib, ic⟩ := xm_BC ok hi ek (by omega) (by omega)
    rw [md_3 ek] at hd
    cases hd
    refine ⟨hin, br_t (by rw [hci]; exact ek) ⟨hin, hin, by rw [hci]; exact ib, hin, by rw [hci]; exact ic, by rw [hci]; exact ia, nm_r (e' := upd VR (pg_ar A i) (VR (B i).toNatClampNeg * VR (C i).toNatClampNeg)) (by rw [hci]) ?_⟩⟩
    exact ym_158 hs hi (NE 4 (by omega) (by omega)) (ym_208 hs hi (NE 5 (by omega) (by omega)) (ym_258 hs hi (NE 10 (by omega) (by omega)) h))
  refine ym_114 hs hi (NE 3 (by omega) z3) ?_
  have CM : (8 * B i) + ((VR (C i).toNatClampNeg) &&& 7) = (B i * 8) + ((VR (C i).toNatClampNeg) &&& 7) := by rw [Int32.mul_comm]
  by_cases z4 : n = 4
  · subst z4
    obtain ⟨a8, ea, ia⟩ := xm_A ok hi ek (by omega) (by omega)
    obtain ⟨ic, ix⟩ := xm_BC4 ok hi ek (by omega) (by omega) VR
    rw [md_4 ek] at hd
    cases hd
    refine ⟨hin, br_t (by rw [hci]; exact ek) ⟨hin, hin, hin, by rw [hci]; exact ic, by rw [hci, CM]; exact ix, by rw [hci]; exact ia, nm_r (e' := upd VR (pg_ar A i) (CE (mc_ix B C VR i))) (by rw [hci, CM]; rfl) ?_⟩⟩
    exact ym_208 hs hi (NE 5 (by omega) (by omega)) (ym_258 hs hi (NE 10 (by omega) (by omega)) h)
  refine ym_158 hs hi (NE 4 (by omega) z4) ?_
  by_cases z5 : n = 5
  · subst z5
    obtain ⟨a8, ea, ia⟩ := xm_A ok hi ek (by omega) (by omega)
    obtain ⟨ic, ix⟩ := xm_BC4 ok hi ek (by omega) (by omega) VR
    rw [md_5 ek] at hd
    cases hd
    refine ⟨hin, br_t (by rw [hci]; exact ek) ⟨hin, hin, by rw [hci]; exact ic, hin, by rw [hci]; exact ia, by rw [hci, CM]; exact ix, nm_r (e' := upd CE (mc_ix B C VR i) (VR (pg_ar A i))) (by rw [hci, CM]; rfl) ?_⟩⟩
    exact ym_258 hs hi (NE 10 (by omega) (by omega)) h
  refine ym_208 hs hi (NE 5 (by omega) z5) ?_
  by_cases z10 : n = 10
  · subst z10
    obtain ⟨a8, ea, ia⟩ := xm_A ok hi ek (by omega) (by omega)
    rw [md_10 ek] at hd
    cases hd
    refine ⟨hin, br_t (by rw [hci]; exact ek) ?_⟩
    refine pk_le 48 c (fun z => nm_r (nI_1 c) ?_) (fun z => ⟨hin, by rw [hci]; exact ia, vp_in_nI z (by omega), nm_r (e' := upd KP c (VR (pg_ar A i))) (by rw [hci, nb_cl (by omega)]) (nm_r (nI_1 c) ?_)⟩)
    · rw [if_neg (by dsimp only; omega)] at h; exact h
    · rw [if_pos (by dsimp only; omega)] at h; exact h
  · rw [md_n (by
      have : n = 6 ∨ n = 7 ∨ n = 8 := by omega
      rcases this with y | y | y
      · exact Or.inl (by rw [ek, y]; rfl)
      · exact Or.inr (Or.inl (by rw [ek, y]; rfl))
      · exact Or.inr (Or.inr (by rw [ek, y]; rfl)))] at hd
    cases hd
    exact ym_258 hs hi (NE 10 (by omega) z10) h
def ym_R (cm : Nat → Nat) (cl : Nat → Int32) : Prop := ∀ t, t < 4 → cm t ≠ 0 → cl t = nI (cm t - 1)
theorem ym_109 {K A B C SV VR CE KP LF cl rc : Nat → Int32} {wy tm : Nat → Int64} {s c i n : Nat} (hs : s ≤ 48) (hi : i < s) (hc : c ≤ 1000000) (ok : pg_ok K A B C s) (ek : K i = nI n) (hn : n ≤ 10) (n9 : n ≠ 9) {VR' CE' KP' : Nat → Int32} {c' : Nat} (hd : mc_d K A B C i (VR, CE, KP, c) = (VR', CE', KP', c')) {post : Int32 → SY → Prop}
    (h : post (nI (i + 1)) ((nI s), (nI c'), K, A, B, C, SV, VR', CE', KP', LF, cl, rc, wy, tm)) : wY_pass_109 post (nI i) (nI s) (nI c) K A B C SV VR CE KP LF cl rc wy tm := by
  have hci : (nI i).toNatClampNeg = i := nb_c48 hi hs
  have hin : vp_in (nI i) 48 := vp_in_nI (by omega) (by omega)
  refine ⟨hin, br_f (by rw [hci, ek]; exact nb_ne (b := 9) n9 (by omega) (by omega)) ?_⟩
  refine ym_plain hs hi hc ok ek hn n9 hd ?_
  rw [nI_1]; exact h
theorem ym_pass {K A B C SV VR CE KP LF cl rc : Nat → Int32} {wy tm : Nat → Int64} {s c i p : Nat} {en cm : Nat → Nat} (hs : s ≤ 48) (hi : i < s) (hb : ¬ K i = 11) (hc : c ≤ 1000000) (ok : pg_ok K A B C s) (H : mc_H K A s en) (R : ym_R cm cl)
    {i' p' c' : Nat} {LF' : Nat → Int32} {cm' : Nat → Nat} {VR' CE' KP' : Nat → Int32}
    (hm : mc_s K A B C s en (i, p, LF, cm, VR, CE, KP, c) = (i', p', LF', cm', VR', CE', KP', c')) {post : Int32 → SY → Prop}
    (h : ∀ cl', ym_R cm' cl' → (K i = 9 → A i = nI p') → (¬ K i = 9 → p' = p) → post (nI i') ((nI s), (nI c'), K, A, B, C, SV, VR', CE', KP', LF', cl', rc, wy, tm)) : wpY_pass post ((nI s), (nI c), K, A, B, C, SV, VR, CE, KP, LF, cl, rc, wy, tm) (nI i) := by
  have hci : (nI i).toNatClampNeg = i := nb_c48 hi hs
  have hin : vp_in (nI i) 48 := vp_in_nI (by omega) (by omega)
  obtain ⟨n, hn, ek⟩ := (H.1 i hi).1
  have NE : ∀ m, m < 12 → n ≠ m → ¬ K i = nI m := fun m hm z => by rw [ek]; exact nb_ne z (by omega) (by omega)
  have n11 : n ≠ 11 := fun z => hb (by rw [ek, z]; rfl)
  by_cases z6 : n = 6
  · subst z6
    have k6 : K i = 6 := ek
    obtain ⟨a8, ea, ia⟩ := xm_A ok hi ek (by omega) (by omega)
    rw [mc_6 hi k6] at hm
    refine ⟨hin, br_t (by rw [hci]; exact k6) ⟨hin, by rw [hci]; exact ia, ?_⟩⟩
    rw [hci]
    refine br_c (fun y => ?_) (fun y => ?_)
    · rw [if_neg (Int32.not_le.mpr y)] at hm
      cases hm
      refine ⟨hin, br_f (by rw [hci]; exact NE 7 (by omega) (by omega)) ⟨hin, br_f (by rw [hci]; exact NE 8 (by omega) (by omega)) ?_⟩⟩
      exact ym_109 hs hi hc ok ek (by omega) (by omega) (md_n (Or.inl k6)) (h cl R (fun x => absurd x (NE 9 (by omega) (by omega))) (fun _ => rfl))
    · rw [if_pos (Int32.not_lt.mp y)] at hm
      cases hm
      obtain ⟨hes, mt⟩ := H.2.2.2.2.2.2 i hi (Or.inl k6)
      refine yw_endOf hs H.2.1.1 hes mt ?_
      rw [nI_1]
      exact h cl R (fun x => absurd x (NE 9 (by omega) (by omega))) (fun _ => rfl)
  refine ⟨hin, br_f (by rw [hci]; exact NE 6 (by omega) z6) ⟨hin, ?_⟩⟩
  by_cases z7 : n = 7
  · subst z7
    have k7 : K i = 7 := ek
    rw [mc_7 hi k7] at hm
    cases hm
    refine br_t (by rw [hci]; exact k7) ⟨hin, hin, nm_r (e' := upd LF i (A i)) (by rw [hci]) ⟨hin, br_f (by rw [hci]; exact NE 8 (by omega) (by omega)) ?_⟩⟩
    exact ym_109 hs hi hc ok ek (by omega) (by omega) (md_n (Or.inr (Or.inl k7))) (h cl R (fun x => absurd x (NE 9 (by omega) (by omega))) (fun _ => rfl))
  refine br_f (by rw [hci]; exact NE 7 (by omega) z7) ⟨hin, ?_⟩
  by_cases z8 : n = 8
  · subst z8
    have k8 : K i = 8 := ek
    have mt := H.2.2.2.2.2.1 i hi k8
    have hq := mt.1
    have hcq : (nI (en i)).toNatClampNeg = en i := nb_cl (by omega)
    have hiq : vp_in (nI (en i)) 48 := vp_in_nI (by omega) (by omega)
    have nk9 : ¬ K i = 9 := NE 9 (by omega) (by omega)
    refine br_t (by rw [hci]; exact k8) ?_
    refine yw_openerOf hs H.2.1.1 hi mt ⟨hiq, ?_⟩
    rw [hcq]
    by_cases k7 : K (en i) = 7
    · rw [mc_8l hi k8 k7] at hm
      refine br_t k7 ⟨hiq, hiq, nm_e ⟨hiq, ?_⟩⟩
      rw [pk_us]
      refine br_c (fun y => ?_) (fun y => ?_)
      · rw [if_pos y] at hm
        cases hm
        exact ym_109 hs hi hc ok ek (by omega) (by omega) (md_n (Or.inr (Or.inr k8))) (h cl R (fun x => absurd x nk9) (fun _ => rfl))
      · rw [if_neg y] at hm
        cases hm
        rw [nI_1]
        exact h cl R (fun x => absurd x nk9) (fun _ => rfl)
    · rw [mc_8i hi k8 k7] at hm
      cases hm
      refine br_f k7 ?_
      exact ym_109 hs hi hc ok ek (by omega) (by omega) (md_n (Or.inr (Or.inr k8))) (h cl R (fun x => absurd x nk9) (fun _ => rfl))
  refine br_f (by rw [hci]; exact NE 8 (by omega) z8) ?_
  by_cases z9 : n = 9
  · subst z9
    have k9 : K i = 9 := ek
    obtain ⟨a4, ea⟩ := (H.1 i hi).2.1 (Or.inl k9)
    rw [mc_9 hi k9] at hm
    cases hm
    refine ⟨hin, br_t (by rw [hci]; exact k9) ⟨hin, by rw [hci, ea]; exact vp_in_nI a4 (by omega), nm_r (e' := upd cl (pg_ar A i) (nI i)) (by rw [hci]) ⟨hin, ?_⟩⟩⟩
    rw [hci, ea]
    refine yw_placeOf hs a4 H.1 (H.2.2.1 _ a4) ?_
    have e : yw_pl K A s (pg_ar A i) = pg_lb K A (pg_ar A i) s := if_neg (H.2.2.2.1 i hi k9)
    rw [e]
    refine h _ ?_ (fun _ => ea) (fun x => absurd k9 x)
    intro t ht
    by_cases y : t = pg_ar A i
    · subst y
      rw [mc_us, pk_us]
      exact fun _ => rfl
    · rw [mc_un y, pk_un y]; exact R t ht
  · rw [mc_p hi (fun x => x.elim (NE 6 (by omega) z6) (NE 7 (by omega) z7)) (NE 8 (by omega) z8) (NE 9 (by omega) z9) hb] at hm
    simp only [Prod.mk.injEq] at hm
    obtain ⟨rfl, rfl, rfl, rfl, hd⟩ := hm
    exact ym_109 hs hi hc ok ek (by omega) z9 hd (h cl R (fun x => absurd x (NE 9 (by omega) z9)) (fun _ => rfl))
theorem ym_run {K A B C SV rc : Nat → Int32} {wy tm : Nat → Int64} {s : Nat} {en : Nat → Nat} (hs : s ≤ 48) (ok : pg_ok K A B C s) (H : mc_H K A s en) {post : Int32 → SY → Prop} : ∀ T t i p LF cm VR CE KP c cl, t + T ≤ 30000 → mc_I K A s (i, p, LF, cm, VR, CE, KP, c) → ym_R cm cl → c ≤ t →
      mc_h K s (mc_it K A B C s en T (i, p, LF, cm, VR, CE, KP, c)) →
      (∀ i' p' LF' cm' VR' CE' KP' c' cl', mc_it K A B C s en T (i, p, LF, cm, VR, CE, KP, c) = (i', p', LF', cm', VR', CE', KP', c') → post (nI c') ((nI s), (nI c'), K, A, B, C, SV, VR', CE', KP', LF', cl', rc, wy, tm)) →
      wY_run_73 post (T + 2) (nI i) (yw_p p) 0 (nI t) (nI s) (nI c) K A B C SV VR CE KP LF cl rc wy tm := by
  have HA : ∀ n t i p LF cm VR CE KP c cl, t ≤ 30000 → i ≤ s → mc_h K s (i, p, LF, cm, VR, CE, KP, c) → post (nI c) ((nI s), (nI c), K, A, B, C, SV, VR, CE, KP, LF, cl, rc, wy, tm) → wY_run_73 post (n + 2) (nI i) (yw_p p) 0 (nI t) (nI s) (nI c) K A B C SV VR CE KP LF cl rc wy tm := by
    intro n t i p LF cm VR CE KP c cl ht hi hh h
    have h4 : p = 4 := hh.2
    subst h4
    refine br_f (nI_ge (b := 40000) (by omega) (by omega)) (br_t rfl ?_)
    have E : wY_run_137 post (wY_run_73 post (n + 1)) (nI i) (yw_p 4) 0 (nI t) (nI s) (nI c) K A B C SV VR CE KP LF cl rc wy tm := by
      refine br_f (by decide) (nm_r (nI_1 t) ?_)
      exact br_f (nI_ge (b := 40000) (by omega) (by omega)) (br_f (by decide) h)
    by_cases z : i < s
    · have hci : (nI i).toNatClampNeg = i := nb_c48 z hs
      refine br_f (nI_ge z (by omega)) ⟨vp_in_nI (by omega) (by omega), br_t ?_ E⟩
      rw [hci]
      exact Classical.byContradiction fun y => hh.1 ⟨z, y⟩
    · exact br_t (nI_le (by omega) (by omega)) E
  intro T
  induction T with
  | zero =>
    intro t i p LF cm VR CE KP c cl ht I R hc hh h
    exact HA 0 t i p LF cm VR CE KP c cl (by omega) I.1 hh (h i p LF cm VR CE KP c cl rfl)
  | succ T ih =>
    intro t i p LF cm VR CE KP c cl ht I R hc hh h
    by_cases y : mc_h K s (i, p, LF, cm, VR, CE, KP, c)
    · exact HA (T + 1) t i p LF cm VR CE KP c cl (by omega) I.1 y (h i p LF cm VR CE KP c cl (mc_h_it y _))
    · have I' := mc_I_s (B := B) (C := C) H I
      have hc' := xm_c (K := K) (A := A) (B := B) (C := C) (s := s) (en := en) (m := (i, p, LF, cm, VR, CE, KP, c))
      have hI : i ≤ s := I.1
      obtain ⟨i', p', LF', cm', VR', CE', KP', c', em⟩ : ∃ i' p' LF' cm' VR' CE' KP' c', mc_s K A B C s en (i, p, LF, cm, VR, CE, KP, c) = (i', p', LF', cm', VR', CE', KP', c') := ⟨_, _, _, _, _, _, _, _, rfl⟩
      have hh' : mc_h K s (mc_it K A B C s en T (mc_s K A B C s en (i, p, LF, cm, VR, CE, KP, c))) := hh
      have h' : ∀ i'' p'' LF'' cm'' VR'' CE'' KP'' c'' cl', mc_it K A B C s en T (mc_s K A B C s en (i, p, LF, cm, VR, CE, KP, c)) = (i'', p'', LF'', cm'', VR'', CE'', KP'', c'') → post (nI c'') ((nI s), (nI c''), K, A, B, C, SV, VR'', CE'', KP'', LF'', cl', rc, wy, tm) := h
      rw [em] at I' hc' hh' h'
      have hc2 : c' ≤ c + 1 := hc'
      have NX : ∀ cl', ym_R cm' cl' → wY_run_73 post (T + 2) (nI i') (yw_p p') 0 (nI (t + 1)) (nI s) (nI c') K A B C SV VR' CE' KP' LF' cl' rc wy tm := by
        intro cl' R'
        exact ih (t + 1) i' p' LF' cm' VR' CE' KP' c' cl' (by omega) I' R' (by omega) hh' h'
      refine br_f (nI_ge (b := 40000) (by omega) (by omega)) (br_t rfl ?_)
      by_cases z : i < s ∧ ¬ K i = 11
      · have hci : (nI i).toNatClampNeg = i := nb_c48 z.1 hs
        have hin : vp_in (nI i) 48 := vp_in_nI (by omega) (by omega)
        refine br_f (nI_ge z.1 (by omega)) ⟨hin, br_f (by rw [hci]; exact z.2) ?_⟩
        refine ym_pass hs z.1 z.2 (by omega) ok H R em ?_
        intro cl' R' q1 q2
        refine ⟨hin, ?_⟩
        rw [hci]
        by_cases k9 : K i = 9
        · have a4 := ((H.1 i z.1).2.1 (Or.inl k9)).1
          refine br_t k9 ⟨hin, nm_r (e' := yw_p p') ?_ (nm_r (nI_1 t) (NX cl' R'))⟩
          have e := q1 k9
          have ep : p' = pg_ar A i := by
            rw [mc_9 z.1 k9] at em
            exact (congrArg (fun m : mc_M => m.2.1) em).symm
          unfold yw_p
          rw [if_neg (by omega)]; exact e
        · refine br_f k9 (nm_r (nI_1 t) ?_)
          have L := NX cl' R'
          rw [q2 k9] at L
          exact L
      · have h4 : ¬ p = 4 := fun x => y ⟨z, x⟩
        have hx : cm p ≠ 0 := (show p = 4 ∨ cm p ≠ 0 from I.2.2.1).resolve_left h4
        have hp4 := pg_pw4 H.1 i I.1
        rw [show pg_pw K A i = p from I.2.1] at hp4
        have hcp : (nI p).toNatClampNeg = p := nb_cl (by omega)
        have hip : vp_in (nI p) 4 := vp_in_nI (by omega) (by omega)
        have r1 := R p (by omega) hx
        have hcs : cm p ≤ s := (I.2.2.2 p (by omega) hx).1
        have ep : yw_p p = nI p := if_neg h4
        rw [mc_l (fun u => Classical.byContradiction fun v => z ⟨u, v⟩) h4] at em
        have E : wY_run_137 post (wY_run_73 post (T + 2)) (nI i) (yw_p p) 0 (nI t) (nI s) (nI c) K A B C SV VR CE KP LF cl rc wy tm := by
          rw [ep]
          refine br_t (nI_pos' (by omega)) ⟨hip, nm_r (e' := nI (cm p - 1)) (by rw [hcp]; exact r1) ?_⟩
          refine yw_pieceOf hs (by omega) H.1 ?_
          refine nm_r (e' := nI (cm p)) (by rw [nI_1, show cm p - 1 + 1 = cm p by omega]) (nm_r (nI_1 t) ?_)
          rw [show cm p - 1 + 1 = cm p by omega]
          cases em
          exact NX cl R
        by_cases x : i < s
        · have hci : (nI i).toNatClampNeg = i := nb_c48 x hs
          refine br_f (nI_ge x (by omega)) ⟨vp_in_nI (by omega) (by omega), br_t ?_ E⟩
          rw [hci]
          exact Classical.byContradiction fun v => z ⟨x, v⟩
        · exact br_t (nI_le (by omega) (by omega)) E
end YM
end
section
section RU
/-! run -/
theorem ru_begin {pc : Int32} {K A B C SV VR CE KP LF cl rc : Nat → Int32} {wy tm : Nat → Int64} {s : Nat} {post : Int32 → SY → Prop} (h : ∃ n, wY_run_73 post n 0 (-1) 0 0 (nI s) 0 K A B C SV (sm_c SV VR 8) (sm_z CE 24) KP LF cl rc wy tm) : ∃ n, wY_run_13 post (nI s) pc n 0 K A B C SV VR CE KP LF cl rc wy tm := by
  have H39 : ∀ d i, i + d = 24 → wY_run_39 post (nI s) pc (d + 1) (nI i) K A B C SV (sm_c SV VR 8) (sm_z CE i) KP LF cl rc wy tm := by
    intro d
    induction d with
    | zero =>
      intro i hi
      have e : i = 24 := by omega
      subst e
      exact br_t (nI_le (a := 24) (by omega) (by omega)) h
    | succ d ih =>
      intro i hi
      refine br_f (nI_ge (b := 24) (by omega) (by omega)) ⟨vp_in_nI (by omega) (by omega), ?_⟩
      exact nm_r (e' := sm_z CE (i + 1)) (by rw [nb_cl (by omega), sm_zs]) (nm_r (nI_1 i) (ih (i + 1) (by omega)))
  have H13 : ∀ d i, i + d = 8 → wY_run_13 post (nI s) pc (d + 1) (nI i) K A B C SV (sm_c SV VR i) CE KP LF cl rc wy tm := by
    intro d
    induction d with
    | zero =>
      intro i hi
      have e : i = 8 := by omega
      subst e
      have L := H39 24 0 rfl
      rw [sm_z0] at L
      exact br_t (nI_le (a := 8) (by omega) (by omega)) ⟨25, L⟩
    | succ d ih =>
      intro i hi
      have hin : vp_in (nI i) 8 := vp_in_nI (by omega) (by omega)
      refine br_f (nI_ge (b := 8) (by omega) (by omega)) ⟨hin, hin, ?_⟩
      exact nm_r (e' := sm_c SV VR (i + 1)) (by rw [nb_cl (by omega), sm_cs]) (nm_r (nI_1 i) (ih (i + 1) (by omega)))
  have L := H13 8 0 rfl
  rw [sm_c0] at L
  exact ⟨9, L⟩
theorem ru_H {K A pa : Nat → Int32} {s : Nat} (hs : s ≤ 48) (g : pg_g K A s) (w : pg_wf K s) (nt : pg_nt K A s) (nm : pg_nm K A s) (rr : ¬ wa_rec K A s) (pr : pg_pr K s pa) :
    mc_H K A s (fun i => (pa i).toNatClampNeg) ∧ ∀ i, i < s → (pg_op K i ∨ K i = 8) → pa i = nI ((fun i => (pa i).toNatClampNeg) i) := by
  refine ⟨⟨g, w, nt, nm, rr, fun e he k8 => ?_, fun q hq o => ?_⟩, fun i hi h => ?_⟩
  · obtain ⟨q, eq, mt⟩ := pr.1 e he k8
    have := mt.1
    show pg_mt K (pa e).toNatClampNeg e
    rw [eq, nb_cl (by omega)]; exact mt
  · obtain ⟨e, he, eq, mt⟩ := pr.2 q hq o
    show (pa q).toNatClampNeg < s ∧ pg_mt K q (pa q).toNatClampNeg
    rw [eq, nb_cl (by omega)]; exact ⟨he, mt⟩
  · show pa i = nI (pa i).toNatClampNeg
    rcases h with o | k8
    · obtain ⟨e, he, eq, mt⟩ := pr.2 i hi o
      rw [eq, nb_cl (by omega)]
    · obtain ⟨q, eq, mt⟩ := pr.1 i hi k8
      have := mt.1
      rw [eq, nb_cl (by omega)]
theorem i_vc_run {k : Nat} {u : SX} {v : SY} (I : i_Rel k u v) (hk : k + 5 ≤ 2560) : wpX_run (fun r u' => wpY_run (fun r' v' => r' = r ∧ i_Rel (k + 5) u' v') v) u := by
  obtain ⟨s, c, cp, K, A, B, C, SV, VR, CE, KP, LF, oa, pa, ow, ba, re, rt, co, ps, wt, cl, rc, wy, tm, rfl, rfl, hs, hc, ok⟩ := I
  have g := pg_of_ok ok
  unfold wpX_run
  refine xf_findFault hs g (fun oa pa ow ba re ps wt hz => ?_)
  by_cases z : ff_r K A s = 0
  · obtain ⟨⟨w, nt, nm, rr, wl⟩, pr, hba⟩ := hz z
    have D5 := wd_all5 g rr
    obtain ⟨H, hpa⟩ := ru_H hs g w nt nm rr pr
    have W := bw_main g hs w.1 D5 wl
    obtain ⟨T, hT, hh⟩ := bs_main (B := B) (C := C) H D5 W LF (fun _ => 0) (sm_c SV VR 8, sm_z CE 24, KP, 0)
    have I0 : mc_I K A s (0, 4, LF, fun _ => 0, sm_c SV VR 8, sm_z CE 24, KP, 0) := ⟨Nat.zero_le _, rfl, Or.inl rfl, fun t _ h => absurd rfl h⟩
    refine br_t z (sm_begin ⟨T + 1, ?_⟩)
    refine xm_run hs ok H hpa hba T 0 0 4 LF (fun _ => 0) (sm_c SV VR 8) (sm_z CE 24) KP 0 rt co (by omega) I0 (fun t _ h => absurd rfl h) (by omega) hh ?_
    intro i' p' LF' cm' VR' CE' KP' c' rt' co' e hc'
    unfold wpY_run
    refine yf_check hs g (fun rc wy tm => br_t z (ru_begin ⟨T + 2, ?_⟩))
    refine ym_run hs ok H T 0 0 4 LF (fun _ => 0) (sm_c SV VR 8) (sm_z CE 24) KP 0 cl (by omega) I0 (fun t _ h => absurd rfl h) (by omega) hh ?_
    intro i'' p'' LF'' cm'' VR'' CE'' KP'' c'' cl' e'
    cases e.symm.trans e'
    exact ⟨rfl, re_mk hs (by omega) ok⟩
  · refine br_f z ?_
    unfold wpY_run
    exact yf_check hs g (fun rc wy tm => br_f z ⟨rfl, re_mk hs hc ok⟩)
end RU
end
