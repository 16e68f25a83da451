section
section NB
/-! numbers, stores, bits: rows of kit/rows -/
theorem pk_us {f : Nat → Int32} {k : Nat} {x : Int32} : upd f k x k = x := if_pos rfl
theorem pk_un {f : Nat → Int32} {k j : Nat} {x : Int32} (h : j ≠ k) : upd f k x j = f j := if_neg h
theorem pk_uLs {f : Nat → Int64} {k : Nat} {x : Int64} : vp_updL f k x k = x := if_pos rfl
theorem pk_uLn {f : Nat → Int64} {k j : Nat} {x : Int64} (h : j ≠ k) : vp_updL f k x j = f j := if_neg h
theorem pk_sub {a b : Nat} (h : b ≤ a) : nI a - nI b = nI (a - b) := by
  obtain ⟨c, rfl⟩ : ∃ c, a = c + b := ⟨a - b, by omega⟩
  rw [← nI_add, Int32.add_sub_cancel, Nat.add_sub_cancel]
theorem pk_m1 (n : Nat) : nI (n + 1) + (-1) = nI n := by
  rw [← nI_1, Int32.add_assoc, show (1 : Int32) + (-1) = 0 from rfl, Int32.add_zero]
theorem pk_mul (a b : Nat) : nI a * nI b = nI (a * b) := (Int32.ofNat_mul a b).symm
theorem pk_le {x y : Int32} {A B : Prop} (a b : Nat) (f : a ≤ b → A) (g : b < a → B) (hx : x = nI a := by rfl) (hy : y = nI b := by rfl) (ha : a < 2 ^ 31 := by omega) (hb : b < 2 ^ 31 := by omega) : (x ≤ y → A) ∧ (¬ x ≤ y → B) := by
  subst hx hy
  rw [nI_leI ha hb]
  exact ⟨f, fun z => g (by omega)⟩
theorem pk_lt {x y : Int32} {A B : Prop} (a b : Nat) (f : a < b → A) (g : b ≤ a → B) (hx : x = nI a := by rfl) (hy : y = nI b := by rfl) (ha : a < 2 ^ 31 := by omega) (hb : b < 2 ^ 31 := by omega) : (x < y → A) ∧ (¬ x < y → B) := by
  subst hx hy
  rw [nI_ltI ha hb]
  exact ⟨f, fun z => g (by omega)⟩
theorem pk_eq {x y : Int32} {A B : Prop} (a b : Nat) (f : a = b → A) (g : a ≠ b → B) (hx : x = nI a := by rfl) (hy : y = nI b := by rfl) (ha : a < 2 ^ 31 := by omega) (hb : b < 2 ^ 31 := by omega) : (x = y → A) ∧ (¬ x = y → B) := by
  subst hx hy
  rw [nI_eq ha hb]
  exact ⟨f, g⟩
theorem pk_in {x : Int32} (n N : Nat) (h : n < N) (hx : x = nI n := by rfl) (hN : N < 2 ^ 31 := by omega) : vp_in x N := by
  subst hx
  exact vp_in_nI h hN
theorem pk_cl {x : Int32} (n : Nat) (hx : x = nI n := by rfl) (h : n < 2 ^ 31 := by omega) : x.toNatClampNeg = n := by
  subst hx
  exact nI_clamp h
theorem pk_tn {n : Nat} (h : n < 2 ^ 32) : (nI n).toBitVec.toNat = n := Nat.mod_eq_of_lt h
theorem pk_and (x : Int32) {m : Int32} (k : Nat) (hm : m.toBitVec.toNat = 2 ^ k - 1) : x &&& m = nI (x.toBitVec.toNat % 2 ^ k) := by
  apply Int32.toBitVec_inj.mp
  apply BitVec.eq_of_toNat_eq
  rw [Int32.toBitVec_and, BitVec.toNat_and, hm, Nat.and_two_pow_sub_one_eq_mod]
  show _ = (BitVec.ofNat 32 _).toNat
  rw [BitVec.toNat_ofNat]
  exact (Nat.mod_eq_of_lt (Nat.lt_of_le_of_lt (Nat.mod_le _ _) x.toBitVec.isLt)).symm
theorem pk_andN {n : Nat} (h : n < 2 ^ 32) {m : Int32} (k : Nat) (hm : m.toBitVec.toNat = 2 ^ k - 1) : nI n &&& m = nI (n % 2 ^ k) := by
  rw [pk_and _ k hm, pk_tn h]
theorem pk_andE (x : Int32) {m : Int32} (k : Nat) (hm : m.toBitVec.toNat = 2 ^ k - 1) : ∃ j : Nat, j < 2 ^ k ∧ x &&& m = nI j := ⟨_, Nat.mod_lt _ (Nat.two_pow_pos k), pk_and x k hm⟩
theorem pk_shr (a s : Int32) (k : Nat) (hs : (s.toBitVec.smod 32).toNat = k) : (a >>> s).toInt = a.toInt >>> k := by
  show (a.toBitVec.sshiftRight (s.toBitVec.smod 32).toNat).toInt = _
  rw [hs, BitVec.toInt_sshiftRight]
  rfl
theorem pk_shrN {n : Nat} (h : n < 2 ^ 31) (s : Int32) (k : Nat) (hs : (s.toBitVec.smod 32).toNat = k) : nI n >>> s = nI (n / 2 ^ k) := by
  apply Int32.toInt_inj.mp
  have h2 : n / 2 ^ k ≤ n := Nat.div_le_self _ _
  rw [pk_shr _ _ k hs, nI_toInt h, nI_toInt (by omega), Int.shiftRight_eq_div_pow]
  rfl
theorem pk_lT {n : Nat} (h : n < 2 ^ 63) : (lN n).toInt = (n : Int) := lg_ofNat_toInt h
theorem pk_lLT {a b : Nat} (ha : a < 2 ^ 63) (hb : b < 2 ^ 63) : lN a < lN b ↔ a < b := by
  rw [Int64.lt_iff_toInt_lt, pk_lT ha, pk_lT hb]; omega
theorem pk_lLE {a b : Nat} (ha : a < 2 ^ 63) (hb : b < 2 ^ 63) : lN a ≤ lN b ↔ a ≤ b := by
  rw [Int64.le_iff_toInt_le, pk_lT ha, pk_lT hb]; omega
def bt (x : Int32) (i : Nat) : Bool := x.toBitVec.getLsbD i
theorem b_ext {x y : Int32} (h : ∀ i, i < 32 → bt x i = bt y i) : x = y := Int32.toBitVec_inj.mp (BitVec.eq_of_getLsbD_eq (fun i hi => h i hi))
theorem b_or (x y : Int32) (i : Nat) : bt (x ||| y) i = (bt x i || bt y i) := by unfold bt; rw [Int32.toBitVec_or, BitVec.getLsbD_or]
theorem b_and (x y : Int32) (i : Nat) : bt (x &&& y) i = (bt x i && bt y i) := by unfold bt; rw [Int32.toBitVec_and, BitVec.getLsbD_and]
theorem b_0 (i : Nat) : bt 0 i = false := BitVec.getLsbD_zero
theorem s_l : ∀ n, n < 32 → ((nI n &&& 31).toBitVec.smod 32).toNat = n := by decide +kernel
theorem b_shl (n : Nat) (hn : n < 32) (x : Int32) {i : Nat} (hi : i < 32) : bt (x <<< (nI n &&& 31)) i = (decide (n ≤ i) && bt x (i - n)) := by
  unfold bt
  rw [Int32.toBitVec_shiftLeft]
  show (x.toBitVec <<< ((nI n &&& 31).toBitVec.smod 32).toNat).getLsbD i = _
  rw [s_l n hn, BitVec.getLsbD_shiftLeft]
  rcases Nat.lt_or_ge i n with h | h
  · simp [h, Nat.not_le.mpr h]
  · simp [hi, h, Nat.not_lt.mpr h]
theorem b_sshr (n : Nat) (hn : n < 32) (x : Int32) {i : Nat} (hi : i < 32) : bt (x >>> (nI n &&& 31)) i = if n + i < 32 then bt x (n + i) else bt x 31 := by
  unfold bt
  rw [Int32.toBitVec_shiftRight]
  show (x.toBitVec.sshiftRight ((nI n &&& 31).toBitVec.smod 32).toNat).getLsbD i = _
  rw [s_l n hn, BitVec.getLsbD_sshiftRight, BitVec.msb_eq_getLsbD_last]
  simp [hi]
theorem nb_i {a b : Nat} (h : nI a = nI b) (ha : a < 2 ^ 31) (hb : b < 2 ^ 31) : a = b := (nI_eq ha hb).mp h
theorem nb_ne {a b : Nat} (h : a ≠ b) (ha : a < 2 ^ 31) (hb : b < 2 ^ 31) : ¬ nI a = nI b := fun e => h (nb_i e ha hb)
theorem nb_cl {n : Nat} (h : n < 2 ^ 31) : (nI n).toNatClampNeg = n := nI_clamp h
theorem nb_c48 {n s : Nat} (h : n < s) (hs : s ≤ 48) : (nI n).toNatClampNeg = n := nI_clamp (by omega)
theorem nb_m1 {n : Nat} (h : 0 < n) : nI n + (-1) = nI (n - 1) := by
  obtain ⟨m, rfl⟩ : ∃ m, n = m + 1 := ⟨n - 1, by omega⟩
  exact pk_m1 m
theorem nb_p1 (n : Nat) : nI (n + 1) - 1 = nI n := nI_pred n
/-- the X test of a bit -/
theorem nb_bX (m : Int32) {t : Nat} (ht : t < 32) : (m &&& ((1 : Int32) <<< (nI t &&& 31))) = 0 ↔ bt m t = false := by
  have h1 : ∀ i, i < 32 → bt ((1 : Int32) <<< (nI t &&& 31)) i = decide (i = t) := by
    intro i hi
    rw [b_shl t ht 1 hi]
    have e : ∀ j, j < 32 → bt 1 j = decide (j = 0) := by decide +kernel
    rw [e (i - t) (by omega)]
    rcases Nat.lt_trichotomy i t with h | h | h
    · rw [decide_eq_false (show ¬ t ≤ i by omega), decide_eq_false (show ¬ i = t by omega)]; rfl
    · subst h; simp
    · rw [decide_eq_false (show ¬ i - t = 0 by omega), decide_eq_false (show ¬ i = t by omega)]; simp
  constructor
  · intro h
    have := b_and m ((1 : Int32) <<< (nI t &&& 31)) t
    rw [h, b_0, h1 t ht] at this
    simpa using this.symm
  · intro h
    apply b_ext
    intro i hi
    rw [b_and, b_0, h1 i hi]
    by_cases e : i = t
    · subst e; rw [h]; rfl
    · rw [decide_eq_false e]; simp
theorem nb_one {t : Nat} (ht : t < 32) {i : Nat} (hi : i < 32) : bt ((1 : Int32) <<< (nI t &&& 31)) i = decide (i = t) := by
  rw [b_shl t ht 1 hi]
  have e : ∀ j, j < 32 → bt 1 j = decide (j = 0) := by decide +kernel
  rw [e (i - t) (by omega)]
  rcases Nat.lt_trichotomy i t with h | h | h
  · rw [decide_eq_false (show ¬ t ≤ i by omega), decide_eq_false (show ¬ i = t by omega)]; rfl
  · subst h; simp
  · rw [decide_eq_false (show ¬ i - t = 0 by omega), decide_eq_false (show ¬ i = t by omega)]; simp
/-- the Y test of a bit -/
theorem nb_bY (m : Int32) {t : Nat} (ht : t < 31) : ((m >>> (nI t &&& 31)) &&& 1) = 1 ↔ bt m t = true := by
  have e : ∀ j, j < 32 → bt 1 j = decide (j = 0) := by decide +kernel
  have h0 : bt (m >>> (nI t &&& 31)) 0 = bt m t := by
    rw [b_sshr t (by omega) m (by omega), if_pos (by omega)]; rfl
  constructor
  · intro h
    have := b_and (m >>> (nI t &&& 31)) 1 0
    rw [h, e 0 (by omega), h0] at this
    simpa using this.symm
  · intro h
    apply b_ext
    intro i hi
    rw [b_and, e i hi]
    by_cases z : i = 0
    · subst z; rw [h0, h]; rfl
    · rw [decide_eq_false z]; simp
end NB
end
section
section PG
/-! the program as a picture: K kinds, A first arguments; depth, piece, bodies -/
abbrev pg_op (K : Nat → Int32) (i : Nat) : Prop := K i = 6 ∨ K i = 7
abbrev pg_ar (A : Nat → Int32) (i : Nat) : Nat := (A i).toNatClampNeg
def pg_dp (K : Nat → Int32) : Nat → Nat
  | 0 => 0
  | i + 1 => if pg_op K i then pg_dp K i + 1 else if K i = 8 then pg_dp K i - 1 else pg_dp K i
def pg_pw (K A : Nat → Int32) : Nat → Nat
  | 0 => 4
  | i + 1 => if K i = 11 then pg_ar A i else pg_pw K A i
def pg_cb (K A : Nat → Int32) (t : Nat) : Nat → Nat
  | 0 => 0
  | i + 1 => if K i = 11 ∧ pg_ar A i = t then pg_cb K A t i + 1 else pg_cb K A t i
def pg_lb (K A : Nat → Int32) (t : Nat) : Nat → Nat
  | 0 => 0
  | i + 1 => if K i = 11 ∧ pg_ar A i = t then i + 1 else pg_lb K A t i
/-- a statement that add takes -/
def pg_vs (k a b c : Int32) : Prop := ∃ n : Nat, n ≤ 11 ∧ k = nI n ∧
  ((n = 9 ∨ n = 11) → ∃ j : Nat, j < 4 ∧ a = nI j) ∧
  (n = 7 → ∃ j : Nat, 1 ≤ j ∧ j ≤ 5 ∧ a = nI j) ∧
  ((n ≤ 6 ∨ n = 10) → ∃ j : Nat, j < 8 ∧ a = nI j) ∧
  ((1 ≤ n ∧ n ≤ 3) → (∃ j : Nat, j < 8 ∧ b = nI j) ∧ (∃ j : Nat, j < 8 ∧ c = nI j)) ∧
  ((n = 4 ∨ n = 5) → (∃ j : Nat, j < 3 ∧ b = nI j) ∧ (∃ j : Nat, j < 8 ∧ c = nI j))
def pg_ok (K A B C : Nat → Int32) (s : Nat) : Prop := ∀ i, i < s → pg_vs (K i) (A i) (B i) (C i)
/-- what the walks of the test for faults need of it -/
def pg_g (K A : Nat → Int32) (s : Nat) : Prop := ∀ i, i < s → (∃ n : Nat, n ≤ 11 ∧ K i = nI n) ∧
  ((K i = 9 ∨ K i = 11) → pg_ar A i < 4 ∧ A i = nI (pg_ar A i)) ∧
  (K i = 7 → 1 ≤ pg_ar A i ∧ pg_ar A i ≤ 5 ∧ A i = nI (pg_ar A i))
theorem pg_of_ok {K A B C : Nat → Int32} {s : Nat} (h : pg_ok K A B C s) : pg_g K A s := by
  intro i hi
  obtain ⟨n, hn, e, h1, h2, _⟩ := h i hi
  refine ⟨⟨n, hn, e⟩, ?_, ?_⟩
  · intro z
    have : n = 9 ∨ n = 11 := by
      rcases z with z | z
      · exact Or.inl (nb_i (b := 9) (e.symm.trans z) (by omega) (by omega))
      · exact Or.inr (nb_i (b := 11) (e.symm.trans z) (by omega) (by omega))
    obtain ⟨j, hj, ea⟩ := h1 this
    have c : pg_ar A i = j := by unfold pg_ar; rw [ea]; exact nb_cl (by omega)
    rw [c]; exact ⟨hj, ea⟩
  · intro z
    obtain ⟨j, hj, hj5, ea⟩ := h2 (nb_i (b := 7) (e.symm.trans z) (by omega) (by omega))
    have c : pg_ar A i = j := by unfold pg_ar; rw [ea]; exact nb_cl (by omega)
    rw [c]; exact ⟨hj, hj5, ea⟩
theorem pg_k_68 {K : Nat → Int32} {i : Nat} (h : K i = 8) : ¬ pg_op K i := by
  intro z; rcases z with z | z <;> · rw [h] at z; exact absurd z (by decide)
theorem pg_dp_op {K : Nat → Int32} {i : Nat} (h : pg_op K i) : pg_dp K (i + 1) = pg_dp K i + 1 := by
  show (if _ then _ else _) = _; rw [if_pos h]
theorem pg_dp_end {K : Nat → Int32} {i : Nat} (h : K i = 8) : pg_dp K (i + 1) = pg_dp K i - 1 := by
  show (if _ then _ else _) = _; rw [if_neg (pg_k_68 h), if_pos h]
theorem pg_dp_no {K : Nat → Int32} {i : Nat} (h : ¬ pg_op K i) (h8 : ¬ K i = 8) : pg_dp K (i + 1) = pg_dp K i := by
  show (if _ then _ else _) = _; rw [if_neg h, if_neg h8]
/-- the first i statements stand well -/
def pg_wp (K : Nat → Int32) (s : Nat) : Prop := ∀ i, i < s → (K i = 11 → pg_dp K i = 0) ∧ (pg_op K i → pg_dp K i < 3) ∧ (K i = 8 → 0 < pg_dp K i)
def pg_wf (K : Nat → Int32) (s : Nat) : Prop := pg_wp K s ∧ pg_dp K s = 0
theorem pg_wp_s {K : Nat → Int32} {i : Nat} (h : pg_wp K i) (h1 : K i = 11 → pg_dp K i = 0) (h2 : pg_op K i → pg_dp K i < 3) (h3 : K i = 8 → 0 < pg_dp K i) : pg_wp K (i + 1) := by
  intro j hj
  rcases Nat.lt_or_eq_of_le (Nat.le_of_lt_succ hj) with z | z
  · exact h j z
  · subst z; exact ⟨h1, h2, h3⟩
theorem pg_dp3 {K : Nat → Int32} {s : Nat} (h : pg_wp K s) : ∀ i, i ≤ s → pg_dp K i ≤ 3 := by
  intro i
  induction i with
  | zero => intro _; exact Nat.zero_le _
  | succ i ih =>
    intro hi
    have h0 := ih (by omega)
    by_cases o : pg_op K i
    · rw [pg_dp_op o]; have := (h i (by omega)).2.1 o; omega
    · by_cases e : K i = 8
      · rw [pg_dp_end e]; omega
      · rw [pg_dp_no o e]; exact h0
/-- an opener and its END -/
def pg_mt (K : Nat → Int32) (q e : Nat) : Prop := q < e ∧ pg_op K q ∧ K e = 8 ∧ pg_dp K (e + 1) = pg_dp K q ∧ ∀ k, q < k → k ≤ e → pg_dp K q < pg_dp K k
def pg_pr (K : Nat → Int32) (s : Nat) (pa : Nat → Int32) : Prop :=
  (∀ e, e < s → K e = 8 → ∃ q, pa e = nI q ∧ pg_mt K q e) ∧ (∀ q, q < s → pg_op K q → ∃ e, e < s ∧ pa q = nI e ∧ pg_mt K q e)
def pg_pi (K : Nat → Int32) (i : Nat) (oa pa : Nat → Int32) : Prop :=
  (∀ j, j < pg_dp K i → ∃ q, q < i ∧ oa j = nI q ∧ pg_op K q ∧ pg_dp K q = j ∧ ∀ k, q < k → k ≤ i → j < pg_dp K k) ∧
  (∀ e, e < i → K e = 8 → ∃ q, pa e = nI q ∧ pg_mt K q e) ∧
  (∀ q, q < i → pg_op K q → (∃ e, e < i ∧ pa q = nI e ∧ pg_mt K q e) ∨ (oa (pg_dp K q) = nI q ∧ pg_dp K q < pg_dp K i))
theorem pg_pi_0 (K oa pa : Nat → Int32) : pg_pi K 0 oa pa :=
  ⟨fun j hj => absurd hj (Nat.not_lt_zero _), fun e he => absurd he (Nat.not_lt_zero _), fun q hq => absurd hq (Nat.not_lt_zero _)⟩
theorem pg_pi_no {K oa pa : Nat → Int32} {i : Nat} (h : pg_pi K i oa pa) (o : ¬ pg_op K i) (e8 : ¬ K i = 8) : pg_pi K (i + 1) oa pa := by
  obtain ⟨h1, h2, h3⟩ := h
  have d := pg_dp_no o e8
  refine ⟨?_, ?_, ?_⟩
  · intro j hj
    rw [d] at hj
    obtain ⟨q, hq, a, b, c, f⟩ := h1 j hj
    refine ⟨q, by omega, a, b, c, fun k k1 k2 => ?_⟩
    rcases Nat.lt_or_eq_of_le k2 with z | z
    · exact f k k1 (by omega)
    · rw [z, d]; exact hj
  · intro e he k8
    rcases Nat.lt_or_eq_of_le (Nat.le_of_lt_succ he) with z | z
    · exact h2 e z k8
    · rw [z] at k8; exact absurd k8 e8
  · intro q hq ho
    rcases Nat.lt_or_eq_of_le (Nat.le_of_lt_succ hq) with z | z
    · rcases h3 q z ho with ⟨e, a, b, c⟩ | ⟨a, b⟩
      · exact Or.inl ⟨e, by omega, b, c⟩
      · exact Or.inr ⟨a, by rw [d]; exact b⟩
    · rw [z] at ho; exact absurd ho o
theorem pg_pi_op {K oa pa : Nat → Int32} {i : Nat} (h : pg_pi K i oa pa) (o : pg_op K i) : pg_pi K (i + 1) (upd oa (pg_dp K i) (nI i)) pa := by
  obtain ⟨h1, h2, h3⟩ := h
  have d := pg_dp_op o
  have e8 : ¬ K i = 8 := fun z => pg_k_68 z o
  refine ⟨?_, ?_, ?_⟩
  · intro j hj
    rw [d] at hj
    by_cases z : j = pg_dp K i
    · refine ⟨i, by omega, by rw [z]; exact pk_us, o, z.symm, fun k k1 k2 => ?_⟩
      have : k = i + 1 := by omega
      rw [this, d]; exact hj
    · obtain ⟨q, hq, a, b, c, f⟩ := h1 j (by omega)
      refine ⟨q, by omega, by rw [pk_un z]; exact a, b, c, fun k k1 k2 => ?_⟩
      rcases Nat.lt_or_eq_of_le k2 with y | y
      · exact f k k1 (by omega)
      · rw [y, d]; exact hj
  · intro e he k8
    rcases Nat.lt_or_eq_of_le (Nat.le_of_lt_succ he) with z | z
    · exact h2 e z k8
    · rw [z] at k8; exact absurd k8 e8
  · intro q hq ho
    rcases Nat.lt_or_eq_of_le (Nat.le_of_lt_succ hq) with z | z
    · rcases h3 q z ho with ⟨e, a, b, c⟩ | ⟨a, b⟩
      · exact Or.inl ⟨e, by omega, b, c⟩
      · exact Or.inr ⟨by rw [pk_un (by omega)]; exact a, by omega⟩
    · rw [z]; exact Or.inr ⟨pk_us, by omega⟩
theorem pg_pi_end {K oa pa : Nat → Int32} {i q0 : Nat} (hi : i < 2 ^ 31) (h : pg_pi K i oa pa) (e8 : K i = 8) (hd : 0 < pg_dp K i) (hq0 : q0 < i) (eq0 : oa (pg_dp K i - 1) = nI q0) :
    pg_pi K (i + 1) oa (upd (upd pa i (nI q0)) q0 (nI i)) := by
  obtain ⟨h1, h2, h3⟩ := h
  have d := pg_dp_end e8
  obtain ⟨q, hq, a, b, c, f⟩ := h1 (pg_dp K i - 1) (by omega)
  have eq : q = q0 := nb_i (a.symm.trans eq0) (by omega) (by omega)
  subst eq
  have M : pg_mt K q i := ⟨hq0, b, e8, by rw [d, c], fun k k1 k2 => by rw [c]; exact f k k1 k2⟩
  refine ⟨?_, ?_, ?_⟩
  · intro j hj
    obtain ⟨q', hq', a', b', c', f'⟩ := h1 j (by omega)
    refine ⟨q', by omega, a', b', c', fun k k1 k2 => ?_⟩
    rcases Nat.lt_or_eq_of_le k2 with z | z
    · exact f' k k1 (by omega)
    · rw [z]; exact hj
  · intro e he k8
    have ne : e ≠ q := fun z => by rw [z] at k8; exact pg_k_68 k8 b
    rcases Nat.lt_or_eq_of_le (Nat.le_of_lt_succ he) with z | z
    · obtain ⟨q', a', b'⟩ := h2 e z k8
      exact ⟨q', by rw [pk_un ne, pk_un (by omega)]; exact a', b'⟩
    · refine ⟨q, ?_, by rw [z]; exact M⟩
      rw [pk_un ne, z]; exact pk_us
  · intro q' hq' ho
    by_cases z0 : q' = q
    · subst z0; exact Or.inl ⟨i, by omega, pk_us, M⟩
    · have zi : q' ≠ i := fun z => by rw [z] at ho; exact pg_k_68 e8 ho
      rcases h3 q' (by omega) ho with ⟨e, a', b', c'⟩ | ⟨a', b'⟩
      · exact Or.inl ⟨e, by omega, by rw [pk_un z0, pk_un zi]; exact b', c'⟩
      · refine Or.inr ⟨a', ?_⟩
        have : pg_dp K q' ≠ pg_dp K i - 1 := by
          intro y
          rw [y, a] at a'
          exact z0 (nb_i a' (by omega) (by omega)).symm
        omega
theorem pg_pi_pr {K oa pa : Nat → Int32} {s : Nat} (h : pg_pi K s oa pa) (d : pg_dp K s = 0) : pg_pr K s pa := by
  refine ⟨h.2.1, fun q hq ho => ?_⟩
  rcases h.2.2 q hq ho with z | ⟨_, z⟩
  · exact z
  · omega
/-! pieces and bodies -/
theorem pg_pw_b {K A : Nat → Int32} {i : Nat} (h : K i = 11) : pg_pw K A (i + 1) = pg_ar A i := by
  show (if _ then _ else _) = _; rw [if_pos h]
theorem pg_pw_n {K A : Nat → Int32} {i : Nat} (h : ¬ K i = 11) : pg_pw K A (i + 1) = pg_pw K A i := by
  show (if _ then _ else _) = _; rw [if_neg h]
theorem pg_pw4 {K A : Nat → Int32} {s : Nat} (g : pg_g K A s) : ∀ i, i ≤ s → pg_pw K A i ≤ 4 := by
  intro i
  induction i with
  | zero => intro _; exact Nat.le_refl 4
  | succ i ih =>
    intro hi
    by_cases b : K i = 11
    · rw [pg_pw_b b]; have := ((g i (by omega)).2.1 (Or.inr b)).1; omega
    · rw [pg_pw_n b]; exact ih (by omega)
/-- the last body before k -/
theorem pg_pw_at {K A : Nat → Int32} : ∀ k t, pg_pw K A k = t → t ≠ 4 → ∃ m, m < k ∧ K m = 11 ∧ pg_ar A m = t ∧ ∀ j, m < j → j < k → ¬ K j = 11 := by
  intro k
  induction k with
  | zero => intro t h h4; exact absurd h.symm h4
  | succ k ih =>
    intro t h h4
    by_cases b : K k = 11
    · rw [pg_pw_b b] at h
      exact ⟨k, by omega, b, h, fun j j1 j2 => by omega⟩
    · rw [pg_pw_n b] at h
      obtain ⟨m, a1, a2, a3, a4⟩ := ih t h h4
      refine ⟨m, by omega, a2, a3, fun j j1 j2 => ?_⟩
      by_cases z : j = k
      · rw [z]; exact b
      · exact a4 j j1 (by omega)
theorem pg_pw_main {K A : Nat → Int32} {s : Nat} (g : pg_g K A s) : ∀ k, k ≤ s → pg_pw K A k = 4 → ∀ j, j < k → ¬ K j = 11 := by
  intro k
  induction k with
  | zero => intro _ _ j hj; omega
  | succ k ih =>
    intro hk h j hj
    by_cases b : K k = 11
    · rw [pg_pw_b b] at h; have := ((g k (by omega)).2.1 (Or.inr b)).1; omega
    · rw [pg_pw_n b] at h
      by_cases z : j = k
      · rw [z]; exact b
      · exact ih (by omega) h j (by omega)
theorem pg_pw_run {K A : Nat → Int32} {i : Nat} : ∀ k, i ≤ k → (∀ j, i ≤ j → j < k → ¬ K j = 11) → pg_pw K A k = pg_pw K A i := by
  intro k
  induction k with
  | zero => intro h _; rw [show i = 0 by omega]
  | succ k ih =>
    intro h hb
    by_cases z : i = k + 1
    · rw [z]
    · rw [pg_pw_n (hb k (by omega) (by omega))]
      exact ih (by omega) (fun j j1 j2 => hb j j1 (by omega))
theorem pg_cb_y {K A : Nat → Int32} {t i : Nat} (h : K i = 11) (ht : pg_ar A i = t) : pg_cb K A t (i + 1) = pg_cb K A t i + 1 := by
  show (if _ then _ else _) = _; rw [if_pos ⟨h, ht⟩]
theorem pg_cb_n {K A : Nat → Int32} {t i : Nat} (h : ¬ (K i = 11 ∧ pg_ar A i = t)) : pg_cb K A t (i + 1) = pg_cb K A t i := by
  show (if _ then _ else _) = _; rw [if_neg h]
theorem pg_lb_y {K A : Nat → Int32} {t i : Nat} (h : K i = 11) (ht : pg_ar A i = t) : pg_lb K A t (i + 1) = i + 1 := by
  show (if _ then _ else _) = _; rw [if_pos ⟨h, ht⟩]
theorem pg_lb_n {K A : Nat → Int32} {t i : Nat} (h : ¬ (K i = 11 ∧ pg_ar A i = t)) : pg_lb K A t (i + 1) = pg_lb K A t i := by
  show (if _ then _ else _) = _; rw [if_neg h]
theorem pg_cb_mono {K A : Nat → Int32} {t : Nat} : ∀ i j, i ≤ j → pg_cb K A t i ≤ pg_cb K A t j := by
  intro i j
  induction j with
  | zero => intro h; rw [show i = 0 by omega]; exact Nat.le_refl _
  | succ j ih =>
    intro h
    by_cases z : i = j + 1
    · rw [z]; exact Nat.le_refl _
    · have := ih (by omega)
      by_cases y : K j = 11 ∧ pg_ar A j = t
      · rw [pg_cb_y y.1 y.2]; omega
      · rw [pg_cb_n y]; exact this
theorem pg_lb_le {K A : Nat → Int32} {t : Nat} : ∀ i, pg_lb K A t i ≤ i := by
  intro i
  induction i with
  | zero => exact Nat.le_refl 0
  | succ i ih =>
    by_cases y : K i = 11 ∧ pg_ar A i = t
    · rw [pg_lb_y y.1 y.2]; exact Nat.le_refl _
    · rw [pg_lb_n y]; omega
theorem pg_lb_cb {K A : Nat → Int32} {t : Nat} : ∀ i, pg_lb K A t i = 0 ↔ pg_cb K A t i = 0 := by
  intro i
  induction i with
  | zero => exact ⟨fun _ => rfl, fun _ => rfl⟩
  | succ i ih =>
    by_cases h : K i = 11 ∧ pg_ar A i = t
    · rw [pg_lb_y h.1 h.2, pg_cb_y h.1 h.2]; omega
    · rw [pg_lb_n h, pg_cb_n h]; exact ih
theorem pg_lb_b {K A : Nat → Int32} {t : Nat} : ∀ i, pg_lb K A t i ≠ 0 → K (pg_lb K A t i - 1) = 11 ∧ pg_ar A (pg_lb K A t i - 1) = t := by
  intro i
  induction i with
  | zero => intro h; exact absurd rfl h
  | succ i ih =>
    by_cases h : K i = 11 ∧ pg_ar A i = t
    · rw [pg_lb_y h.1 h.2]; intro _; exact h
    · rw [pg_lb_n h]; exact ih
/-- no subroutine has two bodies -/
def pg_nt (K A : Nat → Int32) (s : Nat) : Prop := ∀ t, t < 4 → pg_cb K A t s ≤ 1
theorem pg_nt_u {K A : Nat → Int32} {s t i j : Nat} (h : pg_cb K A t s ≤ 1) (hi : i < s) (hj : j < s) (ki : K i = 11) (kj : K j = 11) (ai : pg_ar A i = t) (aj : pg_ar A j = t) : i = j := by
  have key : ∀ i j, i < j → j < s → K i = 11 → K j = 11 → pg_ar A i = t → pg_ar A j = t → False := by
    intro i j hij hj ki kj ai aj
    have h1 := pg_cb_mono (K := K) (A := A) (t := t) (i + 1) j (by omega)
    have h2 := pg_cb_mono (K := K) (A := A) (t := t) (j + 1) s (by omega)
    rw [pg_cb_y ki ai] at h1
    rw [pg_cb_y kj aj] at h2
    omega
  rcases Nat.lt_trichotomy i j with z | z | z
  · exact (key i j z hj ki kj ai aj).elim
  · exact z
  · exact (key j i z hi kj ki aj ai).elim
/-- every call has a body -/
def pg_nm (K A : Nat → Int32) (s : Nat) : Prop := ∀ i, i < s → K i = 9 → pg_lb K A (pg_ar A i) s ≠ 0
end PG
end
