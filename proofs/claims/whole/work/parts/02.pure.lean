section PG
/-! the program as a picture: K kinds, A first arguments; depth, piece, bodies -/
abbrev pg_op (K : Nat → Int32) (i : Nat) : Prop := K i = 6 ∨ K i = 7
abbrev pg_ar (A : Nat → Int32) (i : Nat) : Nat := (A i).toNatClampNeg
def pg_dp (K : Nat → Int32) : Nat → Nat
  | 0 => 0
  | i + 1 => if pg_op K i then pg_dp K i + 1 else if K i = 8 then pg_dp K i - 1 else pg_dp K i
def pg_pw (K A : Nat → Int32) : Nat → Nat
  | 0 => 4
  | i + 1 => if K i = 11 then pg_ar A i else pg_pw K A i
def pg_cb (K A : Nat → Int32) (t : Nat) : Nat → Nat
  | 0 => 0
  | i + 1 => if K i = 11 ∧ pg_ar A i = t then pg_cb K A t i + 1 else pg_cb K A t i
def pg_lb (K A : Nat → Int32) (t : Nat) : Nat → Nat
  | 0 => 0
  | i + 1 => if K i = 11 ∧ pg_ar A i = t then i + 1 else pg_lb K A t i
/-- a statement that add takes -/
def pg_vs (k a b c : Int32) : Prop := ∃ n : Nat, n ≤ 11 ∧ k = nI n ∧
  ((n = 9 ∨ n = 11) → ∃ j : Nat, j < 4 ∧ a = nI j) ∧
  (n = 7 → ∃ j : Nat, 1 ≤ j ∧ j ≤ 5 ∧ a = nI j) ∧
  ((n ≤ 6 ∨ n = 10) → ∃ j : Nat, j < 8 ∧ a = nI j) ∧
  ((1 ≤ n ∧ n ≤ 3) → (∃ j : Nat, j < 8 ∧ b = nI j) ∧ (∃ j : Nat, j < 8 ∧ c = nI j)) ∧
  ((n = 4 ∨ n = 5) → (∃ j : Nat, j < 3 ∧ b = nI j) ∧ (∃ j : Nat, j < 8 ∧ c = nI j))
def pg_ok (K A B C : Nat → Int32) (s : Nat) : Prop := ∀ i, i < s → pg_vs (K i) (A i) (B i) (C i)
/-- what the walks of the test for faults need of it -/
def pg_g (K A : Nat → Int32) (s : Nat) : Prop := ∀ i, i < s → (∃ n : Nat, n ≤ 11 ∧ K i = nI n) ∧
  ((K i = 9 ∨ K i = 11) → pg_ar A i < 4 ∧ A i = nI (pg_ar A i)) ∧
  (K i = 7 → 1 ≤ pg_ar A i ∧ pg_ar A i ≤ 5 ∧ A i = nI (pg_ar A i))
theorem pg_of_ok {K A B C : Nat → Int32} {s : Nat} (h : pg_ok K A B C s) : pg_g K A s := by
  intro i hi
  obtain ⟨n, hn, e, h1, h2, _⟩ := h i hi
  refine ⟨⟨n, hn, e⟩, ?_, ?_⟩
  · intro z
    have : n = 9 ∨ n = 11 := by
      rcases z with z | z
      · exact Or.inl (nb_i (b := 9) (e.symm.trans z) (by omega) (by omega))
      · exact Or.inr (nb_i (b := 11) (e.symm.trans z) (by omega) (by omega))
    obtain ⟨j, hj, ea⟩ := h1 this
    have c : pg_ar A i = j := by unfold pg_ar; rw [ea]; exact nb_cl (by omega)
    rw [c]; exact ⟨hj, ea⟩
  · intro z
    obtain ⟨j, hj, hj5, ea⟩ := h2 (nb_i (b := 7) (e.symm.trans z) (by omega) (by omega))
    have c : pg_ar A i = j := by unfold pg_ar; rw [ea]; exact nb_cl (by omega)
    rw [c]; exact ⟨hj, hj5, ea⟩
theorem pg_k_68 {K : Nat → Int32} {i : Nat} (h : K i = 8) : ¬ pg_op K i := by
  intro z; rcases z with z | z <;> · rw [h] at z; exact absurd z (by decide)
theorem pg_dp_op {K : Nat → Int32} {i : Nat} (h : pg_op K i) : pg_dp K (i + 1) = pg_dp K i + 1 := by
  show (if _ then _ else _) = _; rw [if_pos h]
theorem pg_dp_end {K : Nat → Int32} {i : Nat} (h : K i = 8) : pg_dp K (i + 1) = pg_dp K i - 1 := by
  show (if _ then _ else _) = _; rw [if_neg (pg_k_68 h), if_pos h]
theorem pg_dp_no {K : Nat → Int32} {i : Nat} (h : ¬ pg_op K i) (h8 : ¬ K i = 8) : pg_dp K (i + 1) = pg_dp K i := by
  show (if _ then _ else _) = _; rw [if_neg h, if_neg h8]
/-- the first i statements stand well -/
def pg_wp (K : Nat → Int32) (s : Nat) : Prop := ∀ i, i < s → (K i = 11 → pg_dp K i = 0) ∧ (pg_op K i → pg_dp K i < 3) ∧ (K i = 8 → 0 < pg_dp K i)
def pg_wf (K : Nat → Int32) (s : Nat) : Prop := pg_wp K s ∧ pg_dp K s = 0
theorem pg_wp_s {K : Nat → Int32} {i : Nat} (h : pg_wp K i) (h1 : K i = 11 → pg_dp K i = 0) (h2 : pg_op K i → pg_dp K i < 3) (h3 : K i = 8 → 0 < pg_dp K i) : pg_wp K (i + 1) := by
  intro j hj
  rcases Nat.lt_or_eq_of_le (Nat.le_of_lt_succ hj) with z | z
  · exact h j z
  · subst z; exact ⟨h1, h2, h3⟩
theorem pg_dp3 {K : Nat → Int32} {s : Nat} (h : pg_wp K s) : ∀ i, i ≤ s → pg_dp K i ≤ 3 := by
  intro i
  induction i with
  | zero => intro _; exact Nat.zero_le _
  | succ i ih =>
    intro hi
    have h0 := ih (by omega)
    by_cases o : pg_op K i
    · rw [pg_dp_op o]; have := (h i (by omega)).2.1 o; omega
    · by_cases e : K i = 8
      · rw [pg_dp_end e]; omega
      · rw [pg_dp_no o e]; exact h0
/-- an opener and its END -/
def pg_mt (K : Nat → Int32) (q e : Nat) : Prop := q < e ∧ pg_op K q ∧ K e = 8 ∧ pg_dp K (e + 1) = pg_dp K q ∧ ∀ k, q < k → k ≤ e → pg_dp K q < pg_dp K k
def pg_pr (K : Nat → Int32) (s : Nat) (pa : Nat → Int32) : Prop :=
  (∀ e, e < s → K e = 8 → ∃ q, pa e = nI q ∧ pg_mt K q e) ∧ (∀ q, q < s → pg_op K q → ∃ e, e < s ∧ pa q = nI e ∧ pg_mt K q e)
def pg_pi (K : Nat → Int32) (i : Nat) (oa pa : Nat → Int32) : Prop :=
  (∀ j, j < pg_dp K i → ∃ q, q < i ∧ oa j = nI q ∧ pg_op K q ∧ pg_dp K q = j ∧ ∀ k, q < k → k ≤ i → j < pg_dp K k) ∧
  (∀ e, e < i → K e = 8 → ∃ q, pa e = nI q ∧ pg_mt K q e) ∧
  (∀ q, q < i → pg_op K q → (∃ e, e < i ∧ pa q = nI e ∧ pg_mt K q e) ∨ (oa (pg_dp K q) = nI q ∧ pg_dp K q < pg_dp K i))
theorem pg_pi_0 (K oa pa : Nat → Int32) : pg_pi K 0 oa pa :=
  ⟨fun j hj => absurd hj (Nat.not_lt_zero _), fun e he => absurd he (Nat.not_lt_zero _), fun q hq => absurd hq (Nat.not_lt_zero _)⟩
theorem pg_pi_no {K oa pa : Nat → Int32} {i : Nat} (h : pg_pi K i oa pa) (o : ¬ pg_op K i) (e8 : ¬ K i = 8) : pg_pi K (i + 1) oa pa := by
  obtain ⟨h1, h2, h3⟩ := h
  have d := pg_dp_no o e8
  refine ⟨?_, ?_, ?_⟩
  · intro j hj
    rw [d] at hj
    obtain ⟨q, hq, a, b, c, f⟩ := h1 j hj
    refine ⟨q, by omega, a, b, c, fun k k1 k2 => ?_⟩
    rcases Nat.lt_or_eq_of_le k2 with z | z
    · exact f k k1 (by omega)
    · rw [z, d]; exact hj
  · intro e he k8
    rcases Nat.lt_or_eq_of_le (Nat.le_of_lt_succ he) with z | z
    · exact h2 e z k8
    · rw [z] at k8; exact absurd k8 e8
  · intro q hq ho
    rcases Nat.lt_or_eq_of_le (Nat.le_of_lt_succ hq) with z | z
    · rcases h3 q z ho with ⟨e, a, b, c⟩ | ⟨a, b⟩
      · exact Or.inl ⟨e, by omega, b, c⟩
      · exact Or.inr ⟨a, by rw [d]; exact b⟩
    · rw [z] at ho; exact absurd ho o
theorem pg_pi_op {K oa pa : Nat → Int32} {i : Nat} (h : pg_pi K i oa pa) (o : pg_op K i) : pg_pi K (i + 1) (upd oa (pg_dp K i) (nI i)) pa := by
  obtain ⟨h1, h2, h3⟩ := h
  have d := pg_dp_op o
  have e8 : ¬ K i = 8 := fun z => pg_k_68 z o
  refine ⟨?_, ?_, ?_⟩
  · intro j hj
    rw [d] at hj
    by_cases z : j = pg_dp K i
    · refine ⟨i, by omega, by rw [z]; exact pk_us, o, z.symm, fun k k1 k2 => ?_⟩
      have : k = i + 1 := by omega
      rw [this, d]; exact hj
    · obtain ⟨q, hq, a, b, c, f⟩ := h1 j (by omega)
      refine ⟨q, by omega, by rw [pk_un z]; exact a, b, c, fun k k1 k2 => ?_⟩
      rcases Nat.lt_or_eq_of_le k2 with y | y
      · exact f k k1 (by omega)
      · rw [y, d]; exact hj
  · intro e he k8
    rcases Nat.lt_or_eq_of_le (Nat.le_of_lt_succ he) with z | z
    · exact h2 e z k8
    · rw [z] at k8; exact absurd k8 e8
  · intro q hq ho
    rcases Nat.lt_or_eq_of_le (Nat.le_of_lt_succ hq) with z | z
    · rcases h3 q z ho with ⟨e, a, b, c⟩ | ⟨a, b⟩
      · exact Or.inl ⟨e, by omega, b, c⟩
      · exact Or.inr ⟨by rw [pk_un (by omega)]; exact a, by omega⟩
    · rw [z]; exact Or.inr ⟨pk_us, by omega⟩
theorem pg_pi_end {K oa pa : Nat → Int32} {i q0 : Nat} (hi : i < 2 ^ 31) (h : pg_pi K i oa pa) (e8 : K i = 8) (hd : 0 < pg_dp K i) (hq0 : q0 < i) (eq0 : oa (pg_dp K i - 1) = nI q0) :
    pg_pi K (i + 1) oa (upd (upd pa i (nI q0)) q0 (nI i)) := by
  obtain ⟨h1, h2, h3⟩ := h
  have d := pg_dp_end e8
  obtain ⟨q, hq, a, b, c, f⟩ := h1 (pg_dp K i - 1) (by omega)
  have eq : q = q0 := nb_i (a.symm.trans eq0) (by omega) (by omega)
  subst eq
  have M : pg_mt K q i := ⟨hq0, b, e8, by rw [d, c], fun k k1 k2 => by rw [c]; exact f k k1 k2⟩
  refine ⟨?_, ?_, ?_⟩
  · intro j hj
    obtain ⟨q', hq', a', b', c', f'⟩ := h1 j (by omega)
    refine ⟨q', by omega, a', b', c', fun k k1 k2 => ?_⟩
    rcases Nat.lt_or_eq_of_le k2 with z | z
    · exact f' k k1 (by omega)
    · rw [z]; exact hj
  · intro e he k8
    have ne : e ≠ q := fun z => by rw [z] at k8; exact pg_k_68 k8 b
    rcases Nat.lt_or_eq_of_le (Nat.le_of_lt_succ he) with z | z
    · obtain ⟨q', a', b'⟩ := h2 e z k8
      exact ⟨q', by rw [pk_un ne, pk_un (by omega)]; exact a', b'⟩
    · refine ⟨q, ?_, by rw [z]; exact M⟩
      rw [pk_un ne, z]; exact pk_us
  · intro q' hq' ho
    by_cases z0 : q' = q
    · subst z0; exact Or.inl ⟨i, by omega, pk_us, M⟩
    · have zi : q' ≠ i := fun z => by rw [z] at ho; exact pg_k_68 e8 ho
      rcases h3 q' (by omega) ho with ⟨e, a', b', c'⟩ | ⟨a', b'⟩
      · exact Or.inl ⟨e, by omega, by rw [pk_un z0, pk_un zi]; exact b', c'⟩
      · refine Or.inr ⟨a', ?_⟩
        have : pg_dp K q' ≠ pg_dp K i - 1 := by
          intro y
          rw [y, a] at a'
          exact z0 (nb_i a' (by omega) (by omega)).symm
        omega
theorem pg_pi_pr {K oa pa : Nat → Int32} {s : Nat} (h : pg_pi K s oa pa) (d : pg_dp K s = 0) : pg_pr K s pa := by
  refine ⟨h.2.1, fun q hq ho => ?_⟩
  rcases h.2.2 q hq ho with z | ⟨_, z⟩
  · exact z
  · omega
/-! pieces and bodies -/
theorem pg_pw_b {K A : Nat → Int32} {i : Nat} (h : K i = 11) : pg_pw K A (i + 1) = pg_ar A i := by
  show (if _ then _ else _) = _; rw [if_pos h]
theorem pg_pw_n {K A : Nat → Int32} {i : Nat} (h : ¬ K i = 11) : pg_pw K A (i + 1) = pg_pw K A i := by
  show (if _ then _ else _) = _; rw [if_neg h]
theorem pg_pw4 {K A : Nat → Int32} {s : Nat} (g : pg_g K A s) : ∀ i, i ≤ s → pg_pw K A i ≤ 4 := by
  intro i
  induction i with
  | zero => intro _; exact Nat.le_refl 4
  | succ i ih =>
    intro hi
    by_cases b : K i = 11
    · rw [pg_pw_b b]; have := ((g i (by omega)).2.1 (Or.inr b)).1; omega
    · rw [pg_pw_n b]; exact ih (by omega)
/-- the last body before k -/
theorem pg_pw_at {K A : Nat → Int32} : ∀ k t, pg_pw K A k = t → t ≠ 4 → ∃ m, m < k ∧ K m = 11 ∧ pg_ar A m = t ∧ ∀ j, m < j → j < k → ¬ K j = 11 := by
  intro k
  induction k with
  | zero => intro t h h4; exact absurd h.symm h4
  | succ k ih =>
    intro t h h4
    by_cases b : K k = 11
    · rw [pg_pw_b b] at h
      exact ⟨k, by omega, b, h, fun j j1 j2 => by omega⟩
    · rw [pg_pw_n b] at h
      obtain ⟨m, a1, a2, a3, a4⟩ := ih t h h4
      refine ⟨m, by omega, a2, a3, fun j j1 j2 => ?_⟩
      by_cases z : j = k
      · rw [z]; exact b
      · exact a4 j j1 (by omega)
theorem pg_pw_main {K A : Nat → Int32} {s : Nat} (g : pg_g K A s) : ∀ k, k ≤ s → pg_pw K A k = 4 → ∀ j, j < k → ¬ K j = 11 := by
  intro k
  induction k with
  | zero => intro _ _ j hj; omega
  | succ k ih =>
    intro hk h j hj
    by_cases b : K k = 11
    · rw [pg_pw_b b] at h; have := ((g k (by omega)).2.1 (Or.inr b)).1; omega
    · rw [pg_pw_n b] at h
      by_cases z : j = k
      · rw [z]; exact b
      · exact ih (by omega) h j (by omega)
theorem pg_pw_run {K A : Nat → Int32} {i : Nat} : ∀ k, i ≤ k → (∀ j, i ≤ j → j < k → ¬ K j = 11) → pg_pw K A k = pg_pw K A i := by
  intro k
  induction k with
  | zero => intro h _; rw [show i = 0 by omega]
  | succ k ih =>
    intro h hb
    by_cases z : i = k + 1
    · rw [z]
    · rw [pg_pw_n (hb k (by omega) (by omega))]
      exact ih (by omega) (fun j j1 j2 => hb j j1 (by omega))
theorem pg_cb_y {K A : Nat → Int32} {t i : Nat} (h : K i = 11) (ht : pg_ar A i = t) : pg_cb K A t (i + 1) = pg_cb K A t i + 1 := by
  show (if _ then _ else _) = _; rw [if_pos ⟨h, ht⟩]
theorem pg_cb_n {K A : Nat → Int32} {t i : Nat} (h : ¬ (K i = 11 ∧ pg_ar A i = t)) : pg_cb K A t (i + 1) = pg_cb K A t i := by
  show (if _ then _ else _) = _; rw [if_neg h]
theorem pg_lb_y {K A : Nat → Int32} {t i : Nat} (h : K i = 11) (ht : pg_ar A i = t) : pg_lb K A t (i + 1) = i + 1 := by
  show (if _ then _ else _) = _; rw [if_pos ⟨h, ht⟩]
theorem pg_lb_n {K A : Nat → Int32} {t i : Nat} (h : ¬ (K i = 11 ∧ pg_ar A i = t)) : pg_lb K A t (i + 1) = pg_lb K A t i := by
  show (if _ then _ else _) = _; rw [if_neg h]
theorem pg_cb_mono {K A : Nat → Int32} {t : Nat} : ∀ i j, i ≤ j → pg_cb K A t i ≤ pg_cb K A t j := by
  intro i j
  induction j with
  | zero => intro h; rw [show i = 0 by omega]; exact Nat.le_refl _
  | succ j ih =>
    intro h
    by_cases z : i = j + 1
    · rw [z]; exact Nat.le_refl _
    · have := ih (by omega)
      by_cases y : K j = 11 ∧ pg_ar A j = t
      · rw [pg_cb_y y.1 y.2]; omega
      · rw [pg_cb_n y]; exact this
theorem pg_lb_le {K A : Nat → Int32} {t : Nat} : ∀ i, pg_lb K A t i ≤ i := by
  intro i
  induction i with
  | zero => exact Nat.le_refl 0
  | succ i ih =>
    by_cases y : K i = 11 ∧ pg_ar A i = t
    · rw [pg_lb_y y.1 y.2]; exact Nat.le_refl _
    · rw [pg_lb_n y]; omega
theorem pg_lb_cb {K A : Nat → Int32} {t : Nat} : ∀ i, pg_lb K A t i = 0 ↔ pg_cb K A t i = 0 := by
  intro i
  induction i with
  | zero => exact ⟨fun _ => rfl, fun _ => rfl⟩
  | succ i ih =>
    by_cases h : K i = 11 ∧ pg_ar A i = t
    · rw [pg_lb_y h.1 h.2, pg_cb_y h.1 h.2]; omega
    · rw [pg_lb_n h, pg_cb_n h]; exact ih
theorem pg_lb_b {K A : Nat → Int32} {t : Nat} : ∀ i, pg_lb K A t i ≠ 0 → K (pg_lb K A t i - 1) = 11 ∧ pg_ar A (pg_lb K A t i - 1) = t := by
  intro i
  induction i with
  | zero => intro h; exact absurd rfl h
  | succ i ih =>
    by_cases h : K i = 11 ∧ pg_ar A i = t
    · rw [pg_lb_y h.1 h.2]; intro _; exact h
    · rw [pg_lb_n h]; exact ih
/-- no subroutine has two bodies -/
def pg_nt (K A : Nat → Int32) (s : Nat) : Prop := ∀ t, t < 4 → pg_cb K A t s ≤ 1
theorem pg_nt_u {K A : Nat → Int32} {s t i j : Nat} (h : pg_cb K A t s ≤ 1) (hi : i < s) (hj : j < s) (ki : K i = 11) (kj : K j = 11) (ai : pg_ar A i = t) (aj : pg_ar A j = t) : i = j := by
  have key : ∀ i j, i < j → j < s → K i = 11 → K j = 11 → pg_ar A i = t → pg_ar A j = t → False := by
    intro i j hij hj ki kj ai aj
    have h1 := pg_cb_mono (K := K) (A := A) (t := t) (i + 1) j (by omega)
    have h2 := pg_cb_mono (K := K) (A := A) (t := t) (j + 1) s (by omega)
    rw [pg_cb_y ki ai] at h1
    rw [pg_cb_y kj aj] at h2
    omega
  rcases Nat.lt_trichotomy i j with z | z | z
  · exact (key i j z hj ki kj ai aj).elim
  · exact z
  · exact (key j i z hi kj ki aj ai).elim
/-- every call has a body -/
def pg_nm (K A : Nat → Int32) (s : Nat) : Prop := ∀ i, i < s → K i = 9 → pg_lb K A (pg_ar A i) s ≠ 0
end PG
