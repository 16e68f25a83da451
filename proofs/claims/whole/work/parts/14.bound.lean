section BW
/-! the weight as a number: it never wraps -/
variable {K A : Nat → Int32} {s : Nat}
theorem bw_T (g : pg_g K A s) : ∀ i, i ≤ s → ∀ j, we_T K A i j ≤ 5 ^ j := by
  intro i
  induction i with
  | zero => intro _ j; exact Nat.one_le_pow _ _ (by omega)
  | succ i ih =>
    intro hi j
    by_cases z : pg_op K i ∧ j = pg_dp K i + 1
    · rw [z.2, we_T_y z.1, Nat.pow_succ]
      refine Nat.mul_le_mul (ih (by omega) _) ?_
      by_cases k7 : K i = 7
      · rw [if_pos k7]; exact ((g i (by omega)).2.2 k7).2.1
      · rw [if_neg k7]; omega
    · rw [we_T_n z]; exact ih (by omega) j
theorem bw_pf (g : pg_g K A s) (w : pg_wp K s) {i : Nat} (hi : i ≤ s) : we_pf K A i ≤ 125 :=
  Nat.le_trans (bw_T g i hi _) (Nat.pow_le_pow_right (by omega) (pg_dp3 w i hi) : 5 ^ pg_dp K i ≤ 5 ^ 3)
noncomputable def bw_i (c : Prop) : Nat := @ite _ c (Classical.propDecidable c) 1 0
theorem bw_it {c : Prop} (h : c) : bw_i c = 1 := if_pos h
theorem bw_if {c : Prop} (h : ¬ c) : bw_i c = 0 := if_neg h
noncomputable def bw_n (P : Nat → Prop) : Nat → Nat
  | 0 => 0
  | k + 1 => bw_n P k + bw_i (P k)
theorem bw_y {P : Nat → Prop} {k : Nat} (h : P k) : bw_n P (k + 1) = bw_n P k + 1 := by
  show bw_n P k + bw_i (P k) = _; rw [bw_it h]
theorem bw_no {P : Nat → Prop} {k : Nat} (h : ¬ P k) : bw_n P (k + 1) = bw_n P k := by
  show bw_n P k + bw_i (P k) = _; rw [bw_if h]; rfl
theorem bw_le (P : Nat → Prop) : ∀ k, bw_n P k ≤ k := by
  intro k
  induction k with
  | zero => exact Nat.le_refl 0
  | succ k ih =>
    by_cases h : P k
    · rw [bw_y h]; omega
    · rw [bw_no h]; omega
theorem bw_sub {P Q : Nat → Prop} (h : ∀ k, P k → Q k) : ∀ k, bw_n P k ≤ bw_n Q k := by
  intro k
  induction k with
  | zero => exact Nat.le_refl 0
  | succ k ih =>
    by_cases a : P k
    · rw [bw_y a, bw_y (h k a)]; omega
    · rw [bw_no a]
      by_cases b : Q k
      · rw [bw_y b]; omega
      · rw [bw_no b]; exact ih
theorem bw_two {P Q R : Nat → Prop} (hp : ∀ k, P k → R k) (hq : ∀ k, Q k → R k) (d : ∀ k, P k → Q k → False) : ∀ k, bw_n P k + bw_n Q k ≤ bw_n R k := by
  intro k
  induction k with
  | zero => exact Nat.le_refl 0
  | succ k ih =>
    by_cases a : P k
    · rw [bw_y a, bw_no (fun b => d k a b), bw_y (hp k a)]; omega
    · rw [bw_no a]
      by_cases b : Q k
      · rw [bw_y b, bw_y (hq k b)]; omega
      · rw [bw_no b]
        by_cases c : R k
        · rw [bw_y c]; omega
        · rw [bw_no c]; exact ih
theorem bw_tab : ∀ n, n < 49 → 9 ^ n * (1 + 250 * n) ≤ 900 * 10 ^ n := by decide +kernel
theorem bw_pp (n : Nat) : 9 ^ n ≤ 10 ^ n := Nat.pow_le_pow_left (by omega) n
def bw_Q (l c x : Nat) : Prop := 9 ^ c * (1 + x) ≤ 900 ^ l * 10 ^ c
theorem bw_Qc {l c x e : Nat} (h : bw_Q l c x) : bw_Q l (c + e) x := by
  unfold bw_Q at h ⊢
  rw [Nat.pow_add, Nat.pow_add, Nat.mul_right_comm, ← Nat.mul_assoc]
  exact Nat.mul_le_mul h (bw_pp e)
theorem bw_Qm {l c c' x : Nat} (h : bw_Q l c x) (hc : c ≤ c') : bw_Q l c' x := by
  obtain ⟨e, rfl⟩ : ∃ e, c' = c + e := ⟨c' - c, by omega⟩
  exact bw_Qc h
theorem bw_Ql {l c x : Nat} (h : bw_Q l c x) : bw_Q (l + 1) c x := by
  unfold bw_Q at h ⊢
  refine Nat.le_trans h (Nat.mul_le_mul_right _ ?_)
  rw [Nat.pow_succ]; exact Nat.le_mul_of_pos_right _ (by omega)
theorem bw_S (g : pg_g K A s) (w' : pg_wp K s) {w : Nat → Nat} {p l c : Nat} (h : ∀ t, wa_dc K A s p t → bw_Q l c (w t)) : ∀ k, k ≤ s → 9 ^ c * we_S K A w p k ≤ 250 * (900 ^ l * 10 ^ c) * bw_n (fun i => pg_pw K A (i + 1) = p) k := by
  have V1 : 9 ^ c ≤ 900 ^ l * 10 ^ c := Nat.le_trans (bw_pp c) (Nat.le_mul_of_pos_left _ (Nat.pow_pos (by omega)))
  intro k
  induction k with
  | zero => intro _; show 9 ^ c * 0 ≤ _; rw [Nat.mul_zero]; exact Nat.zero_le _
  | succ k ih =>
    intro hk
    have I := ih (by omega)
    by_cases y : pg_pw K A (k + 1) = p
    · rw [we_S_y y, bw_y (P := fun i => pg_pw K A (i + 1) = p) y]
      have hs : 9 ^ c * we_s K A w k ≤ 2 * (900 ^ l * 10 ^ c) := by
        by_cases o : pg_op K k
        · rw [we_s_op o]; omega
        · by_cases z : K k = 8 ∨ K k = 11
          · rw [we_s_0 z]; omega
          · by_cases k9 : K k = 9
            · rw [we_s_9 k9]
              have := h (pg_ar A k) ⟨k, by omega, k9, y, rfl⟩
              unfold bw_Q at this
              omega
            · rw [we_s_1 o (fun x => z (Or.inl x)) k9 (fun x => z (Or.inr x))]; omega
      have hp := bw_pf g w' (i := k) (by omega)
      have h1 : 9 ^ c * (we_pf K A k * we_s K A w k) ≤ 125 * (2 * (900 ^ l * 10 ^ c)) := by
        rw [Nat.mul_left_comm]
        exact Nat.mul_le_mul hp hs
      rw [Nat.mul_add, Nat.mul_add]
      omega
    · rw [we_S_n y, bw_no (P := fun i => pg_pw K A (i + 1) = p) y]; exact I
theorem bw_lev (g : pg_g K A s) (hs : s ≤ 48) (w' : pg_wp K s) (D5 : ∀ p, wd_D K A s 5 p) : ∀ l p, wd_D K A s l p → bw_Q l (bw_n (fun i => wd_D K A s l (pg_pw K A (i + 1))) s) (we_W K A s 5 p) := by
  intro l
  induction l with
  | zero => intro p h; exact h.elim
  | succ l ih =>
    intro p D
    by_cases z : wd_D K A s l p
    · exact bw_Qm (bw_Ql (ih p z)) (bw_sub (fun k hk => wd_mono1 _ _ hk) s)
    · have c2 := bw_two (P := fun i => wd_D K A s l (pg_pw K A (i + 1))) (Q := fun i => pg_pw K A (i + 1) = p) (R := fun i => wd_D K A s (l + 1) (pg_pw K A (i + 1)))
        (fun k hk => wd_mono1 _ _ hk) (fun k hk => by show wd_D K A s (l + 1) (pg_pw K A (k + 1)); rw [hk]; exact D) (fun k a b => z (by rw [← b]; exact a)) s
      have hb := bw_S g w' (w := we_W K A s 5) (p := p) (l := l) (c := bw_n (fun i => wd_D K A s l (pg_pw K A (i + 1))) s) (fun t ht => ih t (D t ht)) s (Nat.le_refl _)
      rw [we_fix5 (D5 p)] at hb
      refine bw_Qm ?_ c2
      have hn := bw_le (fun i => pg_pw K A (i + 1) = p) s
      revert hb hn
      generalize bw_n (fun i => pg_pw K A (i + 1) = p) s = n
      generalize bw_n (fun i => wd_D K A s l (pg_pw K A (i + 1))) s = c
      generalize we_W K A s 5 p = W
      intro hb hn
      have V1 : 9 ^ c ≤ 900 ^ l * 10 ^ c := Nat.le_trans (bw_pp c) (Nat.le_mul_of_pos_left _ (Nat.pow_pos (by omega)))
      have t := bw_tab n (by omega)
      have h1 : 9 ^ c * (1 + W) ≤ (900 ^ l * 10 ^ c) * (1 + 250 * n) := by
        rw [Nat.mul_add, Nat.mul_add, Nat.mul_one, Nat.mul_one]
        have : 250 * (900 ^ l * 10 ^ c) * n = 900 ^ l * 10 ^ c * (250 * n) := by rw [Nat.mul_comm 250, Nat.mul_assoc]
        omega
      unfold bw_Q
      have e1 : 9 ^ (c + n) * (1 + W) = 9 ^ n * (9 ^ c * (1 + W)) := by rw [Nat.pow_add, Nat.mul_comm (9 ^ c), Nat.mul_assoc]
      have e2 : 900 ^ (l + 1) * 10 ^ (c + n) = (900 ^ l * 10 ^ c) * (900 * 10 ^ n) := by rw [Nat.pow_add 10 c n, Nat.pow_succ 900 l, Nat.mul_assoc, Nat.mul_assoc, Nat.mul_left_comm 900]
      rw [e1, e2]
      refine Nat.le_trans (Nat.mul_le_mul_left _ h1) ?_
      rw [Nat.mul_left_comm]
      exact Nat.mul_le_mul_left _ t
theorem bw_num : 900 ^ 5 * 10 ^ 48 < 9 ^ 48 * (1 + 2 ^ 63) := by decide +kernel
theorem bw_main (g : pg_g K A s) (hs : s ≤ 48) (w' : pg_wp K s) (D5 : ∀ p, wd_D K A s 5 p) (h : lN (we_W K A s 5 4) ≤ 3000) : we_W K A s 5 4 ≤ 3000 := by
  have q := bw_Qm (bw_lev g hs w' D5 5 4 (D5 4)) (c' := 48) (Nat.le_trans (bw_le _ s) hs)
  have b : we_W K A s 5 4 < 2 ^ 63 := by
    apply Classical.byContradiction
    intro z
    unfold bw_Q at q
    have h1 : 9 ^ 48 * (1 + 2 ^ 63) ≤ 9 ^ 48 * (1 + we_W K A s 5 4) := Nat.mul_le_mul_left _ (by omega)
    exact absurd (Nat.lt_of_lt_of_le bw_num (Nat.le_trans h1 q)) (Nat.lt_irrefl _)
  exact (pk_lLE b (b := 3000) (by omega)).mp h
end BW
