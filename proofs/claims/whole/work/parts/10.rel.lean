section RE
/-! the relation, and the small methods -/
theorem pk_ix (x : Int32) {n : Nat} (hn : n < 2 ^ 31) : x < 0 ∨ nI n ≤ x ∨ ∃ j : Nat, j < n ∧ x = nI j := by
  by_cases h : x < 0
  · exact Or.inl h
  · obtain ⟨j, hj, rfl⟩ := nI_of h
    by_cases h2 : j < n
    · exact Or.inr (Or.inr ⟨j, h2, rfl⟩)
    · exact Or.inr (Or.inl (nI_le (by omega) hj))
/-- the program, the start values, the variables, the cells, what is kept and the counters are one and the same; the rest is scratch -/
def i_Rel (_ : Nat) (u : SX) (v : SY) : Prop := ∃ (s c : Nat) (cp : Int32) (K A B C SV VR CE KP LF : Nat → Int32) (oa pa ow ba re rt co : Nat → Int32) (ps wt : Nat → Int64) (cl rc : Nat → Int32) (wy tm : Nat → Int64),
  u = ((nI s), (nI c), cp, K, A, B, C, SV, VR, CE, KP, oa, pa, ow, ba, re, ps, wt, LF, rt, co) ∧ v = ((nI s), (nI c), K, A, B, C, SV, VR, CE, KP, LF, cl, rc, wy, tm) ∧ s ≤ 48 ∧ c ≤ 1000000 ∧ pg_ok K A B C s
theorem re_mk {k s c : Nat} {cp : Int32} {K A B C SV VR CE KP LF oa pa ow ba re rt co : Nat → Int32} {ps wt : Nat → Int64} {cl rc : Nat → Int32} {wy tm : Nat → Int64} (hs : s ≤ 48) (hc : c ≤ 1000000) (h : pg_ok K A B C s) :
    i_Rel k ((nI s), (nI c), cp, K, A, B, C, SV, VR, CE, KP, oa, pa, ow, ba, re, ps, wt, LF, rt, co) ((nI s), (nI c), K, A, B, C, SV, VR, CE, KP, LF, cl, rc, wy, tm) :=
  ⟨s, c, cp, K, A, B, C, SV, VR, CE, KP, LF, oa, pa, ow, ba, re, rt, co, ps, wt, cl, rc, wy, tm, rfl, rfl, hs, hc, h⟩
theorem i_up {k : Nat} {u : SX} {v : SY} (h : i_Rel k u v) : i_Rel (k + 5) u v := h
theorem i_vc0 : wpX_init (fun u => wpY_init (fun v => i_Rel 0 u v)) :=
  re_mk (k := 0) (s := 0) (c := 0) (by omega) (by omega) (fun i hi => absurd hi (Nat.not_lt_zero _))
theorem re_var {x : Int32} {post : Int32 → Prop} (h1 : (∃ j : Nat, j < 8 ∧ x = nI j) → post 1) (h0 : ¬ (∃ j : Nat, j < 8 ∧ x = nI j) → post 0) : wpX_isVariable post x := by
  rcases pk_ix x (n := 8) (by omega) with z | z | ⟨j, hj, e⟩
  · exact br_t z (h0 (fun ⟨j, hj, e⟩ => by rw [e] at z; exact nI_pos (by omega) z))
  · refine br_f (fun y => ?_) (br_t z (h0 (fun ⟨j, hj, e⟩ => by rw [e] at z; exact nI_ge (b := 8) hj (by omega) z)))
    exact absurd (Int32.lt_of_le_of_lt z y) (by decide)
  · rw [e]
    exact br_f (nI_pos (by omega)) (br_f (nI_ge (b := 8) hj (by omega)) (h1 ⟨j, hj, e⟩))
theorem re_arr {x : Int32} {post : Int32 → Prop} (h1 : (∃ j : Nat, j < 3 ∧ x = nI j) → post 1) (h0 : ¬ (∃ j : Nat, j < 3 ∧ x = nI j) → post 0) : wpX_isArray post x := by
  rcases pk_ix x (n := 3) (by omega) with z | z | ⟨j, hj, e⟩
  · exact br_t z (h0 (fun ⟨j, hj, e⟩ => by rw [e] at z; exact nI_pos (by omega) z))
  · refine br_f (fun y => ?_) (br_t z (h0 (fun ⟨j, hj, e⟩ => by rw [e] at z; exact nI_ge (b := 3) hj (by omega) z)))
    exact absurd (Int32.lt_of_le_of_lt z y) (by decide)
  · rw [e]
    exact br_f (nI_pos (by omega)) (br_f (nI_ge (b := 3) hj (by omega)) (h1 ⟨j, hj, e⟩))
theorem re_sub {x : Int32} {post : Int32 → Prop} (h1 : (∃ j : Nat, j < 4 ∧ x = nI j) → post 1) (h0 : ¬ (∃ j : Nat, j < 4 ∧ x = nI j) → post 0) : wpX_isSubroutine post x := by
  rcases pk_ix x (n := 4) (by omega) with z | z | ⟨j, hj, e⟩
  · exact br_t z (h0 (fun ⟨j, hj, e⟩ => by rw [e] at z; exact nI_pos (by omega) z))
  · refine br_f (fun y => ?_) (br_t z (h0 (fun ⟨j, hj, e⟩ => by rw [e] at z; exact nI_ge (b := 4) hj (by omega) z)))
    exact absurd (Int32.lt_of_le_of_lt z y) (by decide)
  · rw [e]
    exact br_f (nI_pos (by omega)) (br_f (nI_ge (b := 4) hj (by omega)) (h1 ⟨j, hj, e⟩))
theorem re_vs {n : Nat} {a b c : Int32} (hn : n ≤ 11) : pg_vs (nI n) a b c ↔ (((n = 9 ∨ n = 11) → ∃ j : Nat, j < 4 ∧ a = nI j) ∧
  (n = 7 → ∃ j : Nat, 1 ≤ j ∧ j ≤ 5 ∧ a = nI j) ∧
  ((n ≤ 6 ∨ n = 10) → ∃ j : Nat, j < 8 ∧ a = nI j) ∧
  ((1 ≤ n ∧ n ≤ 3) → (∃ j : Nat, j < 8 ∧ b = nI j) ∧ (∃ j : Nat, j < 8 ∧ c = nI j)) ∧
  ((n = 4 ∨ n = 5) → (∃ j : Nat, j < 3 ∧ b = nI j) ∧ (∃ j : Nat, j < 8 ∧ c = nI j))) := by
  constructor
  · rintro ⟨m, hm, e, h⟩
    have : n = m := nb_i e (by omega) (by omega)
    subst this; exact h
  · intro h; exact ⟨n, hn, rfl, h⟩
theorem re_v0 {n : Nat} {a b c : Int32} (h : n = 0 ∨ n = 6 ∨ n = 10) : pg_vs (nI n) a b c ↔ ∃ j : Nat, j < 8 ∧ a = nI j := by
  have q1 : ¬ (n = 9 ∨ n = 11) := by omega
  have q2 : ¬ n = 7 := by omega
  have q3 : (n ≤ 6 ∨ n = 10) := by omega
  have q4 : ¬ (1 ≤ n ∧ n ≤ 3) := by omega
  have q5 : ¬ (n = 4 ∨ n = 5) := by omega
  rw [re_vs (by omega)]
  exact ⟨fun z => z.2.2.1 q3, fun z => ⟨fun y => absurd y q1, fun y => absurd y q2, fun _ => z, fun y => absurd y q4, fun y => absurd y q5⟩⟩
theorem re_v1 {n : Nat} {a b c : Int32} (h : 1 ≤ n ∧ n ≤ 3) : pg_vs (nI n) a b c ↔ (∃ j : Nat, j < 8 ∧ a = nI j) ∧ (∃ j : Nat, j < 8 ∧ b = nI j) ∧ (∃ j : Nat, j < 8 ∧ c = nI j) := by
  have q1 : ¬ (n = 9 ∨ n = 11) := by omega
  have q2 : ¬ n = 7 := by omega
  have q3 : (n ≤ 6 ∨ n = 10) := by omega
  have q4 : (1 ≤ n ∧ n ≤ 3) := by omega
  have q5 : ¬ (n = 4 ∨ n = 5) := by omega
  rw [re_vs (by omega)]
  exact ⟨fun z => ⟨z.2.2.1 q3, z.2.2.2.1 q4⟩, fun z => ⟨fun y => absurd y q1, fun y => absurd y q2, fun _ => z.1, fun _ => z.2, fun y => absurd y q5⟩⟩
theorem re_v4 {n : Nat} {a b c : Int32} (h : n = 4 ∨ n = 5) : pg_vs (nI n) a b c ↔ (∃ j : Nat, j < 8 ∧ a = nI j) ∧ (∃ j : Nat, j < 3 ∧ b = nI j) ∧ (∃ j : Nat, j < 8 ∧ c = nI j) := by
  have q1 : ¬ (n = 9 ∨ n = 11) := by omega
  have q2 : ¬ n = 7 := by omega
  have q3 : (n ≤ 6 ∨ n = 10) := by omega
  have q4 : ¬ (1 ≤ n ∧ n ≤ 3) := by omega
  have q5 : (n = 4 ∨ n = 5) := by omega
  rw [re_vs (by omega)]
  exact ⟨fun z => ⟨z.2.2.1 q3, z.2.2.2.2 q5⟩, fun z => ⟨fun y => absurd y q1, fun y => absurd y q2, fun _ => z.1, fun y => absurd y q4, fun _ => z.2⟩⟩
theorem re_v9 {n : Nat} {a b c : Int32} (h : n = 9 ∨ n = 11) : pg_vs (nI n) a b c ↔ ∃ j : Nat, j < 4 ∧ a = nI j := by
  have q1 : (n = 9 ∨ n = 11) := by omega
  have q2 : ¬ n = 7 := by omega
  have q3 : ¬ (n ≤ 6 ∨ n = 10) := by omega
  have q4 : ¬ (1 ≤ n ∧ n ≤ 3) := by omega
  have q5 : ¬ (n = 4 ∨ n = 5) := by omega
  rw [re_vs (by omega)]
  exact ⟨fun z => z.1 q1, fun z => ⟨fun _ => z, fun y => absurd y q2, fun y => absurd y q3, fun y => absurd y q4, fun y => absurd y q5⟩⟩
theorem re_v7 {n : Nat} {a b c : Int32} (h : n = 7) : pg_vs (nI n) a b c ↔ ∃ j : Nat, 1 ≤ j ∧ j ≤ 5 ∧ a = nI j := by
  have q1 : ¬ (n = 9 ∨ n = 11) := by omega
  have q2 : n = 7 := by omega
  have q3 : ¬ (n ≤ 6 ∨ n = 10) := by omega
  have q4 : ¬ (1 ≤ n ∧ n ≤ 3) := by omega
  have q5 : ¬ (n = 4 ∨ n = 5) := by omega
  rw [re_vs (by omega)]
  exact ⟨fun z => z.2.1 q2, fun z => ⟨fun y => absurd y q1, fun _ => z, fun y => absurd y q3, fun y => absurd y q4, fun y => absurd y q5⟩⟩
theorem re_v8 {n : Nat} {a b c : Int32} (h : n = 8) : pg_vs (nI n) a b c :=
  (re_vs (by omega)).mpr ⟨fun y => by omega, fun y => by omega, fun y => by omega, fun y => by omega, fun y => by omega⟩
theorem re_loop {a : Int32} {A B : Prop} (f : (∃ j : Nat, 1 ≤ j ∧ j ≤ 5 ∧ a = nI j) → B) (h : ¬ (∃ j : Nat, 1 ≤ j ∧ j ≤ 5 ∧ a = nI j) → A) : ((a < 1 → A) ∧ (¬ a < 1 → ((5 < a → A) ∧ (¬ 5 < a → B)))) := by
  rcases pk_ix a (n := 6) (by omega) with z | z | ⟨j, hj, e⟩
  · exact br_t (Int32.lt_trans z (by decide)) (h (fun ⟨j, _, hj, e⟩ => by rw [e] at z; exact nI_pos (by omega) z))
  · refine br_f (fun y => absurd (Int32.lt_of_le_of_lt z y) (by decide)) (br_t (Int32.lt_of_lt_of_le (by decide) z) (h (fun ⟨j, _, hj, e⟩ => by rw [e] at z; exact nI_ge (b := 6) (by omega) (by omega) z)))
  · subst e
    refine pk_lt j 1 (fun z => h (fun ⟨i, h1, h5, e⟩ => by have := nb_i e (by omega) (by omega); omega)) (fun z => ?_)
    exact pk_lt 5 j (fun y => h (fun ⟨i, h1, h5, e⟩ => by have := nb_i e (by omega) (by omega); omega)) (fun y => f ⟨j, z, y, rfl⟩)
theorem re_n0 : narrow .boolean (.int 0) = .int 0 := by decide
theorem re_n1 : narrow .boolean (.int 1) = .int 1 := by decide
theorem re_kind (k : Int32) {a b c : Int32} : (k < 0 ∧ ¬ pg_vs k a b c) ∨ (11 < k ∧ ¬ k < 0 ∧ ¬ k ≤ 11 ∧ ¬ pg_vs k a b c) ∨ ∃ n : Nat, n ≤ 11 ∧ k = nI n := by
  rcases pk_ix k (n := 12) (by omega) with z | z | ⟨j, hj, e⟩
  · exact Or.inl ⟨z, fun ⟨n, hn, e, _⟩ => by rw [e] at z; exact nI_pos (by omega) z⟩
  · refine Or.inr (Or.inl ⟨Int32.lt_of_lt_of_le (by decide) z, fun y => absurd (Int32.lt_of_le_of_lt z y) (by decide), fun y => absurd (Int32.le_trans z y) (by decide), ?_⟩)
    exact fun ⟨n, hn, e, _⟩ => by rw [e] at z; exact nI_ge (b := 12) (by omega) (by omega) z
  · exact Or.inr (Or.inr ⟨j, by omega, e⟩)
theorem re_stX {k a b c : Int32} {post : Int32 → Prop} (h1 : pg_vs k a b c → post 1) (h0 : ¬ pg_vs k a b c → post 0) : wpX_isStatement post k a b c := by
  rcases re_kind k (a := a) (b := b) (c := c) with ⟨z, y⟩ | ⟨z, z0, _, y⟩ | ⟨n, hn, e⟩
  · exact br_t z (h0 y)
  · exact br_f z0 (br_t z (h0 y))
  · subst e
    have V0 : (n = 0 ∨ n = 6 ∨ n = 10) → wX_isStatement_64 post a := by
      intro z
      exact re_var (fun y => ⟨re_n1, h1 ((re_v0 z).mpr y)⟩) (fun y => ⟨re_n0, h0 (fun x => y ((re_v0 z).mp x))⟩)
    have V1 : (1 ≤ n ∧ n ≤ 3) → wX_isStatement_69 post a b c := by
      intro z
      refine re_var (fun y => br_f (by decide) ?_) (fun y => br_t rfl (h0 (fun x => y ((re_v1 z).mp x).1)))
      refine re_var (fun y' => br_f (by decide) ?_) (fun y' => br_t rfl (h0 (fun x => y' ((re_v1 z).mp x).2.1)))
      exact re_var (fun y'' => br_f (by decide) (h1 ((re_v1 z).mpr ⟨y, y', y''⟩))) (fun y'' => br_t rfl (h0 (fun x => y'' ((re_v1 z).mp x).2.2)))
    have V4 : (n = 4 ∨ n = 5) → wX_isStatement_96 post a b c := by
      intro z
      refine re_var (fun y => br_f (by decide) ?_) (fun y => br_t rfl (h0 (fun x => y ((re_v4 z).mp x).1)))
      refine re_arr (fun y' => br_f (by decide) ?_) (fun y' => br_t rfl (h0 (fun x => y' ((re_v4 z).mp x).2.1)))
      exact re_var (fun y'' => br_f (by decide) (h1 ((re_v4 z).mpr ⟨y, y', y''⟩))) (fun y'' => br_t rfl (h0 (fun x => y'' ((re_v4 z).mp x).2.2)))
    have V9 : (n = 9 ∨ n = 11) → wX_isStatement_139 post a := by
      intro z
      exact re_sub (fun y => ⟨re_n1, h1 ((re_v9 z).mpr y)⟩) (fun y => ⟨re_n0, h0 (fun x => y ((re_v9 z).mp x))⟩)
    refine br_f (nI_pos (by omega)) ?_
    refine pk_lt 11 n (fun y => absurd y (by omega)) (fun _ => ?_)
    refine pk_eq n 0 (fun y => V0 (by omega)) (fun _ => ?_)
    refine pk_eq n 1 (fun y => V1 (by omega)) (fun _ => ?_)
    refine pk_eq n 2 (fun y => V1 (by omega)) (fun _ => ?_)
    refine pk_eq n 3 (fun y => V1 (by omega)) (fun _ => ?_)
    refine pk_eq n 4 (fun y => V4 (by omega)) (fun _ => ?_)
    refine pk_eq n 5 (fun y => V4 (by omega)) (fun _ => ?_)
    refine pk_eq n 6 (fun y => V0 (by omega)) (fun _ => ?_)
    refine pk_eq n 7 (fun y => re_loop (fun x => h1 ((re_v7 y).mpr x)) (fun x => h0 (fun w => x ((re_v7 y).mp w)))) (fun _ => ?_)
    refine pk_eq n 8 (fun y => h1 (re_v8 y)) (fun _ => ?_)
    refine pk_eq n 9 (fun y => V9 (by omega)) (fun _ => ?_)
    refine pk_eq n 10 (fun y => V0 (by omega)) (fun _ => ?_)
    exact pk_eq n 11 (fun y => V9 (by omega)) (fun _ => trivial)
/-- x < 0, lim < x, else -/
theorem re_lim {x : Int32} {A B : Prop} (n : Nat) (hn : n < 1000) (f : (∃ j : Nat, j < n + 1 ∧ x = nI j) → B) (h : ¬ (∃ j : Nat, j < n + 1 ∧ x = nI j) → A) {l : Int32} (el : l = nI n := by rfl) : ((x < 0 → A) ∧ (¬ x < 0 → ((l < x → A) ∧ (¬ l < x → B)))) := by
  subst el
  rcases pk_ix x (n := n + 1) (by omega) with z | z | ⟨j, hj, e⟩
  · exact br_t z (h (fun ⟨j, hj, e⟩ => by rw [e] at z; exact nI_pos (by omega) z))
  · have lx : nI n < x := Int32.lt_of_lt_of_le (nI_lt (by omega) (by omega)) z
    refine br_f (fun y => ?_) (br_t lx (h (fun ⟨j, hj, e⟩ => by rw [e] at z; exact nI_ge (by omega) (by omega) z)))
    exact nI_pos (n := n) (by omega) (Int32.lt_trans lx y)
  · subst e
    exact br_f (nI_pos (by omega)) (br_f (nI_nlt (by omega) (by omega)) (f ⟨j, hj, rfl⟩))
theorem re_limle {x : Int32} {A B : Prop} (n : Nat) (hn : n < 1000) (f : (∃ j : Nat, j < n + 1 ∧ x = nI j) → B) (h : ¬ (∃ j : Nat, j < n + 1 ∧ x = nI j) → A) {l : Int32} (el : l = nI n := by rfl) : ((x < 0 → A) ∧ (¬ x < 0 → ((x ≤ l → B) ∧ (¬ x ≤ l → A)))) := by
  have H := re_lim n hn f h (el := el)
  refine ⟨H.1, fun z => ⟨fun y => (H.2 z).2 (Int32.not_lt.mpr y), fun y => (H.2 z).1 (Int32.not_le.mp y)⟩⟩
theorem re_stY {pc : Int32} {K A B C SV VR CE KP LF cl rc : Nat → Int32} {wy tm : Nat → Int64} {s : Nat} {k a b c : Int32} {post : Int32 → Prop} (h1 : pg_vs k a b c → post 1) (h0 : ¬ pg_vs k a b c → post 0) : wpY_fits post ((nI s), pc, K, A, B, C, SV, VR, CE, KP, LF, cl, rc, wy, tm) k a b c := by
  rcases re_kind k (a := a) (b := b) (c := c) with ⟨z, y⟩ | ⟨z, z0, z1, y⟩ | ⟨n, hn, e⟩
  · exact br_t z (h0 y)
  · exact br_f z0 (br_f z1 (h0 y))
  · subst e
    have V9 : (n = 9 ∨ n = 11) → wY_fits_54 post a (nI s) pc K A B C SV VR CE KP LF cl rc wy tm := by
      intro z
      exact re_lim 3 (by omega) (fun y => h1 ((re_v9 z).mpr y)) (fun y => h0 (fun x => y ((re_v9 z).mp x)))
    have V119 : ¬ (1 ≤ n ∧ n ≤ 3) → n ≤ 6 ∨ n = 10 → (∃ j : Nat, j < 8 ∧ a = nI j) → wY_fits_119 post (nI n) b c (nI s) pc K A B C SV VR CE KP LF cl rc wy tm := by
      intro z z' ya
      have V129 : (n = 4 ∨ n = 5) → wY_fits_129 post b c (nI s) pc K A B C SV VR CE KP LF cl rc wy tm := by
        intro x
        refine re_lim 2 (by omega) (fun yb => ?_) (fun y => h0 (fun w => y ((re_v4 x).mp w).2.1))
        exact re_lim 7 (by omega) (fun yc => h1 ((re_v4 x).mpr ⟨ya, yb, yc⟩)) (fun y => h0 (fun w => y ((re_v4 x).mp w).2.2))
      refine pk_eq n 4 (fun y => V129 (by omega)) (fun n4 => ?_)
      refine pk_eq n 5 (fun y => V129 (by omega)) (fun n5 => ?_)
      exact h1 ((re_v0 (by omega)).mpr ya)
    refine br_f (nI_pos (by omega)) ?_
    refine pk_le n 11 (fun _ => ?_) (fun z => absurd z (by omega))
    refine pk_eq n 8 (fun y => h1 (re_v8 y)) (fun n8 => ?_)
    refine pk_eq n 7 (fun y => re_loop (fun x => h1 ((re_v7 y).mpr x)) (fun x => h0 (fun w => x ((re_v7 y).mp w)))) (fun n7 => ?_)
    refine pk_eq n 9 (fun y => V9 (by omega)) (fun n9 => ?_)
    refine pk_eq n 11 (fun y => V9 (by omega)) (fun n11 => ?_)
    refine re_limle 7 (by omega) (fun ya => ?_) (fun y => h0 (fun w => y (((re_vs hn).mp w).2.2.1 (by omega))))
    refine pk_lt n 1 (fun z => V119 (by omega) (by omega) ya) (fun z1 => ?_)
    refine pk_lt 3 n (fun z => V119 (by omega) (by omega) ya) (fun z3 => ?_)
    refine re_lim 7 (by omega) (fun yb => ?_) (fun y => h0 (fun w => y ((re_v1 ⟨z1, z3⟩).mp w).2.1))
    exact re_lim 7 (by omega) (fun yc => h1 ((re_v1 ⟨z1, z3⟩).mpr ⟨ya, yb, yc⟩)) (fun y => h0 (fun w => y ((re_v1 ⟨z1, z3⟩).mp w).2.2))
end RE
