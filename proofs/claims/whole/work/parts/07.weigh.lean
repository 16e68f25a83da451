section WE
/-! weights -/
theorem wb_tb (n : Nat) : (lN n).toBitVec = BitVec.ofNat 64 n := rfl
theorem wb_inj {a b : Int64} (h : a.toBitVec = b.toBitVec) : a = b := Int64.toBitVec_inj.mp h
theorem wb_of (x : Int64) : ∃ n, n < 2 ^ 64 ∧ x = lN n := ⟨x.toBitVec.toNat, x.toBitVec.isLt, wb_inj (by rw [wb_tb]; simp)⟩
def we_T (K A : Nat → Int32) : Nat → Nat → Nat
  | 0, _ => 1
  | i + 1, j => if pg_op K i ∧ j = pg_dp K i + 1 then we_T K A i (pg_dp K i) * (if K i = 7 then pg_ar A i else 1) else we_T K A i j
abbrev we_pf (K A : Nat → Int32) (i : Nat) : Nat := we_T K A i (pg_dp K i)
theorem we_T_y {K A : Nat → Int32} {i : Nat} (o : pg_op K i) : we_T K A (i + 1) (pg_dp K i + 1) = we_T K A i (pg_dp K i) * (if K i = 7 then pg_ar A i else 1) := by
  show (if _ then _ else _) = _; rw [if_pos ⟨o, rfl⟩]
theorem we_T_n {K A : Nat → Int32} {i j : Nat} (h : ¬ (pg_op K i ∧ j = pg_dp K i + 1)) : we_T K A (i + 1) j = we_T K A i j := by
  show (if _ then _ else _) = _; rw [if_neg h]
theorem we_T_0 {K A : Nat → Int32} : ∀ i, we_T K A i 0 = 1 := by
  intro i
  induction i with
  | zero => rfl
  | succ i ih => rw [we_T_n (fun z => by omega)]; exact ih
theorem we_pf_no {K A : Nat → Int32} {i : Nat} (o : ¬ pg_op K i) (h8 : ¬ K i = 8) : we_pf K A (i + 1) = we_pf K A i := by
  show we_T K A (i + 1) (pg_dp K (i + 1)) = _
  rw [pg_dp_no o h8, we_T_n (fun z => o z.1)]
theorem we_pf_op {K A : Nat → Int32} {i : Nat} (o : pg_op K i) : we_pf K A (i + 1) = we_pf K A i * (if K i = 7 then pg_ar A i else 1) := by
  show we_T K A (i + 1) (pg_dp K (i + 1)) = _
  rw [pg_dp_op o, we_T_y o]
theorem we_T_mt {K A : Nat → Int32} {q e : Nat} (m : pg_mt K q e) : ∀ d, q + d ≤ e + 1 → we_T K A (q + d) (pg_dp K q) = we_pf K A q := by
  intro d
  induction d with
  | zero => intro _; rfl
  | succ d ih =>
    intro h
    rw [← Nat.add_assoc, we_T_n ?_]
    · exact ih (by omega)
    · intro z
      by_cases y : d = 0
      · subst y; have := z.2; simp only [Nat.add_zero] at this; omega
      · have := m.2.2.2.2 (q + d) (by omega) (by omega); omega
theorem we_pf_mt {K A : Nat → Int32} {q e : Nat} (m : pg_mt K q e) : we_pf K A (e + 1) = we_pf K A q := by
  have h := we_T_mt (A := A) m (e + 1 - q) (by have := m.1; omega)
  rw [show q + (e + 1 - q) = e + 1 by have := m.1; omega] at h
  show we_T K A (e + 1) (pg_dp K (e + 1)) = _
  rw [m.2.2.2.1]; exact h
def we_s (K A : Nat → Int32) (w : Nat → Nat) (i : Nat) : Nat := if pg_op K i then 2 else if K i = 8 ∨ K i = 11 then 0 else if K i = 9 then 1 + w (pg_ar A i) else 1
def we_S (K A : Nat → Int32) (w : Nat → Nat) (p : Nat) : Nat → Nat
  | 0 => 0
  | i + 1 => we_S K A w p i + (if pg_pw K A (i + 1) = p then we_pf K A i * we_s K A w i else 0)
theorem we_S_y {K A : Nat → Int32} {w : Nat → Nat} {p i : Nat} (h : pg_pw K A (i + 1) = p) : we_S K A w p (i + 1) = we_S K A w p i + we_pf K A i * we_s K A w i := by
  show _ + (if _ then _ else _) = _; rw [if_pos h]
theorem we_S_n {K A : Nat → Int32} {w : Nat → Nat} {p i : Nat} (h : ¬ pg_pw K A (i + 1) = p) : we_S K A w p (i + 1) = we_S K A w p i := by
  show _ + (if _ then _ else _) = _; rw [if_neg h]; rfl
theorem we_s_op {K A : Nat → Int32} {w : Nat → Nat} {i : Nat} (o : pg_op K i) : we_s K A w i = 2 := if_pos o
theorem we_s_0 {K A : Nat → Int32} {w : Nat → Nat} {i : Nat} (h : K i = 8 ∨ K i = 11) : we_s K A w i = 0 := by
  unfold we_s
  rw [if_neg ?_, if_pos h]
  rintro (z | z) <;> rcases h with y | y <;> · rw [z] at y; exact absurd y (by decide)
theorem we_s_9 {K A : Nat → Int32} {w : Nat → Nat} {i : Nat} (h : K i = 9) : we_s K A w i = 1 + w (pg_ar A i) := by
  unfold we_s
  rw [if_neg ?_, if_neg ?_, if_pos h]
  · rintro (z | z) <;> · rw [z] at h; exact absurd h (by decide)
  · rintro (z | z) <;> · rw [z] at h; exact absurd h (by decide)
theorem we_s_1 {K A : Nat → Int32} {w : Nat → Nat} {i : Nat} (o : ¬ pg_op K i) (h8 : ¬ K i = 8) (h9 : ¬ K i = 9) (hb : ¬ K i = 11) : we_s K A w i = 1 := by
  unfold we_s
  rw [if_neg o, if_neg (fun z => z.elim h8 hb), if_neg h9]
theorem we_S_eq {K A : Nat → Int32} {w : Nat → Nat} {t a : Nat} : ∀ b, a ≤ b → (∀ k, a ≤ k → k < b → pg_pw K A (k + 1) = t → K k = 11) → we_S K A w t b = we_S K A w t a := by
  intro b
  induction b with
  | zero => intro h _; rw [show a = 0 by omega]
  | succ b ih =>
    intro h hk
    by_cases z : a = b + 1
    · rw [z]
    · have I := ih (by omega) (fun k k1 k2 => hk k k1 (by omega))
      by_cases y : pg_pw K A (b + 1) = t
      · rw [we_S_y y, we_s_0 (Or.inr (hk b (by omega) (by omega) y)), Nat.mul_zero, I]; rfl
      · rw [we_S_n y, I]
theorem we_S_congr {K A : Nat → Int32} {w w' : Nat → Nat} {s p : Nat} (h : ∀ t, wa_dc K A s p t → w t = w' t) : ∀ i, i ≤ s → we_S K A w p i = we_S K A w' p i := by
  intro i
  induction i with
  | zero => intro _; rfl
  | succ i ih =>
    intro hi
    by_cases y : pg_pw K A (i + 1) = p
    · rw [we_S_y y, we_S_y y, ih (by omega)]
      by_cases z : K i = 9
      · rw [we_s_9 z, we_s_9 z, h _ ⟨i, by omega, z, y, rfl⟩]
      · have : we_s K A w i = we_s K A w' i := by unfold we_s; rw [if_neg z, if_neg z]
        rw [this]
    · rw [we_S_n y, we_S_n y, ih (by omega)]
def we_W (K A : Nat → Int32) (s : Nat) : Nat → Nat → Nat
  | 0, _ => 0
  | k + 1, p => we_S K A (we_W K A s k) p s
theorem we_fix {K A : Nat → Int32} {s : Nat} : ∀ k p, wd_D K A s k p → ∀ m, k ≤ m → we_W K A s m p = we_W K A s k p := by
  intro k
  induction k with
  | zero => intro p h; exact h.elim
  | succ k ih =>
    intro p h m hm
    obtain ⟨m, rfl⟩ : ∃ j, m = j + 1 := ⟨m - 1, by omega⟩
    exact we_S_congr (fun t ht => ih t (h t ht) m (by omega)) s (Nat.le_refl _)
theorem we_fix5 {K A : Nat → Int32} {s : Nat} {p : Nat} (D : wd_D K A s 5 p) : we_S K A (we_W K A s 5) p s = we_W K A s 5 p :=
  we_fix 5 p D 6 (by omega)
theorem we_good {K A : Nat → Int32} {s : Nat} {p k : Nat} {w : Nat → Nat} (D5 : wd_D K A s 5 p) (h : ∀ t, wd_D K A s k t → w t = we_W K A s 5 t) (D : wd_D K A s (k + 1) p) : we_S K A w p s = we_W K A s 5 p := by
  rw [← we_fix5 D5]
  exact we_S_congr (fun t ht => h t (D t ht)) s (Nat.le_refl _)
/-! X -/
theorem we_passes {pc cp : Int32} {K A B C SV VR CE KP oa pa ow ba re : Nat → Int32} {wt : Nat → Int64} {LF rt co : Nat → Int32} {s : Nat} (hs : s ≤ 48) (g : pg_g K A s) (hp : pg_pr K s pa) {post : SX → Prop}
    (h : ∀ ps, (∀ j, j < s → ps j = lN (we_pf K A j)) → post ((nI s), pc, cp, K, A, B, C, SV, VR, CE, KP, oa, pa, ow, ba, re, ps, wt, LF, rt, co)) : ∀ ps, wpX_countPasses post ((nI s), pc, cp, K, A, B, C, SV, VR, CE, KP, oa, pa, ow, ba, re, ps, wt, LF, rt, co) := by
  have H : ∀ d i, i + d = s → ∀ ps, (∀ j, j < i → ps j = lN (we_pf K A j)) → wX_countPasses_4 post (nI s) pc cp (d + 1) (lN (we_pf K A i)) (nI i) K A B C SV VR CE KP oa pa ow ba re ps wt LF rt co := by
    intro d
    induction d with
    | zero =>
      intro i hi ps hps
      have e : i = s := by omega
      subst e
      exact br_t (nI_le (Nat.le_refl _) (by omega)) (h ps hps)
    | succ d ih =>
      intro i hi ps hps
      have his : i < s := by omega
      have hc : (nI i).toNatClampNeg = i := nb_c48 his hs
      have hin : vp_in (nI i) 48 := vp_in_nI (by omega) (by omega)
      refine br_f (nI_ge his (by omega)) ⟨hin, ?_⟩
      refine nm_r (e' := vp_updL ps i (lN (we_pf K A i))) (by rw [hc]) ⟨hin, ?_⟩
      have hps' : ∀ j, j < i + 1 → vp_updL ps i (lN (we_pf K A i)) j = lN (we_pf K A j) := by
        intro j hj
        by_cases y : j = i
        · rw [y, pk_uLs]
        · rw [pk_uLn y]; exact hps j (by omega)
      have I := ih (i + 1) (by omega) _ hps'
      have H40 : ∀ x, (¬ K i = 8 → x = lN (we_pf K A (i + 1))) → wX_countPasses_40 post (wX_countPasses_4 post (nI s) pc cp (d + 1)) x (nI i) (nI s) pc cp K A B C SV VR CE KP oa pa ow ba re (vp_updL ps i (lN (we_pf K A i))) wt LF rt co := by
        intro x hx
        refine ⟨hin, ?_⟩
        by_cases k8 : K i = 8
        · obtain ⟨q, eq, m⟩ := hp.1 i his k8
          have hq := m.1
          have hcq : (nI q).toNatClampNeg = q := nb_cl (by omega)
          refine br_t (by rw [hc]; exact k8) ⟨hin, by rw [hc, eq]; exact vp_in_nI (by omega) (by omega), ?_⟩
          refine nm_r (e' := lN (we_pf K A (i + 1))) (by rw [hc, eq, hcq, hps' q (by omega), we_pf_mt m]) ?_
          exact nm_r (nI_1 i) I
        · refine br_f (by rw [hc]; exact k8) (nm_r (nI_1 i) ?_)
          rw [hx k8]; exact I
      by_cases k7 : K i = 7
      · obtain ⟨a1, a5, ea⟩ := (g i his).2.2 k7
        refine br_t (by rw [hc]; exact k7) ⟨hin, ?_⟩
        refine nm_r (e' := lN (we_pf K A i * pg_ar A i)) (by rw [hc, ea, nI_l (by omega), lN_mul]) ?_
        exact H40 _ (fun _ => by rw [we_pf_op (Or.inr k7), if_pos k7])
      · refine br_f (by rw [hc]; exact k7) (H40 _ (fun k8 => ?_))
        by_cases k6 : K i = 6
        · rw [we_pf_op (Or.inl k6), if_neg k7, Nat.mul_one]
        · rw [we_pf_no (fun z => z.elim k6 k7) k8]
  exact fun ps => ⟨s + 1, H s 0 (by omega) ps (fun j hj => absurd hj (Nat.not_lt_zero _))⟩
theorem we_stmt {pc cp : Int32} {K A B C SV VR CE KP oa pa ow ba re : Nat → Int32} {ps wt : Nat → Int64} {LF rt co : Nat → Int32} {s i : Nat} (hs : s ≤ 48) (his : i < s) (g : pg_g K A s) {w : Nat → Nat} (hw : ∀ t, wt t = lN (w t)) {post : Int64 → Prop} (h : post (lN (we_s K A w i))) : wpX_weighStatement post ((nI s), pc, cp, K, A, B, C, SV, VR, CE, KP, oa, pa, ow, ba, re, ps, wt, LF, rt, co) (nI i) := by
  have hc : (nI i).toNatClampNeg = i := nb_c48 his hs
  have hin : vp_in (nI i) 48 := vp_in_nI (by omega) (by omega)
  obtain ⟨k, hk, ek⟩ := (g i his).1
  refine ⟨hin, nm_r (e' := nI k) (by rw [hc]; exact ek) ?_⟩
  have NE : ∀ c, c < 12 → k ≠ c → ¬ K i = nI c := fun c hc z => by rw [ek]; exact nb_ne z (by omega) (by omega)
  have E1 : k ≠ 6 → k ≠ 7 → k ≠ 8 → k ≠ 9 → k ≠ 11 → post 1 := by
    intro n6 n7 n8 n9 n11
    rw [we_s_1 (fun z => z.elim (NE 6 (by omega) n6) (NE 7 (by omega) n7)) (NE 8 (by omega) n8) (NE 9 (by omega) n9) (NE 11 (by omega) n11)] at h
    exact h
  have EQ : ∀ c, k = c → K i = nI c := fun c z => by rw [ek, z]
  refine pk_lt k 6 (fun z => E1 (by omega) (by omega) (by omega) (by omega) (by omega)) (fun z => ?_)
  refine pk_lt 11 k (fun y => absurd y (by omega)) (fun _ => ?_)
  refine pk_eq k 6 (fun y => ?_) (fun n6 => ?_)
  · rw [we_s_op (Or.inl (EQ 6 y))] at h; exact h
  refine pk_eq k 7 (fun y => ?_) (fun n7 => ?_)
  · rw [we_s_op (Or.inr (EQ 7 y))] at h; exact h
  refine pk_eq k 8 (fun y => ?_) (fun n8 => ?_)
  · rw [we_s_0 (Or.inl (EQ 8 y))] at h; exact h
  refine pk_eq k 9 (fun y => ?_) (fun n9 => ?_)
  · obtain ⟨a4, ea⟩ := (g i his).2.1 (Or.inl (EQ 9 y))
    rw [we_s_9 (EQ 9 y), ← lN_add] at h
    refine ⟨hin, by rw [hc, ea]; exact vp_in_nI (by omega) (by omega), ?_⟩
    rw [hc, hw]; exact h
  refine pk_eq k 10 (fun y => ?_) (fun n10 => ?_)
  · exact E1 (by omega) (by omega) (by omega) (by omega) (by omega)
  refine pk_eq k 11 (fun y => ?_) (fun n11 => trivial)
  rw [we_s_0 (Or.inr (EQ 11 y))] at h; exact h
theorem we_piece {pc cp : Int32} {K A B C SV VR CE KP oa pa ow ba re : Nat → Int32} {ps wt : Nat → Int64} {LF rt co : Nat → Int32} {s p : Nat} (hs : s ≤ 48) (hp : p < 5) (g : pg_g K A s) (how : ∀ j, j < s → ow j = nI (pg_pw K A (j + 1))) (hps : ∀ j, j < s → ps j = lN (we_pf K A j)) {w : Nat → Nat} (hw : ∀ t, wt t = lN (w t))
    {post : Int64 → Prop} (h : post (lN (we_S K A w p s))) : wpX_weighPiece post ((nI s), pc, cp, K, A, B, C, SV, VR, CE, KP, oa, pa, ow, ba, re, ps, wt, LF, rt, co) (nI p) := by
  have H : ∀ d i, i + d = s → wX_weighPiece_5 post (nI p) (nI s) pc cp K A B C SV VR CE KP oa pa ow ba re ps wt LF rt co (d + 1) (lN (we_S K A w p i)) (nI i) := by
    intro d
    induction d with
    | zero =>
      intro i hi
      have e : i = s := by omega
      subst e
      exact br_t (nI_le (Nat.le_refl _) (by omega)) h
    | succ d ih =>
      intro i hi
      have his : i < s := by omega
      have hc : (nI i).toNatClampNeg = i := nb_c48 his hs
      have hin : vp_in (nI i) 48 := vp_in_nI (by omega) (by omega)
      have hp4 := pg_pw4 g (i + 1) (by omega)
      have I := ih (i + 1) (by omega)
      refine br_f (nI_ge his (by omega)) ⟨hin, ?_⟩
      rw [hc, how i his, hps i his]
      by_cases y : pg_pw K A (i + 1) = p
      · refine br_t (by rw [y]) ⟨hin, ?_⟩
        refine we_stmt hs his g hw ?_
        refine nm_r (e' := lN (we_S K A w p (i + 1))) (by rw [lN_mul, lN_add, we_S_y y]) (nm_r (nI_1 i) I)
      · refine br_f (nb_ne y (by omega) (by omega)) (nm_r (nI_1 i) ?_)
        rw [we_S_n y] at I; exact I
  exact ⟨s + 1, H s 0 (by omega)⟩
def we_ok (K A : Nat → Int32) (s : Nat) (w : Nat → Nat) (k n : Nat) : Prop := ∀ p, p < n → wd_D K A s k p → w p = we_W K A s 5 p
theorem we_ok_s {K A : Nat → Int32} {s : Nat} {w : Nat → Nat} {k j n : Nat} (g : pg_g K A s) (D5 : ∀ p, wd_D K A s 5 p) (h4 : 4 ≤ n) (h1 : we_ok K A s w k n) (h2 : we_ok K A s w (k + 1) j) :
    we_ok K A s (fun x => if x = j then we_S K A w j s else w x) k n ∧ we_ok K A s (fun x => if x = j then we_S K A w j s else w x) (k + 1) (j + 1) := by
  have V : wd_D K A s (k + 1) j → we_S K A w j s = we_W K A s 5 j := by
    intro D
    rw [← we_fix5 (D5 j)]
    exact we_S_congr (fun t ht => h1 t (by have := wd_dc4 g ht; omega) (D t ht)) s (Nat.le_refl _)
  constructor
  · intro p hp D
    by_cases z : p = j
    · subst z; show (if _ then _ else _) = _; rw [if_pos rfl]; exact V (wd_mono1 _ _ D)
    · show (if _ then _ else _) = _; rw [if_neg z]; exact h1 p hp D
  · intro p hp D
    by_cases z : p = j
    · subst z; show (if _ then _ else _) = _; rw [if_pos rfl]; exact V D
    · show (if _ then _ else _) = _; rw [if_neg z]; exact h2 p (by omega) D
theorem we_upd {wt : Nat → Int64} {w : Nat → Nat} {j v : Nat} (hw : ∀ t, wt t = lN (w t)) : ∀ t, vp_updL wt j (lN v) t = lN ((fun x => if x = j then v else w x) t) := by
  intro t
  by_cases z : t = j
  · subst z; rw [pk_uLs]; show _ = lN (if _ then _ else _); rw [if_pos rfl]
  · rw [pk_uLn z, hw]; show _ = lN (if _ then _ else _); rw [if_neg z]
theorem we_rep (wt : Nat → Int64) : ∃ w : Nat → Nat, ∀ t, wt t = lN (w t) :=
  ⟨fun t => Classical.choose (wb_of (wt t)), fun t => (Classical.choose_spec (wb_of (wt t))).2⟩
theorem we_main {pc cp : Int32} {K A B C SV VR CE KP oa pa ow ba re : Nat → Int32} {ps wt : Nat → Int64} {LF rt co : Nat → Int32} {s : Nat} (hs : s ≤ 48) (g : pg_g K A s) (hp : pg_pr K s pa) (how : ∀ j, j < s → ow j = nI (pg_pw K A (j + 1))) (D5 : ∀ p, wd_D K A s 5 p) {post : Int64 → SX → Prop}
    (h : ∀ ps wt, post (lN (we_W K A s 5 4)) ((nI s), pc, cp, K, A, B, C, SV, VR, CE, KP, oa, pa, ow, ba, re, ps, wt, LF, rt, co)) : wpX_weighMainPiece post ((nI s), pc, cp, K, A, B, C, SV, VR, CE, KP, oa, pa, ow, ba, re, ps, wt, LF, rt, co) := by
  unfold wpX_weighMainPiece
  refine we_passes hs g hp ?_ ps
  intro ps hps
  have H13 : ∀ v J, v < 5 → (∀ wt w, (∀ t, wt t = lN (w t)) → we_ok K A s w (v + 1) 5 → J (nI (v + 1)) K A B C SV VR CE KP oa pa ow ba re ps wt LF rt co) → ∀ d f, f + d = 5 → ∀ wt w, (∀ t, wt t = lN (w t)) → we_ok K A s w v 5 → we_ok K A s w (v + 1) f →
      wX_weighMainPiece_13 post J (nI v) (nI s) pc cp (d + 1) (nI f) K A B C SV VR CE KP oa pa ow ba re ps wt LF rt co := by
    intro v J hv hJ d
    induction d with
    | zero =>
      intro f hf wt w hw C1 C2
      have e : f = 5 := by omega
      subst e
      exact br_t (nI_le (a := 5) (by omega) (by omega)) (nm_r (nI_1 v) (hJ wt w hw C2))
    | succ d ih =>
      intro f hf wt w hw C1 C2
      have hcf : (nI f).toNatClampNeg = f := nb_cl (by omega)
      refine br_f (nI_ge (b := 5) (by omega) (by omega)) ?_
      refine we_piece hs (by omega) g how hps hw ⟨vp_in_nI (by omega) (by omega), ?_⟩
      refine nm_r (e' := vp_updL wt f (lN (we_S K A w f s))) (by rw [hcf]) (nm_r (nI_1 f) ?_)
      have O := we_ok_s g D5 (by omega) C1 C2
      exact ih (f + 1) (by omega) _ _ (we_upd hw) O.1 O.2
  have H6 : ∀ d v, v + d = 5 → ∀ wt w, (∀ t, wt t = lN (w t)) → we_ok K A s w v 5 → wX_weighMainPiece_6 post (nI s) pc cp (d + 1) (nI v) K A B C SV VR CE KP oa pa ow ba re ps wt LF rt co := by
    intro d
    induction d with
    | zero =>
      intro v hv wt w hw C1
      have e : v = 5 := by omega
      subst e
      refine br_t (nI_le (a := 5) (by omega) (by omega)) ?_
      rw [hw 4, C1 4 (by omega) (D5 4)]
      exact h ps wt
    | succ d ih =>
      intro v hv wt w hw C1
      refine br_f (nI_ge (b := 5) (by omega) (by omega)) ⟨6, ?_⟩
      exact H13 v _ (by omega) (fun wt' w' hw' C' => ih (v + 1) (by omega) wt' w' hw' C') 5 0 rfl wt w hw C1 (fun x hx => absurd hx (Nat.not_lt_zero _))
  obtain ⟨w, hw⟩ := we_rep wt
  exact ⟨6, H6 5 0 rfl wt w hw (fun x hx z => z.elim)⟩
end WE
