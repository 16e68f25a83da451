section SM
/-! the small methods -/
theorem i_vc_add {k : Nat} {u : SX} {v : SY} (I : i_Rel k u v) (hk : k + 5 ≤ 2560) (v1 : Int32) (v2 : Int32) (v3 : Int32) (v4 : Int32) : wpX_add (fun r u' => wpY_add (fun r' v' => r' = r ∧ i_Rel (k + 5) u' v') v v1 v2 v3 v4) u v1 v2 v3 v4 := by
  obtain ⟨s, c, cp, K, A, B, C, SV, VR, CE, KP, LF, oa, pa, ow, ba, re, rt, co, ps, wt, cl, rc, wy, tm, rfl, rfl, hs, hc, ok⟩ := I
  by_cases h : s < 48
  · have hcs : (nI s).toNatClampNeg = s := nb_cl (by omega)
    have hin : vp_in (nI s) 48 := vp_in_nI h (by omega)
    refine br_t (nI_lt (b := 48) h (by omega)) (re_stX (fun vs => br_f (by decide) ?_) (fun nv => br_t rfl ?_))
    · refine ⟨hin, nm_r (e' := upd K s v1) (by rw [hcs]) ⟨hin, nm_r (e' := upd A s v2) (by rw [hcs]) ⟨hin, nm_r (e' := upd B s v3) (by rw [hcs]) ⟨hin, nm_r (e' := upd C s v4) (by rw [hcs]) (nm_r (nI_1 s) ?_)⟩⟩⟩⟩
      refine br_f (nb_ne (b := 48) (by omega) (by omega) (by omega)) (re_stY (fun _ => br_f (by decide) ?_) (fun z => absurd vs z))
      refine ⟨hin, nm_r (e' := upd K s v1) (by rw [hcs]) ⟨hin, nm_r (e' := upd A s v2) (by rw [hcs]) ⟨hin, nm_r (e' := upd B s v3) (by rw [hcs]) ⟨hin, nm_r (e' := upd C s v4) (by rw [hcs]) (nm_r (nI_1 s) ?_)⟩⟩⟩⟩
      refine ⟨rfl, re_mk (by omega) hc ?_⟩
      intro i hi
      by_cases z : i = s
      · subst z; rw [pk_us, pk_us, pk_us, pk_us]; exact vs
      · rw [pk_un z, pk_un z, pk_un z, pk_un z]; exact ok i (by omega)
    · refine br_f (nb_ne (b := 48) (by omega) (by omega) (by omega)) (re_stY (fun z => absurd z nv) (fun _ => br_t rfl ?_))
      exact ⟨rfl, re_mk hs hc ok⟩
  · have e : s = 48 := by omega
    subst e
    refine br_f (nI_nlt (b := 48) (by omega) (by omega)) (br_t rfl ?_)
    exact ⟨rfl, re_mk hs hc ok⟩
theorem i_vc_retract {k : Nat} {u : SX} {v : SY} (I : i_Rel k u v) (hk : k + 5 ≤ 2560) : wpX_retract (fun r u' => wpY_retract (fun r' v' => r' = r ∧ i_Rel (k + 5) u' v') v) u := by
  obtain ⟨s, c, cp, K, A, B, C, SV, VR, CE, KP, LF, oa, pa, ow, ba, re, rt, co, ps, wt, cl, rc, wy, tm, rfl, rfl, hs, hc, ok⟩ := I
  refine pk_lt 0 s (fun z => ?_) (fun z => ?_)
  · obtain ⟨m, rfl⟩ : ∃ m, s = m + 1 := ⟨s - 1, by omega⟩
    refine nm_r (nI_pred m) ?_
    refine br_f (nI_ne0 (by omega) (by omega)) (nm_r (nI_pred m) ?_)
    exact ⟨rfl, re_mk (by omega) hc (fun i hi => ok i (by omega))⟩
  · have e : s = 0 := by omega
    subst e
    exact br_t rfl ⟨rfl, re_mk hs hc ok⟩
theorem i_vc_start {k : Nat} {u : SX} {v : SY} (I : i_Rel k u v) (hk : k + 5 ≤ 2560) (v1 : Int32) (v2 : Int32) : wpX_start (fun r u' => wpY_start (fun r' v' => r' = r ∧ i_Rel (k + 5) u' v') v v1 v2) u v1 v2 := by
  obtain ⟨s, c, cp, K, A, B, C, SV, VR, CE, KP, LF, oa, pa, ow, ba, re, rt, co, ps, wt, cl, rc, wy, tm, rfl, rfl, hs, hc, ok⟩ := I
  unfold wpX_start
  refine re_var (fun z => br_f (by decide) ?_) (fun z => br_t rfl ?_)
  · obtain ⟨j, hj, e⟩ := id z
    subst e
    refine ⟨vp_in_nI hj (by omega), nm_e ?_⟩
    refine re_limle 7 (by omega) (fun _ => ?_) (fun y => absurd z y)
    exact ⟨vp_in_nI hj (by omega), nm_e ⟨rfl, re_mk hs hc ok⟩⟩
  · exact re_limle 7 (by omega) (fun y => absurd y z) (fun _ => ⟨rfl, re_mk hs hc ok⟩)
theorem i_vc_check {k : Nat} {u : SX} {v : SY} (I : i_Rel k u v) (hk : k + 5 ≤ 2560) : wpX_check (fun r u' => wpY_check (fun r' v' => r' = r ∧ i_Rel (k + 5) u' v') v) u := by
  obtain ⟨s, c, cp, K, A, B, C, SV, VR, CE, KP, LF, oa, pa, ow, ba, re, rt, co, ps, wt, cl, rc, wy, tm, rfl, rfl, hs, hc, ok⟩ := I
  unfold wpX_check
  refine xf_findFault hs (pg_of_ok ok) (fun oa pa ow ba re ps wt _ => ?_)
  exact yf_check hs (pg_of_ok ok) (fun rc wy tm => ⟨rfl, re_mk hs hc ok⟩)
theorem i_vc_printed {k : Nat} {u : SX} {v : SY} (I : i_Rel k u v) (hk : k + 5 ≤ 2560) : wpX_printed (fun r => wpY_printed (fun r' => r' = r ∧ i_Rel (k + 5) u v) v) u := by
  obtain ⟨s, c, cp, K, A, B, C, SV, VR, CE, KP, LF, oa, pa, ow, ba, re, rt, co, ps, wt, cl, rc, wy, tm, rfl, rfl, hs, hc, ok⟩ := I
  exact ⟨rfl, re_mk hs hc ok⟩
theorem i_vc_output {k : Nat} {u : SX} {v : SY} (I : i_Rel k u v) (hk : k + 5 ≤ 2560) (v1 : Int32) : wpX_output (fun r => wpY_output (fun r' => r' = r ∧ i_Rel (k + 5) u v) v v1) u v1 := by
  obtain ⟨s, c, cp, K, A, B, C, SV, VR, CE, KP, LF, oa, pa, ow, ba, re, rt, co, ps, wt, cl, rc, wy, tm, rfl, rfl, hs, hc, ok⟩ := I
  have R : i_Rel (k + 5) ((nI s), (nI c), cp, K, A, B, C, SV, VR, CE, KP, oa, pa, ow, ba, re, ps, wt, LF, rt, co) ((nI s), (nI c), K, A, B, C, SV, VR, CE, KP, LF, cl, rc, wy, tm) := re_mk hs hc ok
  refine br_c (fun z => br_t z ⟨rfl, R⟩) (fun z => ?_)
  refine br_c (fun y => br_f z (br_t y ⟨rfl, R⟩)) (fun y => ?_)
  refine br_c (fun x => ?_) (fun x => br_f z (br_f y (br_t (Int32.not_lt.mp x) ⟨rfl, R⟩)))
  have hin : vp_in v1 48 := by
    obtain ⟨j, hj, rfl⟩ := nI_of z
    exact vp_in_nI ((nI_ltI (b := 48) hj (by omega)).mp x) (by omega)
  exact ⟨hin, br_f z (br_f y (br_f (Int32.not_le.mpr x) ⟨hin, rfl, R⟩))⟩
theorem i_vc_variable {k : Nat} {u : SX} {v : SY} (I : i_Rel k u v) (hk : k + 5 ≤ 2560) (v1 : Int32) : wpX_variable (fun r => wpY_variable (fun r' => r' = r ∧ i_Rel (k + 5) u v) v v1) u v1 := by
  obtain ⟨s, c, cp, K, A, B, C, SV, VR, CE, KP, LF, oa, pa, ow, ba, re, rt, co, ps, wt, cl, rc, wy, tm, rfl, rfl, hs, hc, ok⟩ := I
  have R : i_Rel (k + 5) ((nI s), (nI c), cp, K, A, B, C, SV, VR, CE, KP, oa, pa, ow, ba, re, ps, wt, LF, rt, co) ((nI s), (nI c), K, A, B, C, SV, VR, CE, KP, LF, cl, rc, wy, tm) := re_mk hs hc ok
  unfold wpX_variable
  refine re_var (fun z => br_f (by decide) ?_) (fun z => br_t rfl ?_)
  · obtain ⟨j, hj, e⟩ := id z
    subst e
    have hin : vp_in (nI j) 8 := vp_in_nI hj (by omega)
    exact ⟨hin, re_lim 7 (by omega) (fun _ => ⟨hin, rfl, R⟩) (fun y => absurd z y)⟩
  · exact re_lim 7 (by omega) (fun y => absurd y z) (fun _ => ⟨rfl, R⟩)
theorem sm_8l (a b : Nat) : nI a * 8 + nI b = nI (a * 8 + b) := by
  show nI a * nI 8 + nI b = _
  rw [pk_mul, nI_add]
theorem sm_8r (a b : Nat) : 8 * nI a + nI b = nI (a * 8 + b) := by
  show nI 8 * nI a + nI b = _
  rw [pk_mul, nI_add, Nat.mul_comm]
theorem i_vc_cell {k : Nat} {u : SX} {v : SY} (I : i_Rel k u v) (hk : k + 5 ≤ 2560) (v1 : Int32) (v2 : Int32) : wpX_cell (fun r => wpY_cell (fun r' => r' = r ∧ i_Rel (k + 5) u v) v v1 v2) u v1 v2 := by
  obtain ⟨s, c, cp, K, A, B, C, SV, VR, CE, KP, LF, oa, pa, ow, ba, re, rt, co, ps, wt, cl, rc, wy, tm, rfl, rfl, hs, hc, ok⟩ := I
  have R : i_Rel (k + 5) ((nI s), (nI c), cp, K, A, B, C, SV, VR, CE, KP, oa, pa, ow, ba, re, ps, wt, LF, rt, co) ((nI s), (nI c), K, A, B, C, SV, VR, CE, KP, LF, cl, rc, wy, tm) := re_mk hs hc ok
  unfold wpX_cell
  refine re_arr (fun z => br_f (by decide) ?_) (fun z => br_t rfl ?_)
  · obtain ⟨a, ha, e⟩ := id z
    subst e
    have Y0 : ¬ (∃ j : Nat, j < 8 ∧ v2 = nI j) → wpY_cell (fun r' => r' = 0 ∧ i_Rel (k + 5) ((nI s), (nI c), cp, K, A, B, C, SV, VR, CE, KP, oa, pa, ow, ba, re, ps, wt, LF, rt, co) ((nI s), (nI c), K, A, B, C, SV, VR, CE, KP, LF, cl, rc, wy, tm)) ((nI s), (nI c), K, A, B, C, SV, VR, CE, KP, LF, cl, rc, wy, tm) (nI a) v2 := by
      intro y
      refine re_lim 2 (by omega) (fun _ => ?_) (fun y => absurd z y)
      exact re_lim 7 (by omega) (fun x => absurd x y) (fun _ => ⟨rfl, R⟩)
    rcases pk_ix v2 (n := 8) (by omega) with y | y | ⟨b, hb, e⟩
    · exact br_t y (Y0 (fun ⟨j, hj, e⟩ => by rw [e] at y; exact nI_pos (by omega) y))
    · refine br_f (fun x => absurd (Int32.lt_of_le_of_lt y x) (by decide)) (br_f (Int32.not_lt.mpr y) ?_)
      exact Y0 (fun ⟨j, hj, e⟩ => by rw [e] at y; exact nI_ge (b := 8) hj (by omega) y)
    · subst e
      have hin : vp_in (nI (a * 8 + b)) 24 := vp_in_nI (by omega) (by omega)
      refine br_f (nI_pos (by omega)) (br_t (nI_lt (b := 8) hb (by omega)) ?_)
      rw [sm_8l]
      refine ⟨hin, ?_⟩
      refine re_lim 2 (by omega) (fun _ => ?_) (fun y => absurd z y)
      refine re_lim 7 (by omega) (fun _ => ?_) (fun y => absurd ⟨b, hb, rfl⟩ y)
      rw [sm_8r]
      exact ⟨hin, rfl, R⟩
  · exact re_lim 2 (by omega) (fun y => absurd y z) (fun _ => ⟨rfl, R⟩)
/-! arrays filled by a loop -/
def sm_z (a : Nat → Int32) (n : Nat) : Nat → Int32 := fun j => if j < n then 0 else a j
def sm_c (a b : Nat → Int32) (n : Nat) : Nat → Int32 := fun j => if j < n then a j else b j
theorem sm_z0 (a : Nat → Int32) : sm_z a 0 = a := funext fun j => if_neg (Nat.not_lt_zero _)
theorem sm_c0 (a b : Nat → Int32) : sm_c a b 0 = b := funext fun j => if_neg (Nat.not_lt_zero _)
theorem sm_zs (a : Nat → Int32) (n : Nat) : upd (sm_z a n) n 0 = sm_z a (n + 1) := by
  funext j
  by_cases z : j = n
  · subst z; rw [pk_us]; unfold sm_z; rw [if_pos (by omega)]
  · rw [pk_un z]; unfold sm_z
    by_cases y : j < n
    · rw [if_pos y, if_pos (by omega)]
    · rw [if_neg y, if_neg (by omega)]
theorem sm_cs (a b : Nat → Int32) (n : Nat) : upd (sm_c a b n) n (a n) = sm_c a b (n + 1) := by
  funext j
  by_cases z : j = n
  · subst z; rw [pk_us]; unfold sm_c; rw [if_pos (by omega)]
  · rw [pk_un z]; unfold sm_c
    by_cases y : j < n
    · rw [if_pos y, if_pos (by omega)]
    · rw [if_neg y, if_neg (by omega)]
theorem sm_cz (a b : Nat → Int32) (n : Nat) : sm_c (sm_z a n) b n = sm_z b n := by
  funext j
  unfold sm_c sm_z
  by_cases y : j < n
  · rw [if_pos y, if_pos y, if_pos y]
  · rw [if_neg y, if_neg y]
theorem sm_begin {pc cp : Int32} {K A B C SV VR CE KP oa pa ow ba re : Nat → Int32} {ps wt : Nat → Int64} {LF rt co : Nat → Int32} {s : Nat} {post : SX → Prop} (h : post ((nI s), 0, 4, K, A, B, C, SV, (sm_c SV VR 8), (sm_z CE 24), KP, oa, pa, ow, ba, re, ps, wt, LF, rt, co)) : wpX_beginRun post ((nI s), pc, cp, K, A, B, C, SV, VR, CE, KP, oa, pa, ow, ba, re, ps, wt, LF, rt, co) := by
  have H28 : ∀ d i, i + d = 24 → wX_beginRun_28 post (nI s) pc cp (d + 1) (nI i) K A B C SV (sm_c SV VR 8) (sm_z CE i) KP oa pa ow ba re ps wt LF rt co := by
    intro d
    induction d with
    | zero =>
      intro i hi
      have e : i = 24 := by omega
      subst e
      exact br_t (nI_le (a := 24) (by omega) (by omega)) h
    | succ d ih =>
      intro i hi
      refine br_f (nI_ge (b := 24) (by omega) (by omega)) ⟨vp_in_nI (by omega) (by omega), ?_⟩
      exact nm_r (e' := sm_z CE (i + 1)) (by rw [nb_cl (by omega), sm_zs]) (nm_r (nI_1 i) (ih (i + 1) (by omega)))
  have H2 : ∀ d i, i + d = 8 → wX_beginRun_2 post (nI s) pc cp (d + 1) (nI i) K A B C SV (sm_c SV VR i) CE KP oa pa ow ba re ps wt LF rt co := by
    intro d
    induction d with
    | zero =>
      intro i hi
      have e : i = 8 := by omega
      subst e
      have L := H28 24 0 rfl
      rw [sm_z0] at L
      exact br_t (nI_le (a := 8) (by omega) (by omega)) ⟨25, L⟩
    | succ d ih =>
      intro i hi
      have hin : vp_in (nI i) 8 := vp_in_nI (by omega) (by omega)
      refine br_f (nI_ge (b := 8) (by omega) (by omega)) ⟨hin, hin, ?_⟩
      exact nm_r (e' := sm_c SV VR (i + 1)) (by rw [nb_cl (by omega), sm_cs]) (nm_r (nI_1 i) (ih (i + 1) (by omega)))
  have L := H2 8 0 rfl
  rw [sm_c0] at L
  exact ⟨9, L⟩
theorem sm_clearX {pc cp : Int32} {K A B C SV VR CE KP oa pa ow ba re : Nat → Int32} {ps wt : Nat → Int64} {LF rt co : Nat → Int32} {s : Nat} {post : SX → Prop} (h : post ((nI 0), 0, 4, K, A, B, C, (sm_z SV 8), (sm_z VR 8), (sm_z CE 24), KP, oa, pa, ow, ba, re, ps, wt, LF, rt, co)) : wpX_clear post ((nI s), pc, cp, K, A, B, C, SV, VR, CE, KP, oa, pa, ow, ba, re, ps, wt, LF, rt, co) := by
  have H : ∀ d i, i + d = 8 → wX_clear_7 post (nI 0) pc cp (d + 1) (nI i) K A B C (sm_z SV i) VR CE KP oa pa ow ba re ps wt LF rt co := by
    intro d
    induction d with
    | zero =>
      intro i hi
      have e : i = 8 := by omega
      subst e
      refine br_t (nI_le (a := 8) (by omega) (by omega)) (sm_begin ?_)
      rw [sm_cz]; exact h
    | succ d ih =>
      intro i hi
      refine br_f (nI_ge (b := 8) (by omega) (by omega)) ⟨vp_in_nI (by omega) (by omega), ?_⟩
      exact nm_r (e' := sm_z SV (i + 1)) (by rw [nb_cl (by omega), sm_zs]) (nm_r (nI_1 i) (ih (i + 1) (by omega)))
  have L := H 8 0 rfl
  rw [sm_z0] at L
  exact ⟨9, L⟩
theorem sm_clearY {pc : Int32} {K A B C SV VR CE KP LF cl rc : Nat → Int32} {wy tm : Nat → Int64} {s : Nat} {post : SY → Prop} (h : post ((nI 0), 0, K, A, B, C, (sm_z SV 8), (sm_z VR 8), (sm_z CE 24), KP, LF, cl, rc, wy, tm)) : wpY_clear post ((nI s), pc, K, A, B, C, SV, VR, CE, KP, LF, cl, rc, wy, tm) := by
  have H40 : ∀ d i, i + d = 24 → wY_clear_40 post (nI 0) 0 (d + 1) (nI i) K A B C (sm_z SV 8) (sm_z VR 8) (sm_z CE i) KP LF cl rc wy tm := by
    intro d
    induction d with
    | zero =>
      intro i hi
      have e : i = 24 := by omega
      subst e
      exact br_t (nI_le (a := 24) (by omega) (by omega)) h
    | succ d ih =>
      intro i hi
      refine br_f (nI_ge (b := 24) (by omega) (by omega)) ⟨vp_in_nI (by omega) (by omega), ?_⟩
      exact nm_r (e' := sm_z CE (i + 1)) (by rw [nb_cl (by omega), sm_zs]) (nm_r (nI_1 i) (ih (i + 1) (by omega)))
  have H12 : ∀ d i, i + d = 8 → wY_clear_12 post (nI 0) 0 (d + 1) (nI i) K A B C (sm_z SV i) (sm_z VR i) CE KP LF cl rc wy tm := by
    intro d
    induction d with
    | zero =>
      intro i hi
      have e : i = 8 := by omega
      subst e
      have L := H40 24 0 rfl
      rw [sm_z0] at L
      exact br_t (nI_le (a := 8) (by omega) (by omega)) ⟨25, L⟩
    | succ d ih =>
      intro i hi
      have hin : vp_in (nI i) 8 := vp_in_nI (by omega) (by omega)
      refine br_f (nI_ge (b := 8) (by omega) (by omega)) ⟨hin, ?_⟩
      refine nm_r (e' := sm_z SV (i + 1)) (by rw [nb_cl (by omega), sm_zs]) ⟨hin, ?_⟩
      exact nm_r (e' := sm_z VR (i + 1)) (by rw [nb_cl (by omega), sm_zs]) (nm_r (nI_1 i) (ih (i + 1) (by omega)))
  have L := H12 8 0 rfl
  rw [sm_z0, sm_z0] at L
  exact ⟨9, L⟩
theorem i_vc_clear {k : Nat} {u : SX} {v : SY} (I : i_Rel k u v) (hk : k + 5 ≤ 2560) : wpX_clear (fun u' => wpY_clear (fun v' => i_Rel (k + 5) u' v') v) u := by
  obtain ⟨s, c, cp, K, A, B, C, SV, VR, CE, KP, LF, oa, pa, ow, ba, re, rt, co, ps, wt, cl, rc, wy, tm, rfl, rfl, hs, hc, ok⟩ := I
  refine sm_clearX (sm_clearY ?_)
  exact re_mk (s := 0) (c := 0) (by omega) (by omega) (fun i hi => absurd hi (Nat.not_lt_zero _))
end SM
