section XW
/-! the walks of the first tests -/
theorem xw_m1 {n : Nat} (h : n ≤ 48) : nI n - 1 = -1 ↔ n = 0 := by
  constructor
  · intro e
    rcases Nat.eq_zero_or_pos n with z | z
    · exact z
    · obtain ⟨m, rfl⟩ : ∃ m, n = m + 1 := ⟨n - 1, by omega⟩
      rw [nb_p1] at e
      have := nI_pos (n := m) (by omega)
      rw [e] at this
      exact absurd (by decide) this
  · intro e; subst e; decide
theorem xw_pe {pc cp : Int32} {K A B C SV VR CE KP ow ba re : Nat → Int32} {ps wt : Nat → Int64} {LF rt co : Nat → Int32} {s : Nat} (hs : s ≤ 48) {post : Int32 → SX → Prop}
    (hT : pg_wf K s → ∀ oa pa, pg_pr K s pa → post 1 ((nI s), pc, cp, K, A, B, C, SV, VR, CE, KP, oa, pa, ow, ba, re, ps, wt, LF, rt, co)) (hF : ¬ pg_wf K s → ∀ oa pa, post 0 ((nI s), pc, cp, K, A, B, C, SV, VR, CE, KP, oa, pa, ow, ba, re, ps, wt, LF, rt, co)) :
    ∀ d i, i + d = s → ∀ oa pa, pg_wp K i → pg_pi K i oa pa → wX_pairEnds_4 post (nI s) pc cp (d + 1) (nI (pg_dp K i)) (nI i) K A B C SV VR CE KP oa pa ow ba re ps wt LF rt co := by
  intro d
  induction d with
  | zero =>
    intro i hi oa pa w P
    have e : i = s := by omega
    subst e
    have h3 := pg_dp3 w i (Nat.le_refl _)
    refine br_t (nI_le (Nat.le_refl _) (by omega)) ?_
    exact pk_eq (pg_dp K i) 0 (fun z => hT ⟨w, z⟩ oa pa (pg_pi_pr P z)) (fun z => hF (fun y => z y.2) oa pa)
  | succ d ih =>
    intro i hi oa pa w P
    have his : i < s := by omega
    have h3 := pg_dp3 w i (Nat.le_refl _)
    have hc : (nI i).toNatClampNeg = i := nb_c48 his hs
    refine br_f (nI_ge his (by omega)) ⟨vp_in_nI (by omega) (by omega), ?_⟩
    intro x3 e3
    rw [hc] at e3
    subst e3
    have H60 : ∀ o', pg_wp K (i + 1) → pg_pi K (i + 1) o' pa → ¬ K i = 8 → ∀ x1, x1 = nI (pg_dp K (i + 1)) →
        wX_pairEnds_60 post (wX_pairEnds_4 post (nI s) pc cp (d + 1)) x1 (nI i) (K i) (nI s) pc cp K A B C SV VR CE KP o' pa ow ba re ps wt LF rt co := by
      intro o' w' P' h8 x1 e1
      refine br_f h8 (nm_r (nI_1 i) ?_)
      rw [e1]
      exact ih (i + 1) (by omega) o' pa w' P'
    have H31 : (K i = 11 → pg_dp K i = 0) → wX_pairEnds_31 post (wX_pairEnds_4 post (nI s) pc cp (d + 1)) (nI (pg_dp K i)) (nI i) (K i) (nI s) pc cp K A B C SV VR CE KP oa pa ow ba re ps wt LF rt co := by
      intro hb
      have H43 : pg_op K i → wX_pairEnds_43 post (wX_pairEnds_4 post (nI s) pc cp (d + 1)) (nI (pg_dp K i)) (nI i) (K i) (nI s) pc cp K A B C SV VR CE KP oa pa ow ba re ps wt LF rt co := by
        intro o
        have h8 : ¬ K i = 8 := fun z => pg_k_68 z o
        refine pk_lt (pg_dp K i) 3 (fun z => ?_) (fun z => hF (fun y => by have := (y.1 i his).2.1 o; omega) oa pa)
        refine ⟨vp_in_nI z (by omega), nm_r (by rw [nb_cl (by omega)]) ?_⟩
        refine nm_r (nI_1 _) ?_
        exact H60 (upd oa (pg_dp K i) (nI i)) (pg_wp_s w hb (fun _ => z) (fun y => absurd y h8)) (pg_pi_op P o) h8 _ (by rw [pg_dp_op o])
      by_cases k6 : K i = 6
      · exact br_t k6 (H43 (Or.inl k6))
      · refine br_f k6 ?_
        by_cases k7 : K i = 7
        · exact br_t k7 (H43 (Or.inr k7))
        · refine br_f k7 ?_
          have no : ¬ pg_op K i := fun z => z.elim k6 k7
          by_cases k8 : K i = 8
          · refine br_t k8 ?_
            refine pk_lt 0 (pg_dp K i) (fun z => ?_) (fun z => hF (fun y => by have := (y.1 i his).2.2 k8; omega) oa pa)
            refine nm_r (nb_m1 z) ?_
            obtain ⟨q, hq, eq, hqo, hqd, _⟩ := P.1 (pg_dp K i - 1) (by omega)
            have hin : vp_in (nI (pg_dp K i - 1)) 3 := vp_in_nI (by omega) (by omega)
            have hcl : (nI (pg_dp K i - 1)).toNatClampNeg = pg_dp K i - 1 := nb_cl (by omega)
            refine ⟨hin, vp_in_nI (by omega) (by omega), nm_r (e' := upd pa i (nI q)) (by rw [hcl, hc, eq]) ?_⟩
            refine ⟨hin, by rw [hcl, eq]; exact vp_in_nI (by omega) (by omega), nm_r (e' := upd (upd pa i (nI q)) q (nI i)) (by rw [hcl, eq, nb_cl (by omega)]) ?_⟩
            refine nm_r (nI_1 i) ?_
            rw [← pg_dp_end k8]
            exact ih (i + 1) (by omega) oa _ (pg_wp_s w hb (fun y => absurd y no) (fun _ => z)) (pg_pi_end (by omega) P k8 z hq eq)
          · have H := H60 oa (pg_wp_s w hb (fun y => absurd y no) (fun y => absurd y k8)) (pg_pi_no P no k8) k8
            rw [pg_dp_no no k8] at H
            exact H _ rfl
    by_cases b : K i = 11
    · refine br_t b ?_
      exact pk_le (pg_dp K i) 0 (fun z => H31 (fun _ => by omega)) (fun z => hF (fun y => by have := (y.1 i his).1 b; omega) oa pa)
    · exact br_f b (H31 (fun y => absurd y b))
theorem xw_pairEnds {pc cp : Int32} {K A B C SV VR CE KP oa pa ow ba re : Nat → Int32} {ps wt : Nat → Int64} {LF rt co : Nat → Int32} {s : Nat} (hs : s ≤ 48) {post : Int32 → SX → Prop}
    (hT : pg_wf K s → ∀ oa pa, pg_pr K s pa → post 1 ((nI s), pc, cp, K, A, B, C, SV, VR, CE, KP, oa, pa, ow, ba, re, ps, wt, LF, rt, co)) (hF : ¬ pg_wf K s → ∀ oa pa, post 0 ((nI s), pc, cp, K, A, B, C, SV, VR, CE, KP, oa, pa, ow, ba, re, ps, wt, LF, rt, co)) : wpX_pairEnds post ((nI s), pc, cp, K, A, B, C, SV, VR, CE, KP, oa, pa, ow, ba, re, ps, wt, LF, rt, co) :=
  ⟨s + 1, xw_pe hs hT hF s 0 (by omega) oa pa (fun i hi => absurd hi (Nat.not_lt_zero _)) (pg_pi_0 K oa pa)⟩
/-! bodies -/
theorem xw_pb24 {pc cp : Int32} {K A B C SV VR CE KP oa pa re : Nat → Int32} {ps wt : Nat → Int64} {LF rt co : Nat → Int32} {s : Nat} (hs : s ≤ 48) {post : Int32 → SX → Prop} (g : pg_g K A s)
    (hT : pg_nt K A s → ∀ ow ba, (∀ j, j < s → ow j = nI (pg_pw K A (j + 1))) → (∀ t, t < 4 → ba t = nI (pg_lb K A t s) - 1) → post 1 ((nI s), pc, cp, K, A, B, C, SV, VR, CE, KP, oa, pa, ow, ba, re, ps, wt, LF, rt, co)) (hF : ¬ pg_nt K A s → ∀ ow ba, post 0 ((nI s), pc, cp, K, A, B, C, SV, VR, CE, KP, oa, pa, ow, ba, re, ps, wt, LF, rt, co)) :
    ∀ d i, i + d = s → ∀ ow ba, (∀ j, j < i → ow j = nI (pg_pw K A (j + 1))) → (∀ t, t < 4 → ba t = nI (pg_lb K A t i) - 1) → pg_nt K A i →
      wX_placeBodies_24 post (nI s) pc cp (d + 1) (nI (pg_pw K A i)) (nI i) K A B C SV VR CE KP oa pa ow ba re ps wt LF rt co := by
  intro d
  induction d with
  | zero =>
    intro i hi ow ba h1 h2 h3
    have e : i = s := by omega
    subst e
    exact br_t (nI_le (Nat.le_refl _) (by omega)) (hT h3 ow ba h1 h2)
  | succ d ih =>
    intro i hi ow ba h1 h2 h3
    have his : i < s := by omega
    have hc : (nI i).toNatClampNeg = i := nb_c48 his hs
    have hin : vp_in (nI i) 48 := vp_in_nI (by omega) (by omega)
    refine br_f (nI_ge his (by omega)) ⟨hin, ?_⟩
    by_cases b : K i = 11
    · refine br_t (by rw [hc]; exact b) ⟨hin, ?_⟩
      obtain ⟨a4, ea⟩ := (g i his).2.1 (Or.inr b)
      refine nm_r (e' := nI (pg_ar A i)) (by rw [hc]; exact ea) ?_
      have hcl : (nI (pg_ar A i)).toNatClampNeg = pg_ar A i := nb_cl (by omega)
      have hl := pg_lb_le (K := K) (A := A) (t := pg_ar A i) i
      refine ⟨vp_in_nI (by omega) (by omega), ?_⟩
      by_cases z : pg_lb K A (pg_ar A i) i = 0
      · refine br_t (by rw [hcl, h2 _ a4, xw_m1 (by omega)]; exact z) ⟨vp_in_nI (by omega) (by omega), ?_⟩
        refine nm_r (e' := upd ba (pg_ar A i) (nI i)) (by rw [hcl]) ⟨hin, ?_⟩
        refine nm_r (e' := upd ow i (nI (pg_ar A i))) (by rw [hc]) ?_
        refine nm_r (nI_1 i) ?_
        have := ih (i + 1) (by omega) (upd ow i (nI (pg_ar A i))) (upd ba (pg_ar A i) (nI i)) ?_ ?_ ?_
        · rw [pg_pw_b b] at this; exact this
        · intro j hj
          by_cases y : j = i
          · rw [y, pk_us, pg_pw_b b]
          · rw [pk_un y]; exact h1 j (by omega)
        · intro t ht
          by_cases y : t = pg_ar A i
          · rw [y, pk_us, pg_lb_y b rfl, nb_p1]
          · rw [pk_un y, pg_lb_n (fun x => y x.2.symm)]; exact h2 t ht
        · intro t ht
          by_cases y : t = pg_ar A i
          · rw [y, pg_cb_y b rfl, (pg_lb_cb i).mp z]; omega
          · rw [pg_cb_n (fun x => y x.2.symm)]; exact h3 t ht
      · refine br_f (by rw [hcl, h2 _ a4, xw_m1 (by omega)]; exact z) (hF (fun y => ?_) ow ba)
        have h5 := y (pg_ar A i) a4
        have h6 := pg_cb_mono (K := K) (A := A) (t := pg_ar A i) (i + 1) s (by omega)
        rw [pg_cb_y b rfl] at h6
        have : ¬ pg_cb K A (pg_ar A i) i = 0 := fun x => z ((pg_lb_cb i).mpr x)
        omega
    · refine br_f (by rw [hc]; exact b) ⟨hin, ?_⟩
      refine nm_r (e' := upd ow i (nI (pg_pw K A i))) (by rw [hc]) ?_
      refine nm_r (nI_1 i) ?_
      have := ih (i + 1) (by omega) (upd ow i (nI (pg_pw K A i))) ba ?_ ?_ ?_
      · rw [pg_pw_n b] at this; exact this
      · intro j hj
        by_cases y : j = i
        · rw [y, pk_us, pg_pw_n b]
        · rw [pk_un y]; exact h1 j (by omega)
      · intro t ht
        rw [pg_lb_n (fun x => b x.1)]; exact h2 t ht
      · intro t ht
        rw [pg_cb_n (fun x => b x.1)]; exact h3 t ht
theorem xw_placeBodies {pc cp : Int32} {K A B C SV VR CE KP oa pa ow ba re : Nat → Int32} {ps wt : Nat → Int64} {LF rt co : Nat → Int32} {s : Nat} (hs : s ≤ 48) {post : Int32 → SX → Prop} (g : pg_g K A s)
    (hT : pg_nt K A s → ∀ ow ba, (∀ j, j < s → ow j = nI (pg_pw K A (j + 1))) → (∀ t, t < 4 → ba t = nI (pg_lb K A t s) - 1) → post 1 ((nI s), pc, cp, K, A, B, C, SV, VR, CE, KP, oa, pa, ow, ba, re, ps, wt, LF, rt, co)) (hF : ¬ pg_nt K A s → ∀ ow ba, post 0 ((nI s), pc, cp, K, A, B, C, SV, VR, CE, KP, oa, pa, ow, ba, re, ps, wt, LF, rt, co)) : wpX_placeBodies post ((nI s), pc, cp, K, A, B, C, SV, VR, CE, KP, oa, pa, ow, ba, re, ps, wt, LF, rt, co) := by
  have H : ∀ d t, t + d = 4 → ∀ ba, (∀ j, j < t → ba j = -1) → wX_placeBodies_2 post (nI s) pc cp (d + 1) (nI t) K A B C SV VR CE KP oa pa ow ba re ps wt LF rt co := by
    intro d
    induction d with
    | zero =>
      intro t ht ba h
      refine br_t (nI_le (a := 4) (by omega) (by omega)) ⟨s + 1, ?_⟩
      exact xw_pb24 hs g hT hF s 0 (by omega) ow ba (fun j hj => absurd hj (Nat.not_lt_zero _)) (fun t' ht' => by rw [h t' (by omega)]; show (-1 : Int32) = nI 0 - 1; decide) (fun t' ht' => Nat.zero_le _)
    | succ d ih =>
      intro t ht ba h
      refine br_f (nI_ge (b := 4) (by omega) (by omega)) ⟨vp_in_nI (by omega) (by omega), ?_⟩
      refine nm_r (e' := upd ba t (-1)) (by rw [nb_cl (by omega)]) ?_
      refine nm_r (nI_1 t) ?_
      refine ih (t + 1) (by omega) (upd ba t (-1)) ?_
      intro j hj
      by_cases y : j = t
      · rw [y, pk_us]
      · rw [pk_un y]; exact h j (by omega)
  exact ⟨5, H 4 0 rfl ba (fun j hj => absurd hj (Nat.not_lt_zero _))⟩
theorem xw_allCalls {pc cp : Int32} {K A B C SV VR CE KP oa pa ow ba re : Nat → Int32} {ps wt : Nat → Int64} {LF rt co : Nat → Int32} {s : Nat} (hs : s ≤ 48) {post : Int32 → Prop} (g : pg_g K A s) (hb : ∀ t, t < 4 → ba t = nI (pg_lb K A t s) - 1)
    (hT : pg_nm K A s → post 1) (hF : ¬ pg_nm K A s → post 0) : wpX_allCallsHaveBodies post ((nI s), pc, cp, K, A, B, C, SV, VR, CE, KP, oa, pa, ow, ba, re, ps, wt, LF, rt, co) := by
  have H : ∀ d i, i + d = s → pg_nm K A s ∨ True → (∀ j, j < i → K j = 9 → pg_lb K A (pg_ar A j) s ≠ 0) → wX_allCallsHaveBodies_2 post (nI s) pc cp K A B C SV VR CE KP oa pa ow ba re ps wt LF rt co (d + 1) (nI i) := by
    intro d
    induction d with
    | zero =>
      intro i hi _ h
      have e : i = s := by omega
      subst e
      exact br_t (nI_le (Nat.le_refl _) (by omega)) (hT h)
    | succ d ih =>
      intro i hi _ h
      have his : i < s := by omega
      have hc : (nI i).toNatClampNeg = i := nb_c48 his hs
      have hin : vp_in (nI i) 48 := vp_in_nI (by omega) (by omega)
      refine br_f (nI_ge his (by omega)) ⟨hin, ?_⟩
      by_cases b : K i = 9
      · obtain ⟨a4, ea⟩ := (g i his).2.1 (Or.inl b)
        have hl := pg_lb_le (K := K) (A := A) (t := pg_ar A i) s
        have hcl : (nI (pg_ar A i)).toNatClampNeg = pg_ar A i := nb_cl (by omega)
        refine br_t (by rw [hc]; exact b) ⟨hin, by rw [hc, ea]; exact vp_in_nI (by omega) (by omega), ?_⟩
        by_cases z : pg_lb K A (pg_ar A i) s = 0
        · exact br_t (by rw [hc]; show ba (pg_ar A i) = -1; rw [hb _ a4, xw_m1 (by omega)]; exact z) (hF (fun y => y i his b z))
        · refine br_f (by rw [hc]; show ¬ ba (pg_ar A i) = -1; rw [hb _ a4, xw_m1 (by omega)]; exact z) ?_
          refine nm_r (nI_1 i) (ih (i + 1) (by omega) (Or.inr trivial) ?_)
          intro j hj kj
          by_cases y : j = i
          · rw [y]; exact z
          · exact h j (by omega) kj
      · refine br_f (by rw [hc]; exact b) ?_
        refine nm_r (nI_1 i) (ih (i + 1) (by omega) (Or.inr trivial) ?_)
        intro j hj kj
        by_cases y : j = i
        · rw [y] at kj; exact absurd kj b
        · exact h j (by omega) kj
  exact ⟨s + 1, H s 0 (by omega) (Or.inr trivial) (fun j hj => absurd hj (Nat.not_lt_zero _))⟩
end XW
