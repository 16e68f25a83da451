section YW
/-! the reference's walks of the first tests -/
theorem yw_opens {pc : Int32} {K A B C SV VR CE KP LF cl rc : Nat → Int32} {wy tm : Nat → Int64} {s i : Nat} (hi : i < 48) {post : Int32 → Prop} (h1 : pg_op K i → post 1) (h0 : ¬ pg_op K i → post 0) : wpY_opens post ((nI s), pc, K, A, B, C, SV, VR, CE, KP, LF, cl, rc, wy, tm) (nI i) := by
  have hc : (nI i).toNatClampNeg = i := nb_cl (by omega)
  have hin : vp_in (nI i) 48 := vp_in_nI hi (by omega)
  refine ⟨hin, ?_⟩
  rw [hc]
  by_cases k6 : K i = 6
  · exact br_t k6 (h1 (Or.inl k6))
  · refine br_f k6 ⟨hin, ?_⟩
    by_cases k7 : K i = 7
    · exact br_t k7 (h1 (Or.inr k7))
    · exact br_f k7 (h0 (fun z => z.elim k6 k7))
theorem yw_malformed {pc : Int32} {K A B C SV VR CE KP LF cl rc : Nat → Int32} {wy tm : Nat → Int64} {s : Nat} (hs : s ≤ 48) {post : Int32 → Prop} (hT : pg_wf K s → post 0) (hF : ¬ pg_wf K s → post 1) : wpY_malformed post ((nI s), pc, K, A, B, C, SV, VR, CE, KP, LF, cl, rc, wy, tm) := by
  have H : ∀ d i, i + d = s → pg_wp K i → wY_malformed_4 post (nI s) pc K A B C SV VR CE KP LF cl rc wy tm (d + 1) (nI (pg_dp K i)) (nI i) := by
    intro d
    induction d with
    | zero =>
      intro i hi w
      have e : i = s := by omega
      subst e
      have h3 := pg_dp3 w i (Nat.le_refl _)
      refine br_t (nI_le (Nat.le_refl _) (by omega)) ?_
      exact pk_eq (pg_dp K i) 0 (fun z => hT ⟨w, z⟩) (fun z => hF (fun y => z y.2))
    | succ d ih =>
      intro i hi w
      have his : i < s := by omega
      have h3 := pg_dp3 w i (Nat.le_refl _)
      have hc : (nI i).toNatClampNeg = i := nb_c48 his hs
      have hin : vp_in (nI i) 48 := vp_in_nI (by omega) (by omega)
      refine br_f (nI_ge his (by omega)) ⟨hin, ?_⟩
      have H54 : ∀ c, c ≤ 4 → pg_dp K (i + 1) = c → (c ≤ 3 → pg_wp K (i + 1)) → (¬ c ≤ 3 → ¬ pg_wf K s) →
          wY_malformed_54 post (wY_malformed_4 post (nI s) pc K A B C SV VR CE KP LF cl rc wy tm (d + 1)) (nI c) (nI i) (nI s) pc K A B C SV VR CE KP LF cl rc wy tm := by
        intro c hc4 ec h h'
        refine br_f (nI_pos (by omega)) ?_
        refine pk_le c 3 (fun z => ?_) (fun z => hF (h' (by omega)))
        refine nm_r (nI_1 i) ?_
        rw [← ec]
        exact ih (i + 1) (by omega) (h z)
      have H29 : (K i = 11 → pg_dp K i = 0) → wY_malformed_29 post (wY_malformed_4 post (nI s) pc K A B C SV VR CE KP LF cl rc wy tm (d + 1)) (nI (pg_dp K i)) (nI i) (nI s) pc K A B C SV VR CE KP LF cl rc wy tm := by
        intro hb
        refine yw_opens (by omega) (fun o => ?_) (fun o => ?_)
        · refine br_f (by decide) (nm_r (nI_1 _) ⟨hin, ?_⟩)
          have h8 : ¬ K i = 8 := fun z => pg_k_68 z o
          refine br_f (by rw [hc]; exact h8) ?_
          refine H54 _ (by omega) (pg_dp_op o) (fun z => pg_wp_s w hb (fun _ => by omega) (fun y => absurd y h8)) ?_
          intro z y
          have := (y.1 i his).2.1 o
          omega
        · refine br_t rfl ⟨hin, ?_⟩
          by_cases k8 : K i = 8
          · refine br_t (by rw [hc]; exact k8) ?_
            by_cases z : pg_dp K i = 0
            · refine nm_r (e' := -1) (by rw [z]; decide) ?_
              exact br_t (by decide) (hF (fun y => by have := (y.1 i his).2.2 k8; omega))
            · refine nm_r (nb_m1 (by omega)) ?_
              exact H54 _ (by omega) (pg_dp_end k8) (fun _ => pg_wp_s w hb (fun y => absurd y o) (fun _ => by omega)) (fun y => absurd (by omega) y)
          · refine br_f (by rw [hc]; exact k8) ?_
            exact H54 _ (by omega) (pg_dp_no o k8) (fun _ => pg_wp_s w hb (fun y => absurd y o) (fun y => absurd y k8)) (fun y => absurd (by omega) y)
      by_cases b : K i = 11
      · refine br_t (by rw [hc]; exact b) ?_
        exact pk_eq (pg_dp K i) 0 (fun z => H29 (fun _ => z)) (fun z => hF (fun y => z ((y.1 i his).1 b)))
      · exact br_f (by rw [hc]; exact b) (H29 (fun y => absurd y b))
  exact ⟨s + 1, H s 0 (by omega) (fun i hi => absurd hi (Nat.not_lt_zero _))⟩
theorem yw_bodies {pc : Int32} {K A B C SV VR CE KP LF cl rc : Nat → Int32} {wy tm : Nat → Int64} {s t : Nat} (hs : s ≤ 48) (ht : t < 4) (g : pg_g K A s) {post : Int32 → Prop} (h : post (nI (pg_cb K A t s))) : wpY_bodies post ((nI s), pc, K, A, B, C, SV, VR, CE, KP, LF, cl, rc, wy, tm) (nI t) := by
  have H : ∀ d i, i + d = s → wY_bodies_4 post (nI t) (nI s) pc K A B C SV VR CE KP LF cl rc wy tm (d + 1) (nI (pg_cb K A t i)) (nI i) := by
    intro d
    induction d with
    | zero =>
      intro i hi
      have e : i = s := by omega
      subst e
      exact br_t (nI_le (Nat.le_refl _) (by omega)) h
    | succ d ih =>
      intro i hi
      have his : i < s := by omega
      have hc : (nI i).toNatClampNeg = i := nb_c48 his hs
      have hin : vp_in (nI i) 48 := vp_in_nI (by omega) (by omega)
      refine br_f (nI_ge his (by omega)) ⟨hin, ?_⟩
      have I := ih (i + 1) (by omega)
      by_cases b : K i = 11
      · obtain ⟨a4, ea⟩ := (g i his).2.1 (Or.inr b)
        refine br_t (by rw [hc]; exact b) ⟨hin, ?_⟩
        by_cases z : pg_ar A i = t
        · refine br_t (by rw [hc, ea, z]) (nm_r (nI_1 _) (nm_r (nI_1 i) ?_))
          rw [pg_cb_y b z] at I; exact I
        · refine br_f (by rw [hc, ea]; exact nb_ne z (by omega) (by omega)) (nm_r (nI_1 i) ?_)
          rw [pg_cb_n (fun y => z y.2)] at I; exact I
      · refine br_f (by rw [hc]; exact b) (nm_r (nI_1 i) ?_)
        rw [pg_cb_n (fun y => b y.1)] at I; exact I
  exact ⟨s + 1, H s 0 (by omega)⟩
/-- where the piece of t begins, as the reference says it -/
def yw_pl (K A : Nat → Int32) (s t : Nat) : Nat := if pg_lb K A t s = 0 then s else pg_lb K A t s
theorem yw_placeOf {pc : Int32} {K A B C SV VR CE KP LF cl rc : Nat → Int32} {wy tm : Nat → Int64} {s t : Nat} (hs : s ≤ 48) (ht : t < 4) (g : pg_g K A s) (hn : pg_cb K A t s ≤ 1) {post : Int32 → Prop} (h : post (nI (yw_pl K A s t))) : wpY_placeOf post ((nI s), pc, K, A, B, C, SV, VR, CE, KP, LF, cl, rc, wy, tm) (nI t) := by
  have H : ∀ d i, i + d = s → pg_lb K A t i = 0 → wY_placeOf_2 post (nI t) (nI s) pc K A B C SV VR CE KP LF cl rc wy tm (d + 1) (nI i) := by
    intro d
    induction d with
    | zero =>
      intro i hi l
      have e : i = s := by omega
      subst e
      unfold yw_pl at h
      rw [if_pos l] at h
      exact br_t (nI_le (Nat.le_refl _) (by omega)) h
    | succ d ih =>
      intro i hi l
      have his : i < s := by omega
      have hc : (nI i).toNatClampNeg = i := nb_c48 his hs
      have hin : vp_in (nI i) 48 := vp_in_nI (by omega) (by omega)
      refine br_f (nI_ge his (by omega)) ⟨hin, ?_⟩
      by_cases b : K i = 11
      · obtain ⟨a4, ea⟩ := (g i his).2.1 (Or.inr b)
        refine br_t (by rw [hc]; exact b) ⟨hin, ?_⟩
        by_cases z : pg_ar A i = t
        · refine br_t (by rw [hc, ea, z]) ?_
          have h6 := pg_cb_mono (K := K) (A := A) (t := t) (i + 1) s (by omega)
          rw [pg_cb_y b z] at h6
          have h7 : pg_lb K A t s ≠ 0 := fun y => by have := (pg_lb_cb s).mp y; omega
          have h8 := pg_lb_b s h7
          have h9 := pg_lb_le (K := K) (A := A) (t := t) s
          have := pg_nt_u hn (by omega) his h8.1 b h8.2 z
          unfold yw_pl at h
          rw [if_neg h7, show pg_lb K A t s = i + 1 by omega, ← nI_1] at h
          exact h
        · refine br_f (by rw [hc, ea]; exact nb_ne z (by omega) (by omega)) (nm_r (nI_1 i) ?_)
          exact ih (i + 1) (by omega) (by rw [pg_lb_n (fun y => z y.2)]; exact l)
      · refine br_f (by rw [hc]; exact b) (nm_r (nI_1 i) ?_)
        exact ih (i + 1) (by omega) (by rw [pg_lb_n (fun y => b y.1)]; exact l)
  exact ⟨s + 1, H s 0 (by omega) rfl⟩
/-- a piece's number as the reference says it -/
def yw_p (p : Nat) : Int32 := if p = 4 then -1 else nI p
theorem yw_pieceOf {pc : Int32} {K A B C SV VR CE KP LF cl rc : Nat → Int32} {wy tm : Nat → Int64} {s i : Nat} (hs : s ≤ 48) (his : i < s) (g : pg_g K A s) {post : Int32 → Prop} (h : post (yw_p (pg_pw K A (i + 1)))) : wpY_pieceOf post ((nI s), pc, K, A, B, C, SV, VR, CE, KP, LF, cl, rc, wy, tm) (nI i) := by
  have H : ∀ k, k ≤ i → pg_pw K A (k + 1) = pg_pw K A (i + 1) → wY_pieceOf_2 post (nI s) pc K A B C SV VR CE KP LF cl rc wy tm (k + 2) (nI k) := by
    intro k
    induction k with
    | zero =>
      intro hk e
      have hin : vp_in (nI 0) 48 := vp_in_nI (by omega) (by omega)
      have hc : (nI 0).toNatClampNeg = 0 := nb_cl (by omega)
      refine br_f (nI_pos (by omega)) ⟨hin, ?_⟩
      by_cases b : K 0 = 11
      · obtain ⟨a4, ea⟩ := (g 0 (by omega)).2.1 (Or.inr b)
        refine br_t (by rw [hc]; exact b) ⟨hin, ?_⟩
        rw [← e, pg_pw_b b] at h
        unfold yw_p at h
        rw [if_neg (by omega)] at h
        rw [hc, ea]; exact h
      · refine br_f (by rw [hc]; exact b) (nm_r (e' := -1) (by decide) ?_)
        rw [← e, pg_pw_n b] at h
        exact br_t (by decide) h
    | succ k ih =>
      intro hk e
      have hin : vp_in (nI (k + 1)) 48 := vp_in_nI (by omega) (by omega)
      have hc : (nI (k + 1)).toNatClampNeg = k + 1 := nb_cl (by omega)
      refine br_f (nI_pos (by omega)) ⟨hin, ?_⟩
      by_cases b : K (k + 1) = 11
      · obtain ⟨a4, ea⟩ := (g (k + 1) (by omega)).2.1 (Or.inr b)
        refine br_t (by rw [hc]; exact b) ⟨hin, ?_⟩
        rw [← e, pg_pw_b b] at h
        unfold yw_p at h
        rw [if_neg (by omega)] at h
        rw [hc, ea]; exact h
      · refine br_f (by rw [hc]; exact b) (nm_r (pk_m1 k) ?_)
        exact ih (by omega) (by rw [← e, pg_pw_n b])
  exact ⟨i + 2, H i (Nat.le_refl _) rfl⟩
theorem yw_missing {pc : Int32} {K A B C SV VR CE KP LF cl rc : Nat → Int32} {wy tm : Nat → Int64} {s : Nat} (hs : s ≤ 48) (g : pg_g K A s) (hn : pg_nt K A s) {post : Int32 → Prop} (hT : pg_nm K A s → post 0) (hF : ¬ pg_nm K A s → post 1) : wpY_missing post ((nI s), pc, K, A, B, C, SV, VR, CE, KP, LF, cl, rc, wy, tm) := by
  have H : ∀ d i, i + d = s → (∀ j, j < i → K j = 9 → pg_lb K A (pg_ar A j) s ≠ 0) → wY_missing_2 post (nI s) pc K A B C SV VR CE KP LF cl rc wy tm (d + 1) (nI i) := by
    intro d
    induction d with
    | zero =>
      intro i hi h
      have e : i = s := by omega
      subst e
      exact br_t (nI_le (Nat.le_refl _) (by omega)) (hT h)
    | succ d ih =>
      intro i hi h
      have his : i < s := by omega
      have hc : (nI i).toNatClampNeg = i := nb_c48 his hs
      have hin : vp_in (nI i) 48 := vp_in_nI (by omega) (by omega)
      refine br_f (nI_ge his (by omega)) ⟨hin, ?_⟩
      by_cases b : K i = 9
      · obtain ⟨a4, ea⟩ := (g i his).2.1 (Or.inl b)
        refine br_t (by rw [hc]; exact b) ⟨hin, ?_⟩
        have h1 := hn _ a4
        rw [hc, ea]
        refine yw_bodies hs a4 g ?_
        refine pk_eq (pg_cb K A (pg_ar A i) s) 0 (fun z => hF (fun y => y i his b ((pg_lb_cb s).mpr z))) (fun z => ?_)
        refine nm_r (nI_1 i) (ih (i + 1) (by omega) ?_)
        intro j hj kj
        by_cases y : j = i
        · rw [y]; exact fun x => z ((pg_lb_cb s).mp x)
        · exact h j (by omega) kj
      · refine br_f (by rw [hc]; exact b) (nm_r (nI_1 i) (ih (i + 1) (by omega) ?_))
        intro j hj kj
        by_cases y : j = i
        · rw [y] at kj; exact absurd kj b
        · exact h j (by omega) kj
  exact ⟨s + 1, H s 0 (by omega) (fun j hj => absurd hj (Nat.not_lt_zero _))⟩
/-- END of an opener, opener of an END -/
theorem yw_endOf {pc : Int32} {K A B C SV VR CE KP LF cl rc : Nat → Int32} {wy tm : Nat → Int64} {s q e : Nat} (hs : s ≤ 48) (w : pg_wp K s) (hes : e < s) (m : pg_mt K q e) {post : Int32 → Prop} (h : post (nI e)) : wpY_endOf post ((nI s), pc, K, A, B, C, SV, VR, CE, KP, LF, cl, rc, wy, tm) (nI q) := by
  obtain ⟨hqe, ho, h8, hd, hk⟩ := m
  have H : ∀ d i, i + d = e → q < i → wY_endOf_4 post (nI s) pc K A B C SV VR CE KP LF cl rc wy tm (d + 1) (nI (pg_dp K i - pg_dp K q)) (nI i) := by
    intro d
    induction d with
    | zero =>
      intro i hi hq
      have e' : i = e := by omega
      subst e'
      have hc : (nI i).toNatClampNeg = i := nb_cl (by omega)
      have hin : vp_in (nI i) 48 := vp_in_nI (by omega) (by omega)
      refine br_f (nI_ge hes (by omega)) ?_
      refine yw_opens (by omega) (fun o => absurd o (pg_k_68 h8)) (fun o => br_t rfl ⟨hin, ?_⟩)
      refine br_t (by rw [hc]; exact h8) ?_
      have := hk i hq (Nat.le_refl _)
      refine nm_r (nb_m1 (by omega)) ?_
      rw [pg_dp_end h8] at hd
      exact br_t (by rw [show pg_dp K i - pg_dp K q - 1 = 0 by omega]; rfl) h
    | succ d ih =>
      intro i hi hq
      have hc : (nI i).toNatClampNeg = i := nb_cl (by omega)
      have hin : vp_in (nI i) 48 := vp_in_nI (by omega) (by omega)
      have h3 := pg_dp3 w i (by omega)
      have h3' := pg_dp3 w (i + 1) (by omega)
      have h1 := hk i hq (by omega)
      have h2 := hk (i + 1) (by omega) (by omega)
      refine br_f (nI_ge (by omega) (by omega)) ?_
      have I := ih (i + 1) (by omega) (by omega)
      have H37 : ∀ c, c = pg_dp K (i + 1) - pg_dp K q → wY_endOf_37 post (wY_endOf_4 post (nI s) pc K A B C SV VR CE KP LF cl rc wy tm (d + 1)) (nI c) (nI i) (nI s) pc K A B C SV VR CE KP LF cl rc wy tm := by
        intro c ec
        refine br_f (nI_ne0 (by omega) (by omega)) (nm_r (nI_1 i) ?_)
        rw [ec]; exact I
      refine yw_opens (by omega) (fun o => br_f (by decide) (nm_r (nI_1 _) ⟨hin, ?_⟩)) (fun o => br_t rfl ⟨hin, ?_⟩)
      · refine br_f (by rw [hc]; exact fun z => pg_k_68 z o) (H37 _ ?_)
        rw [pg_dp_op o]; omega
      · by_cases k8 : K i = 8
        · refine br_t (by rw [hc]; exact k8) (nm_r (nb_m1 (by omega)) (H37 _ ?_))
          rw [pg_dp_end k8]; omega
        · refine br_f (by rw [hc]; exact k8) (H37 _ ?_)
          rw [pg_dp_no o k8]
  refine ⟨(e - (q + 1)) + 2, ?_⟩
  have hc : (nI q).toNatClampNeg = q := nb_cl (by omega)
  have hin : vp_in (nI q) 48 := vp_in_nI (by omega) (by omega)
  refine br_f (nI_ge (by omega) (by omega)) ?_
  refine yw_opens (by omega) (fun o => br_f (by decide) (nm_r (e' := nI 1) (by decide) ⟨hin, ?_⟩)) (fun o => absurd ho o)
  refine br_f (by rw [hc]; exact fun z => pg_k_68 z ho) (br_f (by decide) (nm_r (nI_1 q) ?_))
  have I := H (e - (q + 1)) (q + 1) (by omega) (by omega)
  rw [pg_dp_op ho, show pg_dp K q + 1 - pg_dp K q = 1 by omega] at I
  exact I
theorem yw_openerOf {pc : Int32} {K A B C SV VR CE KP LF cl rc : Nat → Int32} {wy tm : Nat → Int64} {s q e : Nat} (hs : s ≤ 48) (w : pg_wp K s) (hes : e < s) (m : pg_mt K q e) {post : Int32 → Prop} (h : post (nI q)) : wpY_openerOf post ((nI s), pc, K, A, B, C, SV, VR, CE, KP, LF, cl, rc, wy, tm) (nI e) := by
  obtain ⟨hqe, ho, h8, hd, hk⟩ := m
  have H : ∀ d k, q + d = k → k ≤ e → wY_openerOf_4 post (nI s) pc K A B C SV VR CE KP LF cl rc wy tm (d + 1) (nI (pg_dp K (k + 1) - pg_dp K q)) (nI k) := by
    intro d
    induction d with
    | zero =>
      intro k hk' hke
      have e' : k = q := by omega
      subst e'
      have hc : (nI k).toNatClampNeg = k := nb_cl (by omega)
      have hin : vp_in (nI k) 48 := vp_in_nI (by omega) (by omega)
      refine br_f (nI_pos (by omega)) ⟨hin, ?_⟩
      refine br_f (by rw [hc]; exact fun z => pg_k_68 z ho) ?_
      refine yw_opens (by omega) (fun o => br_f (by decide) ?_) (fun o => absurd ho o)
      rw [pg_dp_op ho, show pg_dp K k + 1 - pg_dp K k = 1 by omega]
      exact nm_r (e' := nI 0) (by decide) (br_t rfl h)
    | succ d ih =>
      intro k hk' hke
      obtain ⟨k, rfl⟩ : ∃ j, k = j + 1 := ⟨k - 1, by omega⟩
      have hc : (nI (k + 1)).toNatClampNeg = k + 1 := nb_cl (by omega)
      have hin : vp_in (nI (k + 1)) 48 := vp_in_nI (by omega) (by omega)
      have h1 := hk (k + 1) (by omega) hke
      have h3 := pg_dp3 w (k + 1) (by omega)
      have I := ih k (by omega) (by omega)
      have H33 : ∀ c, c = pg_dp K (k + 1) - pg_dp K q → wY_openerOf_33 post (wY_openerOf_4 post (nI s) pc K A B C SV VR CE KP LF cl rc wy tm (d + 1)) (nI c) (nI (k + 1)) (nI s) pc K A B C SV VR CE KP LF cl rc wy tm := by
        intro c ec
        refine br_f (nI_ne0 (by omega) (by omega)) (nm_r (pk_m1 k) ?_)
        rw [ec]; exact I
      refine br_f (nI_pos (by omega)) ⟨hin, ?_⟩
      by_cases k8 : K (k + 1) = 8
      · refine br_t (by rw [hc]; exact k8) (nm_r (nI_1 _) ?_)
        refine yw_opens (by omega) (fun o => absurd o (pg_k_68 k8)) (fun o => br_t rfl (H33 _ ?_))
        rw [pg_dp_end k8]
        by_cases z : k + 1 = e
        · rw [← z, pg_dp_end k8] at hd; omega
        · have h2 := hk (k + 1 + 1) (by omega) (by omega)
          rw [pg_dp_end k8] at h2; omega
      · refine br_f (by rw [hc]; exact k8) ?_
        refine yw_opens (by omega) (fun o => br_f (by decide) ?_) (fun o => br_t rfl (H33 _ ?_))
        · rw [pg_dp_op o]
          exact nm_r (nb_m1 (by omega)) (H33 _ (by omega))
        · rw [pg_dp_no o k8]
  have I := H (e - q) e (by omega) (Nat.le_refl _)
  rw [hd, Nat.sub_self] at I
  exact ⟨_, I⟩
end YW
