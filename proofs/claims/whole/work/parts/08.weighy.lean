section WF
/-! pieces in place, and the reference's weights -/
def pc_at (K A : Nat → Int32) (s t f e : Nat) : Prop := f ≤ e ∧ e ≤ s ∧ (e < s → K e = 11) ∧ pg_dp K f = 0 ∧ (∀ k, f ≤ k → k < e → ¬ K k = 11 ∧ pg_pw K A (k + 1) = t) ∧
  (∀ i, i < s → ¬ K i = 11 → pg_pw K A (i + 1) = t → f ≤ i ∧ i < e)
theorem pc_stop {K : Nat → Int32} {s : Nat} : ∀ d f, f + d = s → ∃ e, f ≤ e ∧ e ≤ s ∧ (e < s → K e = 11) ∧ ∀ k, f ≤ k → k < e → ¬ K k = 11 := by
  intro d
  induction d with
  | zero => intro f hf; exact ⟨f, Nat.le_refl _, by omega, fun h => by omega, fun k h1 h2 => by omega⟩
  | succ d ih =>
    intro f hf
    by_cases b : K f = 11
    · exact ⟨f, Nat.le_refl _, by omega, fun _ => b, fun k h1 h2 => by omega⟩
    · obtain ⟨e, h1, h2, h3, h4⟩ := ih (f + 1) (by omega)
      refine ⟨e, by omega, h2, h3, fun k k1 k2 => ?_⟩
      by_cases z : k = f
      · rw [z]; exact b
      · exact h4 k (by omega) k2
theorem pc_of {K A : Nat → Int32} {s t f : Nat} (hf : f ≤ s) (hd : pg_dp K f = 0) (hp : f < s → ¬ K f = 11 → pg_pw K A f = t)
    (hl : ∀ e, f ≤ e → e ≤ s → (e < s → K e = 11) → ∀ i, i < s → ¬ K i = 11 → pg_pw K A (i + 1) = t → f ≤ i ∧ i < e) : ∃ e, pc_at K A s t f e := by
  obtain ⟨e, h1, h2, h3, h4⟩ := pc_stop (K := K) (s := s) (s - f) f (by omega)
  refine ⟨e, h1, h2, h3, hd, fun k k1 k2 => ⟨h4 k k1 k2, ?_⟩, hl e h1 h2 h3⟩
  rw [pg_pw_run (i := f) (k + 1) (by omega) (fun j j1 j2 => h4 j j1 (by omega))]
  exact hp (by omega) (h4 f (Nat.le_refl _) (by omega))
theorem pc_ex4 {K A : Nat → Int32} {s : Nat} (g : pg_g K A s) : ∃ e, pc_at K A s 4 0 e := by
  refine pc_of (Nat.zero_le _) rfl (fun _ _ => rfl) ?_
  intro e h1 h2 h3 i hi hb hp
  refine ⟨Nat.zero_le _, ?_⟩
  apply Classical.byContradiction
  intro z
  exact pg_pw_main g (i + 1) (by omega) hp e (by omega) (h3 (by omega))
theorem pc_k11 {K : Nat → Int32} {i : Nat} (h : K i = 11) : ¬ pg_op K i ∧ ¬ K i = 8 := by
  constructor
  · rintro (z | z) <;> · rw [z] at h; exact absurd h (by decide)
  · intro z; rw [z] at h; exact absurd h (by decide)
theorem pc_ex {K A : Nat → Int32} {s t : Nat} (g : pg_g K A s) (w : pg_wf K s) (hn : pg_cb K A t s ≤ 1) (ht : t < 4) : ∃ e, pc_at K A s t (yw_pl K A s t) e := by
  have hle := pg_lb_le (K := K) (A := A) (t := t) s
  by_cases z : pg_lb K A t s = 0
  · have e : yw_pl K A s t = s := if_pos z
    rw [e]
    refine pc_of (Nat.le_refl _) w.2 (fun h => by omega) ?_
    intro e h1 h2 h3 i hi hb hp
    obtain ⟨m, a1, a2, a3, a4⟩ := pg_pw_at (i + 1) t hp (by omega)
    have h6 := pg_cb_mono (K := K) (A := A) (t := t) (m + 1) s (by omega)
    rw [pg_cb_y a2 a3, (pg_lb_cb s).mp z] at h6
    omega
  · have e : yw_pl K A s t = pg_lb K A t s := if_neg z
    rw [e]
    have hb := pg_lb_b s z
    obtain ⟨f, hf⟩ : ∃ f, pg_lb K A t s = f + 1 := ⟨pg_lb K A t s - 1, by omega⟩
    rw [hf] at hb hle ⊢
    simp only [Nat.add_sub_cancel] at hb
    have n8 := pc_k11 hb.1
    refine pc_of hle (by rw [pg_dp_no n8.1 n8.2]; exact (w.1 f (by omega)).1 hb.1) (fun _ _ => by rw [pg_pw_b hb.1]; exact hb.2) ?_
    intro e h1 h2 h3 i hi hbi hp
    obtain ⟨m, a1, a2, a3, a4⟩ := pg_pw_at (i + 1) t hp (by omega)
    have em : m = f := pg_nt_u hn (by omega) (by omega) a2 hb.1 a3 hb.2
    subst em
    have hm : m ≠ i := fun y => hbi (by rw [← y]; exact a2)
    refine ⟨by omega, ?_⟩
    apply Classical.byContradiction
    intro y
    exact a4 e (by omega) (by omega) (h3 (by omega))
theorem pc_lo {K A : Nat → Int32} {s t f e : Nat} {w : Nat → Nat} (h : pc_at K A s t f e) : we_S K A w t f = 0 := by
  have := we_S_eq (K := K) (A := A) (w := w) (t := t) (a := 0) f (Nat.zero_le _) (fun k _ k2 y => ?_)
  · exact this
  · apply Classical.byContradiction
    intro z
    have := h.2.2.2.2.2 k (by have := h.1; have := h.2.1; omega) z y
    omega
theorem pc_hi {K A : Nat → Int32} {s t f e : Nat} {w : Nat → Nat} (h : pc_at K A s t f e) : we_S K A w t s = we_S K A w t e := by
  refine we_S_eq s h.2.1 (fun k k1 k2 y => ?_)
  apply Classical.byContradiction
  intro z
  have := h.2.2.2.2.2 k k2 z y
  omega
theorem yv_weigh {pc : Int32} {K A B C SV VR CE KP LF cl rc : Nat → Int32} {wy tm : Nat → Int64} {s t f e : Nat} (hs : s ≤ 48) (g : pg_g K A s) (wf : pg_wp K s) (P : pc_at K A s t f e) {w : Nat → Nat} (hw : ∀ j, wy j = lN (w j)) {post : Int64 → SY → Prop}
    (h : ∀ tm, post (lN (we_S K A w t s)) ((nI s), pc, K, A, B, C, SV, VR, CE, KP, LF, cl, rc, wy, tm)) : wpY_weigh post ((nI s), pc, K, A, B, C, SV, VR, CE, KP, LF, cl, rc, wy, tm) (nI f) := by
  have H : ∀ d i, i + d = e → f ≤ i → ∀ tm, (∀ j, j ≤ pg_dp K i → tm j = lN (we_T K A i j)) → wY_weigh_15 post (nI s) pc (d + 1) (lN (we_S K A w t i)) (nI (pg_dp K i)) (nI i) K A B C SV VR CE KP LF cl rc wy tm := by
    intro d
    induction d with
    | zero =>
      intro i hi hf tm htm
      have e' : i = e := by omega
      subst e'
      have L := h tm
      rw [pc_hi P] at L
      have hes := P.2.1
      by_cases z : i = s
      · exact br_t (nI_le (by omega) (by omega)) L
      · have his : i < s := by omega
        have hc : (nI i).toNatClampNeg = i := nb_c48 his hs
        refine br_f (nI_ge his (by omega)) ⟨vp_in_nI (by omega) (by omega), ?_⟩
        exact br_t (by rw [hc]; exact P.2.2.1 his) L
    | succ d ih =>
      intro i hi hf tm htm
      have hes := P.2.1
      have his : i < s := by omega
      have hc : (nI i).toNatClampNeg = i := nb_c48 his hs
      have hin : vp_in (nI i) 48 := vp_in_nI (by omega) (by omega)
      obtain ⟨nb, hpw⟩ := P.2.2.2.2.1 i hf (by omega)
      have h3 := pg_dp3 wf i (by omega)
      have hcd : (nI (pg_dp K i)).toNatClampNeg = pg_dp K i := nb_cl (by omega)
      have hid : vp_in (nI (pg_dp K i)) 5 := vp_in_nI (by omega) (by omega)
      have hT := htm (pg_dp K i) (Nat.le_refl _)
      have I := ih (i + 1) (by omega) (by omega)
      have SY' := we_S_y (w := w) hpw
      refine br_f (nI_ge his (by omega)) ⟨hin, ?_⟩
      refine br_f (by rw [hc]; exact nb) ⟨hin, ?_⟩
      by_cases k8 : K i = 8
      · refine br_t (by rw [hc]; exact k8) ?_
        have hd := (wf i his).2.2 k8
        refine nm_r (nb_m1 hd) (nm_r (nI_1 i) ?_)
        have J := I tm (fun j hj => by rw [pg_dp_end k8] at hj; rw [we_T_n (fun z => pg_k_68 k8 z.1)]; exact htm j (by omega))
        rw [SY', we_s_0 (Or.inl k8), Nat.mul_zero, Nat.add_zero, pg_dp_end k8] at J
        exact J
      · refine br_f (by rw [hc]; exact k8) ?_
        refine yw_opens (by omega) (fun o => br_f (by decide) ?_) (fun o => br_t rfl ⟨hin, ?_⟩)
        · have d3 := (wf i his).2.1 o
          have hid1 : vp_in (nI (pg_dp K i) + 1) 5 := by rw [nI_1]; exact vp_in_nI (by omega) (by omega)
          have hcd1 : (nI (pg_dp K i) + 1).toNatClampNeg = pg_dp K i + 1 := by rw [nI_1]; exact nb_cl (by omega)
          refine ⟨hid, nm_r (e' := lN (we_S K A w t (i + 1))) ?_ ⟨hin, ?_⟩⟩
          · rw [hcd, hT, show (2 : Int64) = lN 2 from rfl, lN_mul, lN_add, SY', we_s_op o, Nat.mul_comm 2]
          have J : ∀ m, m = we_T K A (i + 1) (pg_dp K i + 1) → wY_weigh_15 post (nI s) pc (d + 1) (lN (we_S K A w t (i + 1))) (nI (pg_dp K i + 1)) (nI (i + 1)) K A B C SV VR CE KP LF cl rc wy (vp_updL tm (pg_dp K i + 1) (lN m)) := by
            intro m em
            rw [← pg_dp_op o]
            refine I _ (fun j hj => ?_)
            rw [pg_dp_op o] at hj ⊢
            by_cases y : j = pg_dp K i + 1
            · subst y; rw [pk_uLs, em]
            · rw [pk_uLn y, we_T_n (fun z => y z.2)]; exact htm j (by omega)
          by_cases k7 : K i = 7
          · obtain ⟨a1, a5, ea⟩ := (g i his).2.2 k7
            refine br_t (by rw [hc]; exact k7) ⟨hid, hin, hid1, ?_⟩
            refine nm_r (e' := vp_updL tm (pg_dp K i + 1) (lN (we_pf K A i * pg_ar A i))) (by rw [hcd1, hcd, hc, hT, ea, nI_l (by omega), lN_mul]) ?_
            refine nm_r (nI_1 _) (nm_r (nI_1 i) (J _ ?_))
            rw [we_T_y o, if_pos k7]
          · refine br_f (by rw [hc]; exact k7) ⟨hid, hid1, ?_⟩
            refine nm_r (e' := vp_updL tm (pg_dp K i + 1) (lN (we_pf K A i))) (by rw [hcd1, hcd, hT]) ?_
            refine nm_r (nI_1 _) (nm_r (nI_1 i) (J _ ?_))
            rw [we_T_y o, if_neg k7, Nat.mul_one]
        · have J := I tm (fun j hj => by rw [pg_dp_no o k8] at hj; rw [we_T_n (fun z => o z.1)]; exact htm j hj)
          rw [pg_dp_no o k8] at J
          by_cases k9 : K i = 9
          · obtain ⟨a4, ea⟩ := (g i his).2.1 (Or.inl k9)
            have hca : (nI (pg_ar A i)).toNatClampNeg = pg_ar A i := nb_cl (by omega)
            refine br_t (by rw [hc]; exact k9) ⟨hid, hin, by rw [hc, ea]; exact vp_in_nI (by omega) (by omega), ?_⟩
            refine nm_r (e' := lN (we_S K A w t (i + 1))) ?_ (nm_r (nI_1 i) J)
            rw [hc, hcd, hT, hw, show (1 : Int64) = lN 1 from rfl, lN_add, lN_mul, lN_add, SY', we_s_9 k9]
          · refine br_f (by rw [hc]; exact k9) ⟨hid, ?_⟩
            refine nm_r (e' := lN (we_S K A w t (i + 1))) ?_ (nm_r (nI_1 i) J)
            rw [hcd, hT, lN_add, SY', we_s_1 o k8 k9 nb, Nat.mul_one]
  refine nm_e ⟨(e - f) + 1, ?_⟩
  have J := H (e - f) f (by have := P.1; omega) (Nat.le_refl _) (vp_updL tm 0 1) (fun j hj => by
    have : j = 0 := by have := P.2.2.2.1; omega
    subst this; rw [pk_uLs, we_T_0]; rfl)
  rw [pc_lo P, P.2.2.2.1] at J
  exact J
theorem yv_tooLong {pc : Int32} {K A B C SV VR CE KP LF cl rc : Nat → Int32} {wy tm : Nat → Int64} {s : Nat} (hs : s ≤ 48) (g : pg_g K A s) (wf : pg_wf K s) (hn : pg_nt K A s) (D4 : ∀ p, p < 4 → wd_D K A s 4 p) (D5 : ∀ p, wd_D K A s 5 p) {post : Int32 → SY → Prop}
    (hT : lN (we_W K A s 5 4) ≤ 3000 → ∀ wy tm, post 0 ((nI s), pc, K, A, B, C, SV, VR, CE, KP, LF, cl, rc, wy, tm)) (hF : ¬ lN (we_W K A s 5 4) ≤ 3000 → ∀ wy tm, post 1 ((nI s), pc, K, A, B, C, SV, VR, CE, KP, LF, cl, rc, wy, tm)) : wpY_tooLong post ((nI s), pc, K, A, B, C, SV, VR, CE, KP, LF, cl, rc, wy, tm) := by
  have H22 : ∀ d i, i + d = 16 → ∀ wy tm w, (∀ j, wy j = lN (w j)) → we_ok K A s w (i / 4) 4 → we_ok K A s w (i / 4 + 1) (i % 4) → wY_tooLong_22 post (d + 1) (nI i) (nI s) pc K A B C SV VR CE KP LF cl rc wy tm := by
    intro d
    induction d with
    | zero =>
      intro i hi wy tm w hw C1 _
      have e : i = 16 := by omega
      subst e
      refine br_t (nI_le (a := 16) (by omega) (by omega)) ?_
      obtain ⟨e4, P⟩ := pc_ex4 g
      refine yv_weigh (f := 0) hs g wf.1 P hw ?_
      intro tm
      have E : we_S K A w 4 s = we_W K A s 5 4 := by
        rw [← we_fix5 (D5 4)]
        exact we_S_congr (fun t ht => C1 t (wd_dc4 g ht) (D4 t (wd_dc4 g ht))) s (Nat.le_refl _)
      rw [E]
      exact br_c (fun z => hT z wy tm) (fun z => hF z wy tm)
    | succ d ih =>
      intro i hi wy tm w hw C1 C2
      have e2 : nI i &&& 3 = nI (i % 4) := pk_andN (n := i) (by omega) 2 (by decide)
      have hq : i % 4 < 4 := by omega
      have hc2 : (nI (i % 4)).toNatClampNeg = i % 4 := nb_cl (by omega)
      refine br_f (nI_ge (b := 16) (by omega) (by omega)) ?_
      rw [e2]
      refine yw_placeOf hs hq g (hn _ hq) ?_
      obtain ⟨e, P⟩ := pc_ex g wf (hn _ hq) hq
      refine yv_weigh hs g wf.1 P hw ?_
      intro tm
      refine ⟨vp_in_nI hq (by omega), ?_⟩
      refine nm_r (e' := vp_updL wy (i % 4) (lN (we_S K A w (i % 4) s))) (by rw [hc2]) (nm_r (nI_1 i) ?_)
      have O := we_ok_s g D5 (Nat.le_refl _) C1 C2
      refine ih (i + 1) (by omega) _ tm _ (we_upd hw) ?_ ?_
      · by_cases z : i % 4 = 3
        · have a : (i + 1) / 4 = i / 4 + 1 := by omega
          rw [a]
          have := O.2
          rw [z] at this ⊢
          exact this
        · have a : (i + 1) / 4 = i / 4 := by omega
          rw [a]; exact O.1
      · by_cases z : i % 4 = 3
        · have a : (i + 1) % 4 = 0 := by omega
          rw [a]; exact fun p hp => absurd hp (Nat.not_lt_zero _)
        · have a : (i + 1) / 4 = i / 4 := by omega
          have b : (i + 1) % 4 = i % 4 + 1 := by omega
          rw [a, b]; exact O.2
  have H2 : ∀ d p, p + d = 4 → ∀ wy, wY_tooLong_2 post (nI s) pc (d + 1) (nI p) K A B C SV VR CE KP LF cl rc wy tm := by
    intro d
    induction d with
    | zero =>
      intro p hp wy
      obtain ⟨w, hw⟩ := we_rep wy
      refine br_t (nI_le (a := 4) (by omega) (by omega)) ⟨17, H22 16 0 rfl wy tm w hw (fun p hp z => z.elim) (fun p hp => absurd hp (Nat.not_lt_zero _))⟩
    | succ d ih =>
      intro p hp wy
      refine br_f (nI_ge (b := 4) (by omega) (by omega)) ⟨vp_in_nI (by omega) (by omega), ?_⟩
      exact nm_e (nm_r (nI_1 p) (ih (p + 1) (by omega) _))
  exact ⟨5, H2 4 0 rfl wy⟩
end WF
