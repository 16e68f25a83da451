section XM
/-! X walks as the machine does -/
theorem xm_A {K A B C : Nat → Int32} {s i n : Nat} (ok : pg_ok K A B C s) (hi : i < s) (e : K i = nI n) (hn : n ≤ 11) (h : n ≤ 6 ∨ n = 10) : pg_ar A i < 8 ∧ A i = nI (pg_ar A i) ∧ vp_in (A i) 8 := by
  have v := ok i hi
  rw [e, re_vs hn] at v
  obtain ⟨j, hj, ea⟩ := v.2.2.1 h
  have c : pg_ar A i = j := by unfold pg_ar; rw [ea]; exact nb_cl (by omega)
  rw [c]; exact ⟨hj, ea, by rw [ea]; exact vp_in_nI hj (by omega)⟩
theorem xm_BC {K A B C : Nat → Int32} {s i n : Nat} (ok : pg_ok K A B C s) (hi : i < s) (e : K i = nI n) (hn : n ≤ 11) (h : 1 ≤ n ∧ n ≤ 3) : vp_in (B i) 8 ∧ vp_in (C i) 8 := by
  have v := ok i hi
  rw [e, re_vs hn] at v
  obtain ⟨⟨j, hj, eb⟩, ⟨j', hj', ec⟩⟩ := v.2.2.2.1 h
  rw [eb, ec]; exact ⟨vp_in_nI hj (by omega), vp_in_nI hj' (by omega)⟩
theorem xm_BC4 {K A B C : Nat → Int32} {s i n : Nat} (ok : pg_ok K A B C s) (hi : i < s) (e : K i = nI n) (hn : n ≤ 11) (h : n = 4 ∨ n = 5) (VR : Nat → Int32) : vp_in (C i) 8 ∧ vp_in ((B i * 8) + ((VR (C i).toNatClampNeg) &&& 7)) 24 := by
  have v := ok i hi
  rw [e, re_vs hn] at v
  obtain ⟨⟨j, hj, eb⟩, ⟨j', hj', ec⟩⟩ := v.2.2.2.2 h
  refine ⟨by rw [ec]; exact vp_in_nI hj' (by omega), ?_⟩
  obtain ⟨x, hx, ex⟩ := pk_andE (VR (C i).toNatClampNeg) (m := 7) 3 (by decide)
  rw [eb, ex, sm_8l]
  exact vp_in_nI (by omega) (by omega)
theorem md_0 {K A B C : Nat → Int32} {i : Nat} {d : mc_D} (h : K i = 0) : mc_d K A B C i d = (upd d.1 (pg_ar A i) (B i), d.2.1, d.2.2.1, d.2.2.2) := by
  unfold mc_d; rw [if_pos h]
theorem md_1 {K A B C : Nat → Int32} {i : Nat} {d : mc_D} (h : K i = 1) : mc_d K A B C i d = (upd d.1 (pg_ar A i) (d.1 (B i).toNatClampNeg + d.1 (C i).toNatClampNeg), d.2.1, d.2.2.1, d.2.2.2) := by
  unfold mc_d; rw [if_neg (mc_ne h (by decide)), if_pos h]
theorem md_2 {K A B C : Nat → Int32} {i : Nat} {d : mc_D} (h : K i = 2) : mc_d K A B C i d = (upd d.1 (pg_ar A i) (d.1 (B i).toNatClampNeg - d.1 (C i).toNatClampNeg), d.2.1, d.2.2.1, d.2.2.2) := by
  unfold mc_d; rw [if_neg (mc_ne h (by decide)), if_neg (mc_ne h (by decide)), if_pos h]
theorem md_3 {K A B C : Nat → Int32} {i : Nat} {d : mc_D} (h : K i = 3) : mc_d K A B C i d = (upd d.1 (pg_ar A i) (d.1 (B i).toNatClampNeg * d.1 (C i).toNatClampNeg), d.2.1, d.2.2.1, d.2.2.2) := by
  unfold mc_d; rw [if_neg (mc_ne h (by decide)), if_neg (mc_ne h (by decide)), if_neg (mc_ne h (by decide)), if_pos h]
theorem md_4 {K A B C : Nat → Int32} {i : Nat} {d : mc_D} (h : K i = 4) : mc_d K A B C i d = (upd d.1 (pg_ar A i) (d.2.1 (mc_ix B C d.1 i)), d.2.1, d.2.2.1, d.2.2.2) := by
  unfold mc_d; rw [if_neg (mc_ne h (by decide)), if_neg (mc_ne h (by decide)), if_neg (mc_ne h (by decide)), if_neg (mc_ne h (by decide)), if_pos h]
theorem md_5 {K A B C : Nat → Int32} {i : Nat} {d : mc_D} (h : K i = 5) : mc_d K A B C i d = (d.1, upd d.2.1 (mc_ix B C d.1 i) (d.1 (pg_ar A i)), d.2.2.1, d.2.2.2) := by
  unfold mc_d; rw [if_neg (mc_ne h (by decide)), if_neg (mc_ne h (by decide)), if_neg (mc_ne h (by decide)), if_neg (mc_ne h (by decide)), if_neg (mc_ne h (by decide)), if_pos h]
theorem md_10 {K A B C : Nat → Int32} {i : Nat} {d : mc_D} (h : K i = 10) : mc_d K A B C i d = (d.1, d.2.1, if d.2.2.2 < 48 then upd d.2.2.1 d.2.2.2 (d.1 (pg_ar A i)) else d.2.2.1, d.2.2.2 + 1) := by
  unfold mc_d; rw [if_neg (mc_ne h (by decide)), if_neg (mc_ne h (by decide)), if_neg (mc_ne h (by decide)), if_neg (mc_ne h (by decide)), if_neg (mc_ne h (by decide)), if_neg (mc_ne h (by decide)), if_pos h]
theorem md_n {K A B C : Nat → Int32} {i : Nat} {d : mc_D} (h : K i = 6 ∨ K i = 7 ∨ K i = 8) : mc_d K A B C i d = d := by
  have N : ∀ c : Int32, ¬ (6 : Int32) = c → ¬ (7 : Int32) = c → ¬ (8 : Int32) = c → ¬ K i = c := by
    intro c a b e
    rcases h with h | h | h
    · exact mc_ne h a
    · exact mc_ne h b
    · exact mc_ne h e
  unfold mc_d
  rw [if_neg (N 0 (by decide) (by decide) (by decide)), if_neg (N 1 (by decide) (by decide) (by decide)), if_neg (N 2 (by decide) (by decide) (by decide)), if_neg (N 3 (by decide) (by decide) (by decide)), if_neg (N 4 (by decide) (by decide) (by decide)), if_neg (N 5 (by decide) (by decide) (by decide)), if_neg (N 10 (by decide) (by decide) (by decide))]
theorem xm_c {K A B C : Nat → Int32} {s : Nat} {en : Nat → Nat} {m : mc_M} : (mc_s K A B C s en m).2.2.2.2.2.2.2 ≤ m.2.2.2.2.2.2.2 + 1 := by
  have D : ∀ i d, (mc_d K A B C i d).2.2.2 ≤ d.2.2.2 + 1 := by
    intro i d
    unfold mc_d
    repeat' split
    all_goals first | exact Nat.le_succ _ | exact Nat.le_refl _
  unfold mc_s
  repeat' split
  all_goals first | exact Nat.le_succ _ | exact D _ _
theorem xm_print {cp : Int32} {K A B C SV VR CE KP oa pa ow ba re : Nat → Int32} {ps wt : Nat → Int64} {LF rt co : Nat → Int32} {s c : Nat} (hc : c ≤ 1000000) {v : Int32} {post : SX → Prop} (h : post ((nI s), (nI (c + 1)), cp, K, A, B, C, SV, VR, CE, (if c < 48 then upd KP c v else KP), oa, pa, ow, ba, re, ps, wt, LF, rt, co)) : wpX_print post ((nI s), (nI c), cp, K, A, B, C, SV, VR, CE, KP, oa, pa, ow, ba, re, ps, wt, LF, rt, co) v := by
  refine pk_le 48 c (fun z => nm_r (nI_1 c) ?_) (fun z => ⟨vp_in_nI z (by omega), nm_r (e' := upd KP c v) (by rw [nb_cl (by omega)]) (nm_r (nI_1 c) ?_)⟩)
  · rw [if_neg (by omega)] at h; exact h
  · rw [if_pos z] at h; exact h
theorem xm_compute {cp : Int32} {K A B C SV VR CE KP oa pa ow ba re : Nat → Int32} {ps wt : Nat → Int64} {LF rt co : Nat → Int32} {s c i n : Nat} (hs : s ≤ 48) (hi : i < s) (ok : pg_ok K A B C s) (ek : K i = nI n) (hn : n ≤ 5) {VR' CE' KP' : Nat → Int32} {c' : Nat} (hd : mc_d K A B C i (VR, CE, KP, c) = (VR', CE', KP', c')) {post : SX → Prop}
    (h : post ((nI s), (nI c'), cp, K, A, B, C, SV, VR', CE', KP', oa, pa, ow, ba, re, ps, wt, LF, rt, co)) : wpX_compute post ((nI s), (nI c), cp, K, A, B, C, SV, VR, CE, KP, oa, pa, ow, ba, re, ps, wt, LF, rt, co) (nI i) := by
  have hci : (nI i).toNatClampNeg = i := nb_c48 hi hs
  have hin : vp_in (nI i) 48 := vp_in_nI (by omega) (by omega)
  obtain ⟨a8, ea, ia⟩ := xm_A ok hi ek (by omega) (by omega)
  refine ⟨hin, nm_r (e' := A i) (by rw [hci]) ⟨hin, nm_r (e' := B i) (by rw [hci]) ⟨hin, nm_r (e' := C i) (by rw [hci]) ⟨hin, nm_r (e' := nI n) (by rw [hci]; exact ek) ?_⟩⟩⟩⟩
  refine br_f (nI_pos (by omega)) (br_f (nI_nlt (a := 5) (b := n) hn (by omega)) ?_)
  refine pk_eq n 0 (fun z => ?_) (fun n0 => ?_)
  · subst z
    rw [md_0 ek] at hd
    cases hd
    exact ⟨ia, nm_e h⟩
  refine pk_eq n 1 (fun z => ?_) (fun n1 => ?_)
  · subst z
    obtain ⟨ib, ic⟩ := xm_BC ok hi ek (by omega) (by omega)
    rw [md_1 ek] at hd
    cases hd
    exact ⟨ib, ic, ia, nm_e h⟩
  refine pk_eq n 2 (fun z => ?_) (fun n2 => ?_)
  · subst z
    obtain ⟨ib, ic⟩ := xm_BC ok hi ek (by omega) (by omega)
    rw [md_2 ek] at hd
    cases hd
    exact ⟨ib, ic, ia, nm_e h⟩
  refine pk_eq n 3 (fun z => ?_) (fun n3 => ?_)
  · subst z
    obtain ⟨ib, ic⟩ := xm_BC ok hi ek (by omega) (by omega)
    rw [md_3 ek] at hd
    cases hd
    exact ⟨ib, ic, ia, nm_e h⟩
  refine pk_eq n 4 (fun z => ?_) (fun n4 => ?_)
  · subst z
    obtain ⟨ic, ix⟩ := xm_BC4 ok hi ek (by omega) (by omega) VR
    rw [md_4 ek] at hd
    cases hd
    exact ⟨ic, ix, ia, nm_e h⟩
  refine pk_eq n 5 (fun z => ?_) (fun n5 => trivial)
  · subst z
    obtain ⟨ic, ix⟩ := xm_BC4 ok hi ek (by omega) (by omega) VR
    rw [md_5 ek] at hd
    cases hd
    exact ⟨ic, ia, ix, nm_e h⟩
def xm_R (K A : Nat → Int32) (cm : Nat → Nat) (rt co : Nat → Int32) : Prop := ∀ t, t < 4 → cm t ≠ 0 → rt t = nI (cm t) ∧ co t = nI (pg_pw K A (cm t))
theorem xm_pass {K A B C SV VR CE KP oa pa ow ba re : Nat → Int32} {ps wt : Nat → Int64} {LF rt co : Nat → Int32} {s c i p : Nat} {en cm : Nat → Nat} (hs : s ≤ 48) (hi : i < s) (hb : ¬ K i = 11) (hc : c ≤ 1000000) (ok : pg_ok K A B C s) (H : mc_H K A s en) (hpa : ∀ i, i < s → (pg_op K i ∨ K i = 8) → pa i = nI (en i))
    (hba : ∀ t, t < 4 → ba t = nI (pg_lb K A t s) - 1) (hp : pg_pw K A i = p) (R : xm_R K A cm rt co) {i' p' c' : Nat} {LF' : Nat → Int32} {cm' : Nat → Nat} {VR' CE' KP' : Nat → Int32}
    (hm : mc_s K A B C s en (i, p, LF, cm, VR, CE, KP, c) = (i', p', LF', cm', VR', CE', KP', c')) {post : Int32 → SX → Prop}
    (h : ∀ rt' co', xm_R K A cm' rt' co' → post (nI i') ((nI s), (nI c'), (nI p'), K, A, B, C, SV, VR', CE', KP', oa, pa, ow, ba, re, ps, wt, LF', rt', co')) : wpX_passStatement post ((nI s), (nI c), (nI p), K, A, B, C, SV, VR, CE, KP, oa, pa, ow, ba, re, ps, wt, LF, rt, co) (nI i) := by
  have hci : (nI i).toNatClampNeg = i := nb_c48 hi hs
  have hin : vp_in (nI i) 48 := vp_in_nI (by omega) (by omega)
  obtain ⟨n, hn, ek⟩ := (H.1 i hi).1
  have NE : ∀ m, m < 12 → n ≠ m → ¬ K i = nI m := fun m hm z => by rw [ek]; exact nb_ne z (by omega) (by omega)
  have n11 : n ≠ 11 := fun z => hb (by rw [ek, z]; rfl)
  refine nm_r (nI_1 i) ⟨hin, nm_r (e' := A i) (by rw [hci]) ⟨hin, nm_r (e' := nI n) (by rw [hci]; exact ek) ?_⟩⟩
  refine pk_lt n 6 (fun z => ?_) (fun z => br_f (nI_nlt (a := 10) (b := n) (by omega) (by omega)) ?_)
  · rw [mc_p hi (fun x => x.elim (NE 6 (by omega) (by omega)) (NE 7 (by omega) (by omega))) (NE 8 (by omega) (by omega)) (NE 9 (by omega) (by omega)) hb] at hm
    simp only [Prod.mk.injEq] at hm
    obtain ⟨rfl, rfl, rfl, rfl, hd⟩ := hm
    exact xm_compute hs hi ok ek (by omega) hd (h rt co R)
  refine pk_eq n 6 (fun z6 => ?_) (fun n6 => ?_)
  · subst z6
    have k6 : K i = 6 := ek
    obtain ⟨a8, ea, ia⟩ := xm_A ok hi ek (by omega) (by omega)
    rw [mc_6 hi k6] at hm
    refine ⟨ia, br_c (fun y => ⟨hin, ?_⟩) (fun y => ?_)⟩
    · rw [if_pos y] at hm
      cases hm
      rw [hci, hpa i hi (Or.inl (Or.inl k6)), nI_1]
      exact h rt co R
    · rw [if_neg y] at hm
      cases hm
      exact h rt co R
  refine pk_eq n 7 (fun z7 => ?_) (fun n7 => ?_)
  · subst z7
    have k7 : K i = 7 := ek
    rw [mc_7 hi k7] at hm
    cases hm
    exact ⟨hin, nm_r (e' := upd LF i (A i)) (by rw [hci]) (h rt co R)⟩
  refine pk_eq n 8 (fun z8 => ?_) (fun n8 => ?_)
  · subst z8
    have k8 : K i = 8 := ek
    have mt := H.2.2.2.2.2.1 i hi k8
    have hq := mt.1
    have hcq : (nI (en i)).toNatClampNeg = en i := nb_cl (by omega)
    have hiq : vp_in (nI (en i)) 48 := vp_in_nI (by omega) (by omega)
    refine ⟨hin, nm_r (e' := nI (en i)) (by rw [hci]; exact hpa i hi (Or.inr k8)) ⟨hiq, ?_⟩⟩
    rw [hcq]
    by_cases k7 : K (en i) = 7
    · rw [mc_8l hi k8 k7] at hm
      refine br_t k7 ⟨hiq, hiq, nm_e ⟨hiq, ?_⟩⟩
      rw [pk_us]
      refine br_c (fun y => ?_) (fun y => ?_)
      · rw [if_pos y] at hm
        cases hm
        rw [nI_1]; exact h rt co R
      · rw [if_neg y] at hm
        cases hm
        rw [nI_1]; exact h rt co R
    · rw [mc_8i hi k8 k7] at hm
      cases hm
      refine br_f k7 ?_
      rw [nI_1]; exact h rt co R
  refine pk_eq n 9 (fun z9 => ?_) (fun n9 => ?_)
  · subst z9
    have k9 : K i = 9 := ek
    obtain ⟨a4, ea⟩ := (H.1 i hi).2.1 (Or.inl k9)
    have ia : vp_in (A i) 4 := by rw [ea]; exact vp_in_nI a4 (by omega)
    rw [mc_9 hi k9] at hm
    cases hm
    refine ⟨ia, nm_e ⟨ia, nm_e ⟨ia, ?_⟩⟩⟩
    have e : ba (A i).toNatClampNeg + 1 = nI (pg_lb K A (pg_ar A i) s) := by
      show ba (pg_ar A i) + 1 = _
      rw [hba _ a4, Int32.sub_add_cancel]
    rw [e]
    have L := h (upd rt (pg_ar A i) (nI (i + 1))) (upd co (pg_ar A i) (nI p)) ?_
    · have e2 : A i = nI (pg_ar A i) := ea
      rw [← e2] at L
      exact L
    · intro t ht
      by_cases y : t = pg_ar A i
      · subst y
        rw [mc_us, pk_us, pk_us]
        exact fun _ => ⟨rfl, by rw [pg_pw_n hb, hp]⟩
      · rw [mc_un y, pk_un y, pk_un y]; exact R t ht
  refine pk_eq n 10 (fun z10 => ?_) (fun _ => trivial)
  subst z10
  have k10 : K i = 10 := ek
  obtain ⟨a8, ea, ia⟩ := xm_A ok hi ek (by omega) (by omega)
  rw [mc_p hi (fun x => x.elim (NE 6 (by omega) (by omega)) (NE 7 (by omega) (by omega))) (NE 8 (by omega) (by omega)) (NE 9 (by omega) (by omega)) hb, md_10 k10] at hm
  cases hm
  exact ⟨ia, xm_print hc (h rt co R)⟩
theorem xm_run {K A B C SV oa pa ow ba re : Nat → Int32} {ps wt : Nat → Int64} {s : Nat} {en : Nat → Nat} (hs : s ≤ 48) (ok : pg_ok K A B C s) (H : mc_H K A s en) (hpa : ∀ i, i < s → (pg_op K i ∨ K i = 8) → pa i = nI (en i))
    (hba : ∀ t, t < 4 → ba t = nI (pg_lb K A t s) - 1) {post : SX → Prop} : ∀ T t i p LF cm VR CE KP c rt co, t + T ≤ 30000 → mc_I K A s (i, p, LF, cm, VR, CE, KP, c) → xm_R K A cm rt co → c ≤ t →
      mc_h K s (mc_it K A B C s en T (i, p, LF, cm, VR, CE, KP, c)) →
      (∀ i' p' LF' cm' VR' CE' KP' c' rt' co', mc_it K A B C s en T (i, p, LF, cm, VR, CE, KP, c) = (i', p', LF', cm', VR', CE', KP', c') → c' ≤ t + T → post ((nI s), (nI c'), (nI p'), K, A, B, C, SV, VR', CE', KP', oa, pa, ow, ba, re, ps, wt, LF', rt', co')) →
      wX_passMainPiece_4 post (T + 1) (nI i) (nI t) (nI s) (nI c) (nI p) K A B C SV VR CE KP oa pa ow ba re ps wt LF rt co := by
  have HA : ∀ n t i p LF cm VR CE KP c rt co, t ≤ 30000 → i ≤ s → mc_h K s (i, p, LF, cm, VR, CE, KP, c) → post ((nI s), (nI c), (nI p), K, A, B, C, SV, VR, CE, KP, oa, pa, ow, ba, re, ps, wt, LF, rt, co) → wX_passMainPiece_4 post (n + 1) (nI i) (nI t) (nI s) (nI c) (nI p) K A B C SV VR CE KP oa pa ow ba re ps wt LF rt co := by
    intro n t i p LF cm VR CE KP c rt co ht hi hh h
    have h4 : p = 4 := hh.2
    subst h4
    refine br_f (nI_ge (b := 1000000) (by omega) (by omega)) ?_
    have E : wX_passMainPiece_29 post (wX_passMainPiece_4 post n) (nI i) (nI t) (nI s) (nI c) (nI 4) K A B C SV VR CE KP oa pa ow ba re ps wt LF rt co := br_f (by decide) (br_t rfl h)
    by_cases z : i < s
    · have hci : (nI i).toNatClampNeg = i := nb_c48 z hs
      refine br_f (nI_ge z (by omega)) ⟨vp_in_nI (by omega) (by omega), br_t ?_ E⟩
      rw [hci]
      exact Classical.byContradiction fun y => hh.1 ⟨z, y⟩
    · exact br_t (nI_le (by omega) (by omega)) E
  intro T
  induction T with
  | zero =>
    intro t i p LF cm VR CE KP c rt co ht I R hc hh h
    exact HA 0 t i p LF cm VR CE KP c rt co (by omega) I.1 hh (h i p LF cm VR CE KP c rt co rfl (by omega))
  | succ T ih =>
    intro t i p LF cm VR CE KP c rt co ht I R hc hh h
    by_cases y : mc_h K s (i, p, LF, cm, VR, CE, KP, c)
    · exact HA (T + 1) t i p LF cm VR CE KP c rt co (by omega) I.1 y (h i p LF cm VR CE KP c rt co (mc_h_it y _) (by omega))
    · have I' := mc_I_s (B := B) (C := C) H I
      have hc' := xm_c (K := K) (A := A) (B := B) (C := C) (s := s) (en := en) (m := (i, p, LF, cm, VR, CE, KP, c))
      obtain ⟨i', p', LF', cm', VR', CE', KP', c', em⟩ : ∃ i' p' LF' cm' VR' CE' KP' c', mc_s K A B C s en (i, p, LF, cm, VR, CE, KP, c) = (i', p', LF', cm', VR', CE', KP', c') := ⟨_, _, _, _, _, _, _, _, rfl⟩
      have hh' : mc_h K s (mc_it K A B C s en T (mc_s K A B C s en (i, p, LF, cm, VR, CE, KP, c))) := hh
      have h' : ∀ i'' p'' LF'' cm'' VR'' CE'' KP'' c'' rt' co', mc_it K A B C s en T (mc_s K A B C s en (i, p, LF, cm, VR, CE, KP, c)) = (i'', p'', LF'', cm'', VR'', CE'', KP'', c'') → c'' ≤ t + (T + 1) → post ((nI s), (nI c''), (nI p''), K, A, B, C, SV, VR'', CE'', KP'', oa, pa, ow, ba, re, ps, wt, LF'', rt', co') := h
      rw [em] at I' hc' hh' h'
      have hc2 : c' ≤ c + 1 := hc'
      have NX : ∀ rt' co', xm_R K A cm' rt' co' → wX_passMainPiece_4 post (T + 1) (nI i') (nI (t + 1)) (nI s) (nI c') (nI p') K A B C SV VR' CE' KP' oa pa ow ba re ps wt LF' rt' co' := by
        intro rt' co' R'
        refine ih (t + 1) i' p' LF' cm' VR' CE' KP' c' rt' co' (by omega) I' R' (by omega) hh' ?_
        intro a1 a2 a3 a4 a5 a6 a7 a8 a9 a10 e1 e2
        exact h' a1 a2 a3 a4 a5 a6 a7 a8 a9 a10 e1 (by omega)
      refine br_f (nI_ge (b := 1000000) (by omega) (by omega)) ?_
      by_cases z : i < s ∧ ¬ K i = 11
      · have hci : (nI i).toNatClampNeg = i := nb_c48 z.1 hs
        refine br_f (nI_ge z.1 (by omega)) ⟨vp_in_nI (by omega) (by omega), br_f (by rw [hci]; exact z.2) ?_⟩
        refine br_t rfl (br_t rfl ?_)
        refine xm_pass hs z.1 z.2 (by omega) ok H hpa hba I.2.1 R em ?_
        intro rt' co' R'
        exact nm_r (nI_1 t) (NX rt' co' R')
      · have h4 : ¬ p = 4 := fun x => y ⟨z, x⟩
        have hx : cm p ≠ 0 := (show p = 4 ∨ cm p ≠ 0 from I.2.2.1).resolve_left h4
        have hp4 := pg_pw4 H.1 i I.1
        rw [show pg_pw K A i = p from I.2.1] at hp4
        have hcp : (nI p).toNatClampNeg = p := nb_cl (by omega)
        have hip : vp_in (nI p) 4 := vp_in_nI (by omega) (by omega)
        obtain ⟨r1, r2⟩ := R p (by omega) hx
        rw [mc_l (fun u => Classical.byContradiction fun v => z ⟨u, v⟩) h4] at em
        have E : wX_passMainPiece_29 post (wX_passMainPiece_4 post (T + 1)) (nI i) (nI t) (nI s) (nI c) (nI p) K A B C SV VR CE KP oa pa ow ba re ps wt LF rt co := by
          refine br_f (by decide) (br_f (nb_ne (b := 4) h4 (by omega) (by omega)) (br_f (by decide) ?_))
          cases em
          refine ⟨hip, nm_r (e' := nI (pg_pw K A (cm p))) (by rw [hcp]; exact r2) ⟨hip, nm_r (nI_1 t) ?_⟩⟩
          rw [hcp, r1]
          exact NX rt co R
        by_cases x : i < s
        · have hci : (nI i).toNatClampNeg = i := nb_c48 x hs
          refine br_f (nI_ge x (by omega)) ⟨vp_in_nI (by omega) (by omega), br_t ?_ E⟩
          rw [hci]
          exact Classical.byContradiction fun v => z ⟨x, v⟩
        · have hI : i ≤ s := I.1
          exact br_t (nI_le (by omega) (by omega)) E
end XM
