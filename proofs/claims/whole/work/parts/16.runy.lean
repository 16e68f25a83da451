section YM
/-! the reference walks as the machine does -/
theorem ym_258 {K A B C SV VR CE KP LF cl rc : Nat → Int32} {wy tm : Nat → Int64} {s c i : Nat} (hs : s ≤ 48) (hi : i < s) (n10 : ¬ K i = 10) {post : SY → Prop} (h : post ((nI s), (nI c), K, A, B, C, SV, VR, CE, KP, LF, cl, rc, wy, tm)) : wY_plain_258 post (nI i) (nI s) (nI c) K A B C SV VR CE KP LF cl rc wy tm := by
  have hci : (nI i).toNatClampNeg = i := nb_c48 hi hs
  exact ⟨vp_in_nI (by omega) (by omega), br_f (by rw [hci]; exact n10) h⟩
theorem ym_208 {K A B C SV VR CE KP LF cl rc : Nat → Int32} {wy tm : Nat → Int64} {s c i : Nat} (hs : s ≤ 48) (hi : i < s) (n5 : ¬ K i = 5) {post : SY → Prop} (h : wY_plain_258 post (nI i) (nI s) (nI c) K A B C SV VR CE KP LF cl rc wy tm) : wY_plain_208 post (nI i) (nI s) (nI c) K A B C SV VR CE KP LF cl rc wy tm := by
  have hci : (nI i).toNatClampNeg = i := nb_c48 hi hs
  exact ⟨vp_in_nI (by omega) (by omega), br_f (by rw [hci]; exact n5) h⟩
theorem ym_158 {K A B C SV VR CE KP LF cl rc : Nat → Int32} {wy tm : Nat → Int64} {s c i : Nat} (hs : s ≤ 48) (hi : i < s) (n4 : ¬ K i = 4) {post : SY → Prop} (h : wY_plain_208 post (nI i) (nI s) (nI c) K A B C SV VR CE KP LF cl rc wy tm) : wY_plain_158 post (nI i) (nI s) (nI c) K A B C SV VR CE KP LF cl rc wy tm := by
  have hci : (nI i).toNatClampNeg = i := nb_c48 hi hs
  exact ⟨vp_in_nI (by omega) (by omega), br_f (by rw [hci]; exact n4) h⟩
theorem ym_114 {K A B C SV VR CE KP LF cl rc : Nat → Int32} {wy tm : Nat → Int64} {s c i : Nat} (hs : s ≤ 48) (hi : i < s) (n3 : ¬ K i = 3) {post : SY → Prop} (h : wY_plain_158 post (nI i) (nI s) (nI c) K A B C SV VR CE KP LF cl rc wy tm) : wY_plain_114 post (nI i) (nI s) (nI c) K A B C SV VR CE KP LF cl rc wy tm := by
  have hci : (nI i).toNatClampNeg = i := nb_c48 hi hs
  exact ⟨vp_in_nI (by omega) (by omega), br_f (by rw [hci]; exact n3) h⟩
theorem ym_70 {K A B C SV VR CE KP LF cl rc : Nat → Int32} {wy tm : Nat → Int64} {s c i : Nat} (hs : s ≤ 48) (hi : i < s) (n2 : ¬ K i = 2) {post : SY → Prop} (h : wY_plain_114 post (nI i) (nI s) (nI c) K A B C SV VR CE KP LF cl rc wy tm) : wY_plain_70 post (nI i) (nI s) (nI c) K A B C SV VR CE KP LF cl rc wy tm := by
  have hci : (nI i).toNatClampNeg = i := nb_c48 hi hs
  exact ⟨vp_in_nI (by omega) (by omega), br_f (by rw [hci]; exact n2) h⟩
theorem ym_26 {K A B C SV VR CE KP LF cl rc : Nat → Int32} {wy tm : Nat → Int64} {s c i : Nat} (hs : s ≤ 48) (hi : i < s) (n1 : ¬ K i = 1) {post : SY → Prop} (h : wY_plain_70 post (nI i) (nI s) (nI c) K A B C SV VR CE KP LF cl rc wy tm) : wY_plain_26 post (nI i) (nI s) (nI c) K A B C SV VR CE KP LF cl rc wy tm := by
  have hci : (nI i).toNatClampNeg = i := nb_c48 hi hs
  exact ⟨vp_in_nI (by omega) (by omega), br_f (by rw [hci]; exact n1) h⟩
theorem ym_0 {K A B C SV VR CE KP LF cl rc : Nat → Int32} {wy tm : Nat → Int64} {s c i : Nat} (hs : s ≤ 48) (hi : i < s) (n0 : ¬ K i = 0) {post : SY → Prop} (h : wY_plain_26 post (nI i) (nI s) (nI c) K A B C SV VR CE KP LF cl rc wy tm) : wpY_plain post ((nI s), (nI c), K, A, B, C, SV, VR, CE, KP, LF, cl, rc, wy, tm) (nI i) := by
  have hci : (nI i).toNatClampNeg = i := nb_c48 hi hs
  exact ⟨vp_in_nI (by omega) (by omega), br_f (by rw [hci]; exact n0) h⟩
theorem ym_plain {K A B C SV VR CE KP LF cl rc : Nat → Int32} {wy tm : Nat → Int64} {s c i n : Nat} (hs : s ≤ 48) (hi : i < s) (hc : c ≤ 1000000) (ok : pg_ok K A B C s) (ek : K i = nI n) (hn : n ≤ 10) (n9 : n ≠ 9) {VR' CE' KP' : Nat → Int32} {c' : Nat} (hd : mc_d K A B C i (VR, CE, KP, c) = (VR', CE', KP', c')) {post : SY → Prop}
    (h : post ((nI s), (nI c'), K, A, B, C, SV, VR', CE', KP', LF, cl, rc, wy, tm)) : wpY_plain post ((nI s), (nI c), K, A, B, C, SV, VR, CE, KP, LF, cl, rc, wy, tm) (nI i) := by
  have hci : (nI i).toNatClampNeg = i := nb_c48 hi hs
  have hin : vp_in (nI i) 48 := vp_in_nI (by omega) (by omega)
  have NE : ∀ m, m < 12 → n ≠ m → ¬ K i = nI m := fun m hm z => by rw [ek]; exact nb_ne z (by omega) (by omega)
  by_cases z0 : n = 0
  · subst z0
    obtain ⟨a8, ea, ia⟩ := xm_A ok hi ek (by omega) (by omega)
    rw [md_0 ek] at hd
    cases hd
    refine ⟨hin, br_t (by rw [hci]; exact ek) ⟨hin, hin, by rw [hci]; exact ia, nm_r (e' := upd VR (pg_ar A i) (B i)) (by rw [hci]) ?_⟩⟩
    exact ym_26 hs hi (NE 1 (by omega) (by omega)) (ym_70 hs hi (NE 2 (by omega) (by omega)) (ym_114 hs hi (NE 3 (by omega) (by omega)) (ym_158 hs hi (NE 4 (by omega) (by omega)) (ym_208 hs hi (NE 5 (by omega) (by omega)) (ym_258 hs hi (NE 10 (by omega) (by omega)) h)))))
  refine ym_0 hs hi (NE 0 (by omega) z0) ?_
  by_cases z1 : n = 1
  · subst z1
    obtain ⟨a8, ea, ia⟩ := xm_A ok hi ek (by omega) (by omega)
    obtain ⟨ib, ic⟩ := xm_BC ok hi ek (by omega) (by omega)
    rw [md_1 ek] at hd
    cases hd
    refine ⟨hin, br_t (by rw [hci]; exact ek) ⟨hin, hin, by rw [hci]; exact ib, hin, by rw [hci]; exact ic, by rw [hci]; exact ia, nm_r (e' := upd VR (pg_ar A i) (VR (B i).toNatClampNeg + VR (C i).toNatClampNeg)) (by rw [hci]) ?_⟩⟩
    exact ym_70 hs hi (NE 2 (by omega) (by omega)) (ym_114 hs hi (NE 3 (by omega) (by omega)) (ym_158 hs hi (NE 4 (by omega) (by omega)) (ym_208 hs hi (NE 5 (by omega) (by omega)) (ym_258 hs hi (NE 10 (by omega) (by omega)) h))))
  refine ym_26 hs hi (NE 1 (by omega) z1) ?_
  by_cases z2 : n = 2
  · subst z2
    obtain ⟨a8, ea, ia⟩ := xm_A ok hi ek (by omega) (by omega)
    obtain ⟨ib, ic⟩ := xm_BC ok hi ek (by omega) (by omega)
    rw [md_2 ek] at hd
    cases hd
    refine ⟨hin, br_t (by rw [hci]; exact ek) ⟨hin, hin, by rw [hci]; exact ib, hin, by rw [hci]; exact ic, by rw [hci]; exact ia, nm_r (e' := upd VR (pg_ar A i) (VR (B i).toNatClampNeg - VR (C i).toNatClampNeg)) (by rw [hci]) ?_⟩⟩
    exact ym_114 hs hi (NE 3 (by omega) (by omega)) (ym_158 hs hi (NE 4 (by omega) (by omega)) (ym_208 hs hi (NE 5 (by omega) (by omega)) (ym_258 hs hi (NE 10 (by omega) (by omega)) h)))
  refine ym_70 hs hi (NE 2 (by omega) z2) ?_
  by_cases z3 : n = 3
  · subst z3
    obtain ⟨a8, ea, ia⟩ := xm_A ok hi ek (by omega) (by omega)
    obtain ⟨ib, ic⟩ := xm_BC ok hi ek (by omega) (by omega)
    rw [md_3 ek] at hd
    cases hd
    refine ⟨hin, br_t (by rw [hci]; exact ek) ⟨hin, hin, by rw [hci]; exact ib, hin, by rw [hci]; exact ic, by rw [hci]; exact ia, nm_r (e' := upd VR (pg_ar A i) (VR (B i).toNatClampNeg * VR (C i).toNatClampNeg)) (by rw [hci]) ?_⟩⟩
    exact ym_158 hs hi (NE 4 (by omega) (by omega)) (ym_208 hs hi (NE 5 (by omega) (by omega)) (ym_258 hs hi (NE 10 (by omega) (by omega)) h))
  refine ym_114 hs hi (NE 3 (by omega) z3) ?_
  have CM : (8 * B i) + ((VR (C i).toNatClampNeg) &&& 7) = (B i * 8) + ((VR (C i).toNatClampNeg) &&& 7) := by rw [Int32.mul_comm]
  by_cases z4 : n = 4
  · subst z4
    obtain ⟨a8, ea, ia⟩ := xm_A ok hi ek (by omega) (by omega)
    obtain ⟨ic, ix⟩ := xm_BC4 ok hi ek (by omega) (by omega) VR
    rw [md_4 ek] at hd
    cases hd
    refine ⟨hin, br_t (by rw [hci]; exact ek) ⟨hin, hin, hin, by rw [hci]; exact ic, by rw [hci, CM]; exact ix, by rw [hci]; exact ia, nm_r (e' := upd VR (pg_ar A i) (CE (mc_ix B C VR i))) (by rw [hci, CM]; rfl) ?_⟩⟩
    exact ym_208 hs hi (NE 5 (by omega) (by omega)) (ym_258 hs hi (NE 10 (by omega) (by omega)) h)
  refine ym_158 hs hi (NE 4 (by omega) z4) ?_
  by_cases z5 : n = 5
  · subst z5
    obtain ⟨a8, ea, ia⟩ := xm_A ok hi ek (by omega) (by omega)
    obtain ⟨ic, ix⟩ := xm_BC4 ok hi ek (by omega) (by omega) VR
    rw [md_5 ek] at hd
    cases hd
    refine ⟨hin, br_t (by rw [hci]; exact ek) ⟨hin, hin, by rw [hci]; exact ic, hin, by rw [hci]; exact ia, by rw [hci, CM]; exact ix, nm_r (e' := upd CE (mc_ix B C VR i) (VR (pg_ar A i))) (by rw [hci, CM]; rfl) ?_⟩⟩
    exact ym_258 hs hi (NE 10 (by omega) (by omega)) h
  refine ym_208 hs hi (NE 5 (by omega) z5) ?_
  by_cases z10 : n = 10
  · subst z10
    obtain ⟨a8, ea, ia⟩ := xm_A ok hi ek (by omega) (by omega)
    rw [md_10 ek] at hd
    cases hd
    refine ⟨hin, br_t (by rw [hci]; exact ek) ?_⟩
    refine pk_le 48 c (fun z => nm_r (nI_1 c) ?_) (fun z => ⟨hin, by rw [hci]; exact ia, vp_in_nI z (by omega), nm_r (e' := upd KP c (VR (pg_ar A i))) (by rw [hci, nb_cl (by omega)]) (nm_r (nI_1 c) ?_)⟩)
    · rw [if_neg (by dsimp only; omega)] at h; exact h
    · rw [if_pos (by dsimp only; omega)] at h; exact h
  · rw [md_n (by
      have : n = 6 ∨ n = 7 ∨ n = 8 := by omega
      rcases this with y | y | y
      · exact Or.inl (by rw [ek, y]; rfl)
      · exact Or.inr (Or.inl (by rw [ek, y]; rfl))
      · exact Or.inr (Or.inr (by rw [ek, y]; rfl)))] at hd
    cases hd
    exact ym_258 hs hi (NE 10 (by omega) z10) h
def ym_R (cm : Nat → Nat) (cl : Nat → Int32) : Prop := ∀ t, t < 4 → cm t ≠ 0 → cl t = nI (cm t - 1)
theorem ym_109 {K A B C SV VR CE KP LF cl rc : Nat → Int32} {wy tm : Nat → Int64} {s c i n : Nat} (hs : s ≤ 48) (hi : i < s) (hc : c ≤ 1000000) (ok : pg_ok K A B C s) (ek : K i = nI n) (hn : n ≤ 10) (n9 : n ≠ 9) {VR' CE' KP' : Nat → Int32} {c' : Nat} (hd : mc_d K A B C i (VR, CE, KP, c) = (VR', CE', KP', c')) {post : Int32 → SY → Prop}
    (h : post (nI (i + 1)) ((nI s), (nI c'), K, A, B, C, SV, VR', CE', KP', LF, cl, rc, wy, tm)) : wY_pass_109 post (nI i) (nI s) (nI c) K A B C SV VR CE KP LF cl rc wy tm := by
  have hci : (nI i).toNatClampNeg = i := nb_c48 hi hs
  have hin : vp_in (nI i) 48 := vp_in_nI (by omega) (by omega)
  refine ⟨hin, br_f (by rw [hci, ek]; exact nb_ne (b := 9) n9 (by omega) (by omega)) ?_⟩
  refine ym_plain hs hi hc ok ek hn n9 hd ?_
  rw [nI_1]; exact h
theorem ym_pass {K A B C SV VR CE KP LF cl rc : Nat → Int32} {wy tm : Nat → Int64} {s c i p : Nat} {en cm : Nat → Nat} (hs : s ≤ 48) (hi : i < s) (hb : ¬ K i = 11) (hc : c ≤ 1000000) (ok : pg_ok K A B C s) (H : mc_H K A s en) (R : ym_R cm cl)
    {i' p' c' : Nat} {LF' : Nat → Int32} {cm' : Nat → Nat} {VR' CE' KP' : Nat → Int32}
    (hm : mc_s K A B C s en (i, p, LF, cm, VR, CE, KP, c) = (i', p', LF', cm', VR', CE', KP', c')) {post : Int32 → SY → Prop}
    (h : ∀ cl', ym_R cm' cl' → (K i = 9 → A i = nI p') → (¬ K i = 9 → p' = p) → post (nI i') ((nI s), (nI c'), K, A, B, C, SV, VR', CE', KP', LF', cl', rc, wy, tm)) : wpY_pass post ((nI s), (nI c), K, A, B, C, SV, VR, CE, KP, LF, cl, rc, wy, tm) (nI i) := by
  have hci : (nI i).toNatClampNeg = i := nb_c48 hi hs
  have hin : vp_in (nI i) 48 := vp_in_nI (by omega) (by omega)
  obtain ⟨n, hn, ek⟩ := (H.1 i hi).1
  have NE : ∀ m, m < 12 → n ≠ m → ¬ K i = nI m := fun m hm z => by rw [ek]; exact nb_ne z (by omega) (by omega)
  have n11 : n ≠ 11 := fun z => hb (by rw [ek, z]; rfl)
  by_cases z6 : n = 6
  · subst z6
    have k6 : K i = 6 := ek
    obtain ⟨a8, ea, ia⟩ := xm_A ok hi ek (by omega) (by omega)
    rw [mc_6 hi k6] at hm
    refine ⟨hin, br_t (by rw [hci]; exact k6) ⟨hin, by rw [hci]; exact ia, ?_⟩⟩
    rw [hci]
    refine br_c (fun y => ?_) (fun y => ?_)
    · rw [if_neg (Int32.not_le.mpr y)] at hm
      cases hm
      refine ⟨hin, br_f (by rw [hci]; exact NE 7 (by omega) (by omega)) ⟨hin, br_f (by rw [hci]; exact NE 8 (by omega) (by omega)) ?_⟩⟩
      exact ym_109 hs hi hc ok ek (by omega) (by omega) (md_n (Or.inl k6)) (h cl R (fun x => absurd x (NE 9 (by omega) (by omega))) (fun _ => rfl))
    · rw [if_pos (Int32.not_lt.mp y)] at hm
      cases hm
      obtain ⟨hes, mt⟩ := H.2.2.2.2.2.2 i hi (Or.inl k6)
      refine yw_endOf hs H.2.1.1 hes mt ?_
      rw [nI_1]
      exact h cl R (fun x => absurd x (NE 9 (by omega) (by omega))) (fun _ => rfl)
  refine ⟨hin, br_f (by rw [hci]; exact NE 6 (by omega) z6) ⟨hin, ?_⟩⟩
  by_cases z7 : n = 7
  · subst z7
    have k7 : K i = 7 := ek
    rw [mc_7 hi k7] at hm
    cases hm
    refine br_t (by rw [hci]; exact k7) ⟨hin, hin, nm_r (e' := upd LF i (A i)) (by rw [hci]) ⟨hin, br_f (by rw [hci]; exact NE 8 (by omega) (by omega)) ?_⟩⟩
    exact ym_109 hs hi hc ok ek (by omega) (by omega) (md_n (Or.inr (Or.inl k7))) (h cl R (fun x => absurd x (NE 9 (by omega) (by omega))) (fun _ => rfl))
  refine br_f (by rw [hci]; exact NE 7 (by omega) z7) ⟨hin, ?_⟩
  by_cases z8 : n = 8
  · subst z8
    have k8 : K i = 8 := ek
    have mt := H.2.2.2.2.2.1 i hi k8
    have hq := mt.1
    have hcq : (nI (en i)).toNatClampNeg = en i := nb_cl (by omega)
    have hiq : vp_in (nI (en i)) 48 := vp_in_nI (by omega) (by omega)
    have nk9 : ¬ K i = 9 := NE 9 (by omega) (by omega)
    refine br_t (by rw [hci]; exact k8) ?_
    refine yw_openerOf hs H.2.1.1 hi mt ⟨hiq, ?_⟩
    rw [hcq]
    by_cases k7 : K (en i) = 7
    · rw [mc_8l hi k8 k7] at hm
      refine br_t k7 ⟨hiq, hiq, nm_e ⟨hiq, ?_⟩⟩
      rw [pk_us]
      refine br_c (fun y => ?_) (fun y => ?_)
      · rw [if_pos y] at hm
        cases hm
        exact ym_109 hs hi hc ok ek (by omega) (by omega) (md_n (Or.inr (Or.inr k8))) (h cl R (fun x => absurd x nk9) (fun _ => rfl))
      · rw [if_neg y] at hm
        cases hm
        rw [nI_1]
        exact h cl R (fun x => absurd x nk9) (fun _ => rfl)
    · rw [mc_8i hi k8 k7] at hm
      cases hm
      refine br_f k7 ?_
      exact ym_109 hs hi hc ok ek (by omega) (by omega) (md_n (Or.inr (Or.inr k8))) (h cl R (fun x => absurd x nk9) (fun _ => rfl))
  refine br_f (by rw [hci]; exact NE 8 (by omega) z8) ?_
  by_cases z9 : n = 9
  · subst z9
    have k9 : K i = 9 := ek
    obtain ⟨a4, ea⟩ := (H.1 i hi).2.1 (Or.inl k9)
    rw [mc_9 hi k9] at hm
    cases hm
    refine ⟨hin, br_t (by rw [hci]; exact k9) ⟨hin, by rw [hci, ea]; exact vp_in_nI a4 (by omega), nm_r (e' := upd cl (pg_ar A i) (nI i)) (by rw [hci]) ⟨hin, ?_⟩⟩⟩
    rw [hci, ea]
    refine yw_placeOf hs a4 H.1 (H.2.2.1 _ a4) ?_
    have e : yw_pl K A s (pg_ar A i) = pg_lb K A (pg_ar A i) s := if_neg (H.2.2.2.1 i hi k9)
    rw [e]
    refine h _ ?_ (fun _ => ea) (fun x => absurd k9 x)
    intro t ht
    by_cases y : t = pg_ar A i
    · subst y
      rw [mc_us, pk_us]
      exact fun _ => rfl
    · rw [mc_un y, pk_un y]; exact R t ht
  · rw [mc_p hi (fun x => x.elim (NE 6 (by omega) z6) (NE 7 (by omega) z7)) (NE 8 (by omega) z8) (NE 9 (by omega) z9) hb] at hm
    simp only [Prod.mk.injEq] at hm
    obtain ⟨rfl, rfl, rfl, rfl, hd⟩ := hm
    exact ym_109 hs hi hc ok ek (by omega) z9 hd (h cl R (fun x => absurd x (NE 9 (by omega) z9)) (fun _ => rfl))
theorem ym_run {K A B C SV rc : Nat → Int32} {wy tm : Nat → Int64} {s : Nat} {en : Nat → Nat} (hs : s ≤ 48) (ok : pg_ok K A B C s) (H : mc_H K A s en) {post : Int32 → SY → Prop} : ∀ T t i p LF cm VR CE KP c cl, t + T ≤ 30000 → mc_I K A s (i, p, LF, cm, VR, CE, KP, c) → ym_R cm cl → c ≤ t →
      mc_h K s (mc_it K A B C s en T (i, p, LF, cm, VR, CE, KP, c)) →
      (∀ i' p' LF' cm' VR' CE' KP' c' cl', mc_it K A B C s en T (i, p, LF, cm, VR, CE, KP, c) = (i', p', LF', cm', VR', CE', KP', c') → post (nI c') ((nI s), (nI c'), K, A, B, C, SV, VR', CE', KP', LF', cl', rc, wy, tm)) →
      wY_run_73 post (T + 2) (nI i) (yw_p p) 0 (nI t) (nI s) (nI c) K A B C SV VR CE KP LF cl rc wy tm := by
  have HA : ∀ n t i p LF cm VR CE KP c cl, t ≤ 30000 → i ≤ s → mc_h K s (i, p, LF, cm, VR, CE, KP, c) → post (nI c) ((nI s), (nI c), K, A, B, C, SV, VR, CE, KP, LF, cl, rc, wy, tm) → wY_run_73 post (n + 2) (nI i) (yw_p p) 0 (nI t) (nI s) (nI c) K A B C SV VR CE KP LF cl rc wy tm := by
    intro n t i p LF cm VR CE KP c cl ht hi hh h
    have h4 : p = 4 := hh.2
    subst h4
    refine br_f (nI_ge (b := 40000) (by omega) (by omega)) (br_t rfl ?_)
    have E : wY_run_137 post (wY_run_73 post (n + 1)) (nI i) (yw_p 4) 0 (nI t) (nI s) (nI c) K A B C SV VR CE KP LF cl rc wy tm := by
      refine br_f (by decide) (nm_r (nI_1 t) ?_)
      exact br_f (nI_ge (b := 40000) (by omega) (by omega)) (br_f (by decide) h)
    by_cases z : i < s
    · have hci : (nI i).toNatClampNeg = i := nb_c48 z hs
      refine br_f (nI_ge z (by omega)) ⟨vp_in_nI (by omega) (by omega), br_t ?_ E⟩
      rw [hci]
      exact Classical.byContradiction fun y => hh.1 ⟨z, y⟩
    · exact br_t (nI_le (by omega) (by omega)) E
  intro T
  induction T with
  | zero =>
    intro t i p LF cm VR CE KP c cl ht I R hc hh h
    exact HA 0 t i p LF cm VR CE KP c cl (by omega) I.1 hh (h i p LF cm VR CE KP c cl rfl)
  | succ T ih =>
    intro t i p LF cm VR CE KP c cl ht I R hc hh h
    by_cases y : mc_h K s (i, p, LF, cm, VR, CE, KP, c)
    · exact HA (T + 1) t i p LF cm VR CE KP c cl (by omega) I.1 y (h i p LF cm VR CE KP c cl (mc_h_it y _))
    · have I' := mc_I_s (B := B) (C := C) H I
      have hc' := xm_c (K := K) (A := A) (B := B) (C := C) (s := s) (en := en) (m := (i, p, LF, cm, VR, CE, KP, c))
      have hI : i ≤ s := I.1
      obtain ⟨i', p', LF', cm', VR', CE', KP', c', em⟩ : ∃ i' p' LF' cm' VR' CE' KP' c', mc_s K A B C s en (i, p, LF, cm, VR, CE, KP, c) = (i', p', LF', cm', VR', CE', KP', c') := ⟨_, _, _, _, _, _, _, _, rfl⟩
      have hh' : mc_h K s (mc_it K A B C s en T (mc_s K A B C s en (i, p, LF, cm, VR, CE, KP, c))) := hh
      have h' : ∀ i'' p'' LF'' cm'' VR'' CE'' KP'' c'' cl', mc_it K A B C s en T (mc_s K A B C s en (i, p, LF, cm, VR, CE, KP, c)) = (i'', p'', LF'', cm'', VR'', CE'', KP'', c'') → post (nI c'') ((nI s), (nI c''), K, A, B, C, SV, VR'', CE'', KP'', LF'', cl', rc, wy, tm) := h
      rw [em] at I' hc' hh' h'
      have hc2 : c' ≤ c + 1 := hc'
      have NX : ∀ cl', ym_R cm' cl' → wY_run_73 post (T + 2) (nI i') (yw_p p') 0 (nI (t + 1)) (nI s) (nI c') K A B C SV VR' CE' KP' LF' cl' rc wy tm := by
        intro cl' R'
        exact ih (t + 1) i' p' LF' cm' VR' CE' KP' c' cl' (by omega) I' R' (by omega) hh' h'
      refine br_f (nI_ge (b := 40000) (by omega) (by omega)) (br_t rfl ?_)
      by_cases z : i < s ∧ ¬ K i = 11
      · have hci : (nI i).toNatClampNeg = i := nb_c48 z.1 hs
        have hin : vp_in (nI i) 48 := vp_in_nI (by omega) (by omega)
        refine br_f (nI_ge z.1 (by omega)) ⟨hin, br_f (by rw [hci]; exact z.2) ?_⟩
        refine ym_pass hs z.1 z.2 (by omega) ok H R em ?_
        intro cl' R' q1 q2
        refine ⟨hin, ?_⟩
        rw [hci]
        by_cases k9 : K i = 9
        · have a4 := ((H.1 i z.1).2.1 (Or.inl k9)).1
          refine br_t k9 ⟨hin, nm_r (e' := yw_p p') ?_ (nm_r (nI_1 t) (NX cl' R'))⟩
          have e := q1 k9
          have ep : p' = pg_ar A i := by
            rw [mc_9 z.1 k9] at em
            exact (congrArg (fun m : mc_M => m.2.1) em).symm
          unfold yw_p
          rw [if_neg (by omega)]; exact e
        · refine br_f k9 (nm_r (nI_1 t) ?_)
          have L := NX cl' R'
          rw [q2 k9] at L
          exact L
      · have h4 : ¬ p = 4 := fun x => y ⟨z, x⟩
        have hx : cm p ≠ 0 := (show p = 4 ∨ cm p ≠ 0 from I.2.2.1).resolve_left h4
        have hp4 := pg_pw4 H.1 i I.1
        rw [show pg_pw K A i = p from I.2.1] at hp4
        have hcp : (nI p).toNatClampNeg = p := nb_cl (by omega)
        have hip : vp_in (nI p) 4 := vp_in_nI (by omega) (by omega)
        have r1 := R p (by omega) hx
        have hcs : cm p ≤ s := (I.2.2.2 p (by omega) hx).1
        have ep : yw_p p = nI p := if_neg h4
        rw [mc_l (fun u => Classical.byContradiction fun v => z ⟨u, v⟩) h4] at em
        have E : wY_run_137 post (wY_run_73 post (T + 2)) (nI i) (yw_p p) 0 (nI t) (nI s) (nI c) K A B C SV VR CE KP LF cl rc wy tm := by
          rw [ep]
          refine br_t (nI_pos' (by omega)) ⟨hip, nm_r (e' := nI (cm p - 1)) (by rw [hcp]; exact r1) ?_⟩
          refine yw_pieceOf hs (by omega) H.1 ?_
          refine nm_r (e' := nI (cm p)) (by rw [nI_1, show cm p - 1 + 1 = cm p by omega]) (nm_r (nI_1 t) ?_)
          rw [show cm p - 1 + 1 = cm p by omega]
          cases em
          exact NX cl R
        by_cases x : i < s
        · have hci : (nI i).toNatClampNeg = i := nb_c48 x hs
          refine br_f (nI_ge x (by omega)) ⟨vp_in_nI (by omega) (by omega), br_t ?_ E⟩
          rw [hci]
          exact Classical.byContradiction fun v => z ⟨x, v⟩
        · exact br_t (nI_le (by omega) (by omega)) E
end YM
