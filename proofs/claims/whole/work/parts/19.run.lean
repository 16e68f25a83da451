section RU
/-! run -/
theorem ru_begin {pc : Int32} {K A B C SV VR CE KP LF cl rc : Nat → Int32} {wy tm : Nat → Int64} {s : Nat} {post : Int32 → SY → Prop} (h : ∃ n, wY_run_73 post n 0 (-1) 0 0 (nI s) 0 K A B C SV (sm_c SV VR 8) (sm_z CE 24) KP LF cl rc wy tm) : ∃ n, wY_run_13 post (nI s) pc n 0 K A B C SV VR CE KP LF cl rc wy tm := by
  have H39 : ∀ d i, i + d = 24 → wY_run_39 post (nI s) pc (d + 1) (nI i) K A B C SV (sm_c SV VR 8) (sm_z CE i) KP LF cl rc wy tm := by
    intro d
    induction d with
    | zero =>
      intro i hi
      have e : i = 24 := by omega
      subst e
      exact br_t (nI_le (a := 24) (by omega) (by omega)) h
    | succ d ih =>
      intro i hi
      refine br_f (nI_ge (b := 24) (by omega) (by omega)) ⟨vp_in_nI (by omega) (by omega), ?_⟩
      exact nm_r (e' := sm_z CE (i + 1)) (by rw [nb_cl (by omega), sm_zs]) (nm_r (nI_1 i) (ih (i + 1) (by omega)))
  have H13 : ∀ d i, i + d = 8 → wY_run_13 post (nI s) pc (d + 1) (nI i) K A B C SV (sm_c SV VR i) CE KP LF cl rc wy tm := by
    intro d
    induction d with
    | zero =>
      intro i hi
      have e : i = 8 := by omega
      subst e
      have L := H39 24 0 rfl
      rw [sm_z0] at L
      exact br_t (nI_le (a := 8) (by omega) (by omega)) ⟨25, L⟩
    | succ d ih =>
      intro i hi
      have hin : vp_in (nI i) 8 := vp_in_nI (by omega) (by omega)
      refine br_f (nI_ge (b := 8) (by omega) (by omega)) ⟨hin, hin, ?_⟩
      exact nm_r (e' := sm_c SV VR (i + 1)) (by rw [nb_cl (by omega), sm_cs]) (nm_r (nI_1 i) (ih (i + 1) (by omega)))
  have L := H13 8 0 rfl
  rw [sm_c0] at L
  exact ⟨9, L⟩
theorem ru_H {K A pa : Nat → Int32} {s : Nat} (hs : s ≤ 48) (g : pg_g K A s) (w : pg_wf K s) (nt : pg_nt K A s) (nm : pg_nm K A s) (rr : ¬ wa_rec K A s) (pr : pg_pr K s pa) :
    mc_H K A s (fun i => (pa i).toNatClampNeg) ∧ ∀ i, i < s → (pg_op K i ∨ K i = 8) → pa i = nI ((fun i => (pa i).toNatClampNeg) i) := by
  refine ⟨⟨g, w, nt, nm, rr, fun e he k8 => ?_, fun q hq o => ?_⟩, fun i hi h => ?_⟩
  · obtain ⟨q, eq, mt⟩ := pr.1 e he k8
    have := mt.1
    show pg_mt K (pa e).toNatClampNeg e
    rw [eq, nb_cl (by omega)]; exact mt
  · obtain ⟨e, he, eq, mt⟩ := pr.2 q hq o
    show (pa q).toNatClampNeg < s ∧ pg_mt K q (pa q).toNatClampNeg
    rw [eq, nb_cl (by omega)]; exact ⟨he, mt⟩
  · show pa i = nI (pa i).toNatClampNeg
    rcases h with o | k8
    · obtain ⟨e, he, eq, mt⟩ := pr.2 i hi o
      rw [eq, nb_cl (by omega)]
    · obtain ⟨q, eq, mt⟩ := pr.1 i hi k8
      have := mt.1
      rw [eq, nb_cl (by omega)]
theorem i_vc_run {k : Nat} {u : SX} {v : SY} (I : i_Rel k u v) (hk : k + 5 ≤ 2560) : wpX_run (fun r u' => wpY_run (fun r' v' => r' = r ∧ i_Rel (k + 5) u' v') v) u := by
  obtain ⟨s, c, cp, K, A, B, C, SV, VR, CE, KP, LF, oa, pa, ow, ba, re, rt, co, ps, wt, cl, rc, wy, tm, rfl, rfl, hs, hc, ok⟩ := I
  have g := pg_of_ok ok
  unfold wpX_run
  refine xf_findFault hs g (fun oa pa ow ba re ps wt hz => ?_)
  by_cases z : ff_r K A s = 0
  · obtain ⟨⟨w, nt, nm, rr, wl⟩, pr, hba⟩ := hz z
    have D5 := wd_all5 g rr
    obtain ⟨H, hpa⟩ := ru_H hs g w nt nm rr pr
    have W := bw_main g hs w.1 D5 wl
    obtain ⟨T, hT, hh⟩ := bs_main (B := B) (C := C) H D5 W LF (fun _ => 0) (sm_c SV VR 8, sm_z CE 24, KP, 0)
    have I0 : mc_I K A s (0, 4, LF, fun _ => 0, sm_c SV VR 8, sm_z CE 24, KP, 0) := ⟨Nat.zero_le _, rfl, Or.inl rfl, fun t _ h => absurd rfl h⟩
    refine br_t z (sm_begin ⟨T + 1, ?_⟩)
    refine xm_run hs ok H hpa hba T 0 0 4 LF (fun _ => 0) (sm_c SV VR 8) (sm_z CE 24) KP 0 rt co (by omega) I0 (fun t _ h => absurd rfl h) (by omega) hh ?_
    intro i' p' LF' cm' VR' CE' KP' c' rt' co' e hc'
    unfold wpY_run
    refine yf_check hs g (fun rc wy tm => br_t z (ru_begin ⟨T + 2, ?_⟩))
    refine ym_run hs ok H T 0 0 4 LF (fun _ => 0) (sm_c SV VR 8) (sm_z CE 24) KP 0 cl (by omega) I0 (fun t _ h => absurd rfl h) (by omega) hh ?_
    intro i'' p'' LF'' cm'' VR'' CE'' KP'' c'' cl' e'
    cases e.symm.trans e'
    exact ⟨rfl, re_mk hs (by omega) ok⟩
  · refine br_f z ?_
    unfold wpY_run
    exact yf_check hs g (fun rc wy tm => br_f z ⟨rfl, re_mk hs hc ok⟩)
end RU
