section FF
/-! the test for faults on both sides -/
def fa_ok (K A : Nat → Int32) (s : Nat) : Prop := pg_wf K s ∧ pg_nt K A s ∧ pg_nm K A s ∧ ¬ wa_rec K A s ∧ lN (we_W K A s 5 4) ≤ 3000
noncomputable def ff_if (c : Prop) (x y : Int32) : Int32 := @ite _ c (Classical.propDecidable c) x y
theorem ff_t {c : Prop} {x y : Int32} (h : c) : ff_if c x y = x := if_pos h
theorem ff_f {c : Prop} {x y : Int32} (h : ¬ c) : ff_if c x y = y := if_neg h
noncomputable def ff_r (K A : Nat → Int32) (s : Nat) : Int32 :=
  ff_if (pg_wf K s) (ff_if (pg_nt K A s) (ff_if (pg_nm K A s) (ff_if (wa_rec K A s) (-6) (ff_if (lN (we_W K A s 5 4) ≤ 3000) 0 (-7))) (-5)) (-4)) (-3)
theorem xf_findFault {pc cp : Int32} {K A B C SV VR CE KP oa pa ow ba re : Nat → Int32} {ps wt : Nat → Int64} {LF rt co : Nat → Int32} {s : Nat} (hs : s ≤ 48) (g : pg_g K A s) {post : Int32 → SX → Prop}
    (h : ∀ oa pa ow ba re ps wt, (ff_r K A s = 0 → fa_ok K A s ∧ pg_pr K s pa ∧ (∀ t, t < 4 → ba t = nI (pg_lb K A t s) - 1)) → post (ff_r K A s) ((nI s), pc, cp, K, A, B, C, SV, VR, CE, KP, oa, pa, ow, ba, re, ps, wt, LF, rt, co)) : wpX_findFault post ((nI s), pc, cp, K, A, B, C, SV, VR, CE, KP, oa, pa, ow, ba, re, ps, wt, LF, rt, co) := by
  unfold wpX_findFault
  refine xw_pairEnds hs (fun w oa pa hpr => ?_) (fun w oa pa => ?_)
  · refine br_f (by decide) ?_
    refine xw_placeBodies hs g (fun nt ow ba how hba => ?_) (fun nt ow ba => ?_)
    · refine br_f (by decide) ?_
      refine xw_allCalls hs g hba (fun nm => ?_) (fun nm => ?_)
      · refine br_f (by decide) ?_
        refine wx_rec hs g how (fun rr re => ?_) (fun rr re => ?_)
        · refine br_f (by decide) ?_
          have e : ff_r K A s = -6 := by unfold ff_r; rw [ff_t w, ff_t nt, ff_t nm, ff_t rr]
          have L := h oa pa ow ba re ps wt (fun z => by rw [e] at z; exact absurd z (by decide))
          rw [e] at L; exact L
        · refine br_t rfl ?_
          refine we_main hs g hpr how (wd_all5 g rr) (fun ps wt => ?_)
          refine br_c (fun z => ?_) (fun z => ?_)
          · have e : ff_r K A s = 0 := by unfold ff_r; rw [ff_t w, ff_t nt, ff_t nm, ff_f rr, ff_t z]
            have L := h oa pa ow ba re ps wt (fun _ => ⟨⟨w, nt, nm, rr, z⟩, hpr, hba⟩)
            rw [e] at L; exact L
          · have e : ff_r K A s = -7 := by unfold ff_r; rw [ff_t w, ff_t nt, ff_t nm, ff_f rr, ff_f z]
            have L := h oa pa ow ba re ps wt (fun z => by rw [e] at z; exact absurd z (by decide))
            rw [e] at L; exact L
      · refine br_t rfl ?_
        have e : ff_r K A s = -5 := by unfold ff_r; rw [ff_t w, ff_t nt, ff_f nm]
        have L := h oa pa ow ba re ps wt (fun z => by rw [e] at z; exact absurd z (by decide))
        rw [e] at L; exact L
    · refine br_t rfl ?_
      have e : ff_r K A s = -4 := by unfold ff_r; rw [ff_t w, ff_f nt]
      have L := h oa pa ow ba re ps wt (fun z => by rw [e] at z; exact absurd z (by decide))
      rw [e] at L; exact L
  · refine br_t rfl ?_
    have e : ff_r K A s = -3 := by unfold ff_r; rw [ff_f w]
    have L := h oa pa ow ba re ps wt (fun z => by rw [e] at z; exact absurd z (by decide))
    rw [e] at L; exact L
theorem yf_check {pc : Int32} {K A B C SV VR CE KP LF cl rc : Nat → Int32} {wy tm : Nat → Int64} {s : Nat} (hs : s ≤ 48) (g : pg_g K A s) {post : Int32 → SY → Prop}
    (h : ∀ rc wy tm, post (ff_r K A s) ((nI s), pc, K, A, B, C, SV, VR, CE, KP, LF, cl, rc, wy, tm)) : wpY_check post ((nI s), pc, K, A, B, C, SV, VR, CE, KP, LF, cl, rc, wy, tm) := by
  refine yw_malformed hs (fun w => br_t rfl ?_) (fun w => br_f (by decide) ?_)
  · have H : ∀ d t, t + d = 4 → (∀ j, j < t → pg_cb K A j s ≤ 1) → wY_check_12 post (nI s) pc K A B C SV VR CE KP LF cl rc wy tm (d + 1) (nI t) := by
      intro d
      induction d with
      | zero =>
        intro t ht hn
        have nt : pg_nt K A s := fun j hj => hn j (by omega)
        refine br_t (nI_le (a := 4) (by omega) (by omega)) ?_
        refine yw_missing hs g nt (fun nm => br_t rfl ?_) (fun nm => br_f (by decide) ?_)
        · refine wy_rec hs g (fun rr rc => ?_) (fun rr rc => ?_)
          · have e : ff_r K A s = -6 := by unfold ff_r; rw [ff_t w, ff_t nt, ff_t nm, ff_t rr]
            have L := h rc wy tm
            rw [e] at L; exact br_f (by decide) L
          · refine br_t rfl ?_
            refine yv_tooLong hs g w nt (wd_all g rr) (wd_all5 g rr) (fun z wy tm => ?_) (fun z wy tm => ?_)
            · have e : ff_r K A s = 0 := by unfold ff_r; rw [ff_t w, ff_t nt, ff_t nm, ff_f rr, ff_t z]
              have L := h rc wy tm
              rw [e] at L; exact br_t rfl L
            · have e : ff_r K A s = -7 := by unfold ff_r; rw [ff_t w, ff_t nt, ff_t nm, ff_f rr, ff_f z]
              have L := h rc wy tm
              rw [e] at L; exact br_f (by decide) L
        · have e : ff_r K A s = -5 := by unfold ff_r; rw [ff_t w, ff_t nt, ff_f nm]
          have L := h rc wy tm
          rw [e] at L; exact L
      | succ d ih =>
        intro t ht hn
        refine br_f (nI_ge (b := 4) (by omega) (by omega)) ?_
        refine yw_bodies hs (by omega) g ?_
        have hcs : pg_cb K A t s ≤ s := by
          have : ∀ i, pg_cb K A t i ≤ i := by
            intro i
            induction i with
            | zero => exact Nat.le_refl _
            | succ i ih =>
              by_cases y : K i = 11 ∧ pg_ar A i = t
              · rw [pg_cb_y y.1 y.2]; omega
              · rw [pg_cb_n y]; omega
          exact this s
        refine pk_le (pg_cb K A t s) 1 (fun z => ?_) (fun z => ?_)
        · refine nm_r (nI_1 t) (ih (t + 1) (by omega) ?_)
          intro j hj
          by_cases y : j = t
          · rw [y]; exact z
          · exact hn j (by omega)
        · have e : ff_r K A s = -4 := by unfold ff_r; rw [ff_t w, ff_f (fun y => by have := y t (by omega); omega)]
          have L := h rc wy tm
          rw [e] at L; exact L
    exact ⟨5, H 4 0 rfl (fun j hj => absurd hj (Nat.not_lt_zero _))⟩
  · have e : ff_r K A s = -3 := by unfold ff_r; rw [ff_f w]
    have L := h rc wy tm
    rw [e] at L; exact L
end FF
