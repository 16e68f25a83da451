section MC
/-! the machine, as a picture: where it stands, its piece, rounds left, return addresses (0: none), variables, cells, kept, count -/
abbrev mc_D : Type := (Nat → Int32) × (Nat → Int32) × (Nat → Int32) × Nat
abbrev mc_M : Type := Nat × Nat × (Nat → Int32) × (Nat → Nat) × mc_D
def mc_ix (B C VR : Nat → Int32) (i : Nat) : Nat := ((B i * 8) + ((VR (C i).toNatClampNeg) &&& 7)).toNatClampNeg
def mc_d (K A B C : Nat → Int32) (i : Nat) (d : mc_D) : mc_D :=
  if K i = 0 then (upd d.1 (pg_ar A i) (B i), d.2.1, d.2.2.1, d.2.2.2)
  else if K i = 1 then (upd d.1 (pg_ar A i) (d.1 (B i).toNatClampNeg + d.1 (C i).toNatClampNeg), d.2.1, d.2.2.1, d.2.2.2)
  else if K i = 2 then (upd d.1 (pg_ar A i) (d.1 (B i).toNatClampNeg - d.1 (C i).toNatClampNeg), d.2.1, d.2.2.1, d.2.2.2)
  else if K i = 3 then (upd d.1 (pg_ar A i) (d.1 (B i).toNatClampNeg * d.1 (C i).toNatClampNeg), d.2.1, d.2.2.1, d.2.2.2)
  else if K i = 4 then (upd d.1 (pg_ar A i) (d.2.1 (mc_ix B C d.1 i)), d.2.1, d.2.2.1, d.2.2.2)
  else if K i = 5 then (d.1, upd d.2.1 (mc_ix B C d.1 i) (d.1 (pg_ar A i)), d.2.2.1, d.2.2.2)
  else if K i = 10 then (d.1, d.2.1, if d.2.2.2 < 48 then upd d.2.2.1 d.2.2.2 (d.1 (pg_ar A i)) else d.2.2.1, d.2.2.2 + 1)
  else d
def mc_u (f : Nat → Nat) (k x : Nat) : Nat → Nat := fun j => if j = k then x else f j
theorem mc_us {f : Nat → Nat} {k x : Nat} : mc_u f k x k = x := if_pos rfl
theorem mc_un {f : Nat → Nat} {k j x : Nat} (h : j ≠ k) : mc_u f k x j = f j := if_neg h
def mc_s (K A B C : Nat → Int32) (s : Nat) (en : Nat → Nat) (m : mc_M) : mc_M :=
  if m.1 < s ∧ ¬ K m.1 = 11 then
    if K m.1 = 6 then (if m.2.2.2.2.1 (pg_ar A m.1) ≤ 0 then en m.1 + 1 else m.1 + 1, m.2.1, m.2.2.1, m.2.2.2.1, m.2.2.2.2)
    else if K m.1 = 7 then (m.1 + 1, m.2.1, upd m.2.2.1 m.1 (A m.1), m.2.2.2.1, m.2.2.2.2)
    else if K m.1 = 8 then
      if K (en m.1) = 7 then (if m.2.2.1 (en m.1) - 1 ≤ 0 then m.1 + 1 else en m.1 + 1, m.2.1, upd m.2.2.1 (en m.1) (m.2.2.1 (en m.1) - 1), m.2.2.2.1, m.2.2.2.2)
      else (m.1 + 1, m.2.1, m.2.2.1, m.2.2.2.1, m.2.2.2.2)
    else if K m.1 = 9 then (pg_lb K A (pg_ar A m.1) s, pg_ar A m.1, m.2.2.1, mc_u m.2.2.2.1 (pg_ar A m.1) (m.1 + 1), m.2.2.2.2)
    else (m.1 + 1, m.2.1, m.2.2.1, m.2.2.2.1, mc_d K A B C m.1 m.2.2.2.2)
  else if m.2.1 = 4 then m else (m.2.2.2.1 m.2.1, pg_pw K A (m.2.2.2.1 m.2.1), m.2.2.1, m.2.2.2.1, m.2.2.2.2)
def mc_it (K A B C : Nat → Int32) (s : Nat) (en : Nat → Nat) : Nat → mc_M → mc_M
  | 0, m => m
  | n + 1, m => mc_it K A B C s en n (mc_s K A B C s en m)
def mc_h (K : Nat → Int32) (s : Nat) (m : mc_M) : Prop := ¬ (m.1 < s ∧ ¬ K m.1 = 11) ∧ m.2.1 = 4
theorem mc_h_s {K A B C : Nat → Int32} {s : Nat} {en : Nat → Nat} {m : mc_M} (h : mc_h K s m) : mc_s K A B C s en m = m := by
  unfold mc_s; rw [if_neg h.1, if_pos h.2]
theorem mc_h_it {K A B C : Nat → Int32} {s : Nat} {en : Nat → Nat} {m : mc_M} (h : mc_h K s m) : ∀ n, mc_it K A B C s en n m = m := by
  intro n
  induction n with
  | zero => rfl
  | succ n ih => show mc_it K A B C s en n (mc_s K A B C s en m) = m; rw [mc_h_s h]; exact ih
theorem mc_add {K A B C : Nat → Int32} {s : Nat} {en : Nat → Nat} : ∀ a b m, mc_it K A B C s en (a + b) m = mc_it K A B C s en b (mc_it K A B C s en a m) := by
  intro a
  induction a with
  | zero => intro b m; rw [Nat.zero_add]; rfl
  | succ a ih =>
    intro b m
    rw [show a + 1 + b = a + b + 1 by omega]
    exact ih b (mc_s K A B C s en m)
theorem mc_1 {K A B C : Nat → Int32} {s : Nat} {en : Nat → Nat} (b : Nat) (m : mc_M) : mc_it K A B C s en (1 + b) m = mc_it K A B C s en b (mc_s K A B C s en m) := by
  rw [mc_add]; rfl
variable {K A B C : Nat → Int32} {s : Nat} {en : Nat → Nat} {i p : Nat} {LF : Nat → Int32} {cl : Nat → Nat} {d : mc_D}
theorem mc_ne {a b : Int32} {i : Nat} (h : K i = a) (n : ¬ a = b) : ¬ K i = b := fun z => n (h.symm.trans z)
theorem mc_6 (hi : i < s) (h : K i = 6) : mc_s K A B C s en (i, p, LF, cl, d) = (if d.1 (pg_ar A i) ≤ 0 then en i + 1 else i + 1, p, LF, cl, d) := by
  show (if i < s ∧ ¬ K i = 11 then _ else _) = _
  rw [if_pos ⟨hi, mc_ne h (by decide)⟩, if_pos h]
theorem mc_7 (hi : i < s) (h : K i = 7) : mc_s K A B C s en (i, p, LF, cl, d) = (i + 1, p, upd LF i (A i), cl, d) := by
  show (if i < s ∧ ¬ K i = 11 then _ else _) = _
  rw [if_pos ⟨hi, mc_ne h (by decide)⟩, if_neg (mc_ne h (by decide)), if_pos h]
theorem mc_8l (hi : i < s) (h : K i = 8) (h7 : K (en i) = 7) : mc_s K A B C s en (i, p, LF, cl, d) = (if LF (en i) - 1 ≤ 0 then i + 1 else en i + 1, p, upd LF (en i) (LF (en i) - 1), cl, d) := by
  show (if i < s ∧ ¬ K i = 11 then _ else _) = _
  rw [if_pos ⟨hi, mc_ne h (by decide)⟩, if_neg (mc_ne h (by decide)), if_neg (mc_ne h (by decide)), if_pos h, if_pos h7]
theorem mc_8i (hi : i < s) (h : K i = 8) (h7 : ¬ K (en i) = 7) : mc_s K A B C s en (i, p, LF, cl, d) = (i + 1, p, LF, cl, d) := by
  show (if i < s ∧ ¬ K i = 11 then _ else _) = _
  rw [if_pos ⟨hi, mc_ne h (by decide)⟩, if_neg (mc_ne h (by decide)), if_neg (mc_ne h (by decide)), if_pos h, if_neg h7]
theorem mc_9 (hi : i < s) (h : K i = 9) : mc_s K A B C s en (i, p, LF, cl, d) = (pg_lb K A (pg_ar A i) s, pg_ar A i, LF, mc_u cl (pg_ar A i) (i + 1), d) := by
  show (if i < s ∧ ¬ K i = 11 then _ else _) = _
  rw [if_pos ⟨hi, mc_ne h (by decide)⟩, if_neg (mc_ne h (by decide)), if_neg (mc_ne h (by decide)), if_neg (mc_ne h (by decide)), if_pos h]
theorem mc_p (hi : i < s) (o : ¬ pg_op K i) (h8 : ¬ K i = 8) (h9 : ¬ K i = 9) (hb : ¬ K i = 11) : mc_s K A B C s en (i, p, LF, cl, d) = (i + 1, p, LF, cl, mc_d K A B C i d) := by
  show (if i < s ∧ ¬ K i = 11 then _ else _) = _
  rw [if_pos ⟨hi, hb⟩, if_neg (fun z => o (Or.inl z)), if_neg (fun z => o (Or.inr z)), if_neg h8, if_neg h9]
theorem mc_l (hi : i < s → K i = 11) (h4 : ¬ p = 4) : mc_s K A B C s en (i, p, LF, cl, d) = (cl p, pg_pw K A (cl p), LF, cl, d) := by
  show (if i < s ∧ ¬ K i = 11 then _ else _) = _
  rw [if_neg (fun z => z.2 (hi z.1))]
  show (if p = 4 then _ else _) = _
  rw [if_neg h4]
/-- what a program without fault gives -/
def mc_H (K A : Nat → Int32) (s : Nat) (en : Nat → Nat) : Prop := pg_g K A s ∧ pg_wf K s ∧ pg_nt K A s ∧ pg_nm K A s ∧ ¬ wa_rec K A s ∧ (∀ e, e < s → K e = 8 → pg_mt K (en e) e) ∧ (∀ q, q < s → pg_op K q → en q < s ∧ pg_mt K q (en q))
theorem mc_mtu {q q' e : Nat} (h : pg_mt K q e) (h' : pg_mt K q' e) : q = q' := by
  obtain ⟨a1, _, _, a4, a5⟩ := h
  obtain ⟨b1, _, _, b4, b5⟩ := h'
  rcases Nat.lt_trichotomy q q' with z | z | z
  · have := a5 q' z (by omega); omega
  · exact z
  · have := b5 q z (by omega); omega
theorem mc_nb {q e : Nat} (w : pg_wp K s) (hes : e < s) (h : pg_mt K q e) : ∀ k, q ≤ k → k < e + 1 → ¬ K k = 11 := by
  intro k h1 h2 hb
  by_cases z : k = q
  · subst z; exact (pc_k11 hb).1 h.2.1
  · have := h.2.2.2.2 k (by omega) (by omega)
    have := (w k (by omega)).1 hb
    omega
theorem mc_pwe {q e : Nat} (w : pg_wp K s) (hes : e < s) (h : pg_mt K q e) : pg_pw K A (e + 1) = pg_pw K A q :=
  pg_pw_run (e + 1) (by have := h.1; omega) (mc_nb w hes h)
theorem mc_pwq {q e : Nat} (h : pg_mt K q e) : pg_pw K A (q + 1) = pg_pw K A q :=
  pg_pw_n (fun z => (pc_k11 z).1 h.2.1)
theorem mc_pwi {q e : Nat} (w : pg_wp K s) (hes : e < s) (h : pg_mt K q e) : pg_pw K A e = pg_pw K A q :=
  pg_pw_run e (by have := h.1; omega) (fun j j1 j2 => mc_nb w hes h j j1 (by omega))
/-- what holds at every step -/
def mc_I (K A : Nat → Int32) (s : Nat) (m : mc_M) : Prop := m.1 ≤ s ∧ pg_pw K A m.1 = m.2.1 ∧ (m.2.1 = 4 ∨ m.2.2.2.1 m.2.1 ≠ 0) ∧ ∀ t, t < 4 → m.2.2.2.1 t ≠ 0 → m.2.2.2.1 t ≤ s ∧ (pg_pw K A (m.2.2.2.1 t) = 4 ∨ m.2.2.2.1 (pg_pw K A (m.2.2.2.1 t)) ≠ 0)
theorem mc_at (H : mc_H K A s en) (I : mc_I K A s (i, p, LF, cl, d)) {j : Nat} {LF' : Nat → Int32} {d' : mc_D} (hj : j ≤ s) (e : pg_pw K A j = pg_pw K A i) : mc_I K A s (j, p, LF', cl, d') :=
  ⟨hj, e.trans I.2.1, I.2.2.1, I.2.2.2⟩
theorem mc_I_s (H : mc_H K A s en) (I : mc_I K A s (i, p, LF, cl, d)) : mc_I K A s (mc_s K A B C s en (i, p, LF, cl, d)) := by
  have G := H.1
  have w := H.2.1.1
  by_cases z : i < s ∧ ¬ K i = 11
  · obtain ⟨hi, hb⟩ := z
    have nx : pg_pw K A (i + 1) = pg_pw K A i := pg_pw_n hb
    by_cases k6 : K i = 6
    · obtain ⟨h1, h2⟩ := H.2.2.2.2.2.2 i hi (Or.inl k6)
      rw [mc_6 hi k6]
      by_cases y : d.1 (pg_ar A i) ≤ 0
      · rw [if_pos y]; exact mc_at H I (by omega) (mc_pwe w h1 h2)
      · rw [if_neg y]; exact mc_at H I (by omega) nx
    by_cases k7 : K i = 7
    · rw [mc_7 hi k7]; exact mc_at H I (by omega) nx
    by_cases k8 : K i = 8
    · have h2 := H.2.2.2.2.2.1 i hi k8
      by_cases y : K (en i) = 7
      · rw [mc_8l hi k8 y]
        by_cases x : LF (en i) - 1 ≤ 0
        · rw [if_pos x]; exact mc_at H I (by omega) nx
        · rw [if_neg x]
          exact mc_at H I (by have := h2.1; omega) ((mc_pwq h2).trans (mc_pwi w hi h2).symm)
      · rw [mc_8i hi k8 y]; exact mc_at H I (by omega) nx
    by_cases k9 : K i = 9
    · rw [mc_9 hi k9]
      have a4 := ((G i hi).2.1 (Or.inl k9)).1
      have nz := H.2.2.2.1 i hi k9
      have hb' := pg_lb_b s nz
      have hl := pg_lb_le (K := K) (A := A) (t := pg_ar A i) s
      have e : pg_pw K A (pg_lb K A (pg_ar A i) s) = pg_ar A i := by
        obtain ⟨f, hf⟩ : ∃ f, pg_lb K A (pg_ar A i) s = f + 1 := ⟨pg_lb K A (pg_ar A i) s - 1, by omega⟩
        rw [hf] at hb' ⊢
        simp only [Nat.add_sub_cancel] at hb'
        rw [pg_pw_b hb'.1]; exact hb'.2
      have nn : ∀ x, (x = 4 ∨ cl x ≠ 0) → x = 4 ∨ mc_u cl (pg_ar A i) (i + 1) x ≠ 0 := by
        intro x hx
        by_cases y : x = pg_ar A i
        · subst y; rw [mc_us]; exact Or.inr (by omega)
        · rw [mc_un y]; exact hx
      refine ⟨hl, e, Or.inr (by show mc_u cl (pg_ar A i) (i + 1) (pg_ar A i) ≠ 0; rw [mc_us]; omega), ?_⟩
      intro t ht
      show mc_u cl (pg_ar A i) (i + 1) t ≠ 0 → mc_u cl (pg_ar A i) (i + 1) t ≤ s ∧ (pg_pw K A (mc_u cl (pg_ar A i) (i + 1) t) = 4 ∨ mc_u cl (pg_ar A i) (i + 1) (pg_pw K A (mc_u cl (pg_ar A i) (i + 1) t)) ≠ 0)
      by_cases y : t = pg_ar A i
      · subst y; rw [mc_us]; intro _
        refine ⟨by omega, nn _ ?_⟩
        rw [nx, show pg_pw K A i = p from I.2.1]; exact I.2.2.1
      · rw [mc_un y]; intro hx
        have J := I.2.2.2 t ht hx
        exact ⟨J.1, nn _ J.2⟩
    · rw [mc_p hi (fun x => x.elim k6 k7) k8 k9 hb]; exact mc_at H I (by omega) nx
  · by_cases h4 : p = 4
    · rw [mc_h_s ⟨z, h4⟩]; exact I
    · have hx : cl p ≠ 0 := (show p = 4 ∨ cl p ≠ 0 from I.2.2.1).resolve_left h4
      rw [mc_l (fun y => Classical.byContradiction fun x => z ⟨y, x⟩) h4]
      have hp := pg_pw4 G i I.1
      rw [show pg_pw K A i = p from I.2.1] at hp
      have J := I.2.2.2 p (by omega) hx
      exact ⟨J.1, rfl, J.2, I.2.2.2⟩
end MC
