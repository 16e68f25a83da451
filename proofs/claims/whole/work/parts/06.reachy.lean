section WY
/-! the reference's closure -/
theorem wy_rec {pc : Int32} {K A B C SV VR CE KP LF cl rc : Nat → Int32} {wy tm : Nat → Int64} {s : Nat} (hs : s ≤ 48) (g : pg_g K A s) {post : Int32 → SY → Prop}
    (hT : wa_rec K A s → ∀ rc, post 1 ((nI s), pc, K, A, B, C, SV, VR, CE, KP, LF, cl, rc, wy, tm)) (hF : ¬ wa_rec K A s → ∀ rc, post 0 ((nI s), pc, K, A, B, C, SV, VR, CE, KP, LF, cl, rc, wy, tm)) : wpY_recursive post ((nI s), pc, K, A, B, C, SV, VR, CE, KP, LF, cl, rc, wy, tm) := by
  have H150 : ∀ rc, wa_snd (wa_dc K A s) rc → wa_cmp (wa_dc K A s) rc 4 4 → ∀ d t, t + d = 4 → (∀ j, j < t → ¬ wa_P (wa_dc K A s) 4 j j) → wY_recursive_150 post (nI s) pc K A B C SV VR CE KP LF cl rc wy tm (d + 1) (nI t) := by
    intro rc S Cm d
    induction d with
    | zero =>
      intro t ht h
      refine br_t (nI_le (a := 4) (by omega) (by omega)) (hF ?_ rc)
      rintro ⟨j, a, b⟩
      exact h j (by omega) b
    | succ d ih =>
      intro t ht h
      have hc : (nI t).toNatClampNeg = t := nb_cl (by omega)
      refine br_f (nI_ge (b := 4) (by omega) (by omega)) ⟨vp_in_nI (by omega) (by omega), ?_⟩
      rw [hc]
      by_cases z : wa_b rc t t
      · exact br_t ((nb_bY _ (by omega)).mpr z) (hT ⟨t, by omega, S t t (by omega) (by omega) z⟩ rc)
      · refine br_f (fun y => z ((nb_bY _ (by omega)).mp y)) (nm_r (nI_1 t) (ih (t + 1) (by omega) ?_))
        intro j hj x
        by_cases y : j = t
        · subst y; exact z (Cm j j (by omega) (by omega) x)
        · exact h j (by omega) x
  have H87 : ∀ v J, v < 4 → (∀ rc, wa_snd (wa_dc K A s) rc → wa_cmp (wa_dc K A s) rc (v + 1) 4 → J (nI (v + 1)) K A B C SV VR CE KP LF cl rc wy tm) → ∀ d f, f + d = 16 → ∀ rc, wa_snd (wa_dc K A s) rc → wa_cmp (wa_dc K A s) rc v 4 → wa_cmp (wa_dc K A s) rc (v + 1) (f / 4) →
      (v < f % 4 → ∀ t, t < 4 → wa_P (wa_dc K A s) (v + 1) (f / 4) t → wa_b rc (f / 4) t) →
      wY_recursive_87 post J (nI v) (nI s) pc (d + 1) (nI f) K A B C SV VR CE KP LF cl rc wy tm := by
    intro v J hv hJ d
    induction d with
    | zero =>
      intro f hf rc S C1 C2 _
      have e : f = 16 := by omega
      subst e
      exact br_t (nI_le (a := 16) (by omega) (by omega)) (nm_r (nI_1 v) (hJ rc S C2))
    | succ d ih =>
      intro f hf rc S C1 C2 C3
      have e1 : nI f >>> ((2 : Int32) &&& 31) = nI (f / 4) := pk_shrN (n := f) (by omega) _ 2 (by decide)
      have e2 : nI f &&& 3 = nI (f % 4) := pk_andN (n := f) (by omega) 2 (by decide)
      have hp : f / 4 < 4 := by omega
      have hq : f % 4 < 4 := by omega
      have hc1 : (nI (f / 4)).toNatClampNeg = f / 4 := nb_cl (by omega)
      have hc2 : (nI (f % 4)).toNatClampNeg = f % 4 := nb_cl (by omega)
      have hi1 : vp_in (nI (f / 4)) 4 := vp_in_nI (by omega) (by omega)
      have hi2 : vp_in (nI (f % 4)) 4 := vp_in_nI (by omega) (by omega)
      have NX : ∀ rc', wa_st rc rc' (f / 4) (f % 4) → wY_recursive_87 post J (nI v) (nI s) pc (d + 1) (nI (f + 1)) K A B C SV VR CE KP LF cl rc' wy tm := by
        intro rc' T
        have C1' := wa_cmp_s C1 T
        have RW : v ≤ f % 4 → ∀ t, t < 4 → wa_P (wa_dc K A s) (v + 1) (f / 4) t → wa_b rc' (f / 4) t := by
          intro hv' t ht x
          by_cases z : v = f % 4
          · rw [← z] at T
            exact wa_row hp hv C1 T t ht x
          · exact T.1 _ t (C3 (by omega) t ht x)
        refine ih (f + 1) (by omega) rc' (wa_snd_s hq S T) C1' ?_ ?_
        · intro x t hx ht y
          by_cases z : x < f / 4
          · exact T.1 x t (C2 x t z ht y)
          · have e : x = f / 4 := by omega
            subst e
            exact RW (by omega) t ht y
        · intro hv' t ht y
          have e : (f + 1) / 4 = f / 4 := by omega
          rw [e] at y ⊢
          exact RW (by omega) t ht y
      refine br_f (nI_ge (b := 16) (by omega) (by omega)) ?_
      rw [e1, e2, hc1]
      refine ⟨hi1, ?_⟩
      by_cases z : wa_b rc (f / 4) (f % 4)
      · refine br_t ((nb_bY _ (by omega)).mpr z) ⟨hi1, hi2, hi1, ?_⟩
        refine nm_r (e' := upd rc (f / 4) (rc (f / 4) ||| rc (f % 4))) (by rw [hc2]) (nm_r (nI_1 f) ?_)
        exact NX _ (wa_st_t z)
      · refine br_f (fun y => z ((nb_bY _ (by omega)).mp y)) (nm_r (nI_1 f) ?_)
        exact NX _ (wa_st_f z)
  have H80 : ∀ d v, v + d = 4 → ∀ rc, wa_snd (wa_dc K A s) rc → wa_cmp (wa_dc K A s) rc v 4 → wY_recursive_80 post (nI s) pc (d + 1) (nI v) K A B C SV VR CE KP LF cl rc wy tm := by
    intro d
    induction d with
    | zero =>
      intro v hv rc S C1
      have e : v = 4 := by omega
      subst e
      exact br_t (nI_le (a := 4) (by omega) (by omega)) ⟨5, H150 rc S C1 4 0 rfl (fun j hj => absurd hj (Nat.not_lt_zero _))⟩
    | succ d ih =>
      intro v hv rc S C1
      refine br_f (nI_ge (b := 4) (by omega) (by omega)) ⟨17, ?_⟩
      exact H87 v _ (by omega) (fun rc' S' C' => ih (v + 1) (by omega) rc' S' C') 16 0 rfl rc S C1 (fun x t hx => absurd hx (Nat.not_lt_zero _)) (fun h => absurd h (Nat.not_lt_zero _))
  have H22 : ∀ d i, i + d = s → ∀ rc, (∀ p t, p < 4 → t < 4 → (wa_b rc p t ↔ wa_dc K A i p t)) → wY_recursive_22 post (nI s) pc (d + 1) (nI i) K A B C SV VR CE KP LF cl rc wy tm := by
    intro d
    induction d with
    | zero =>
      intro i hi rc hr
      have e : i = s := by omega
      subst e
      refine br_t (nI_le (Nat.le_refl _) (by omega)) ⟨5, H80 4 0 rfl rc ?_ ?_⟩
      · intro x t hx ht hb
        exact wa_up 0 4 (by omega) ((hr x t (by omega) ht).mp hb)
      · intro x t hx ht hp
        exact (hr x t (by omega) ht).mpr hp
    | succ d ih =>
      intro i hi rc hr
      have his : i < s := by omega
      have hc : (nI i).toNatClampNeg = i := nb_c48 his hs
      have hin : vp_in (nI i) 48 := vp_in_nI (by omega) (by omega)
      have hp4 := pg_pw4 g (i + 1) (by omega)
      refine br_f (nI_ge his (by omega)) ?_
      refine yw_pieceOf hs his g ⟨hin, ?_⟩
      by_cases b : K i = 9
      · obtain ⟨a4, ea⟩ := (g i his).2.1 (Or.inl b)
        refine br_t (by rw [hc]; exact b) ?_
        by_cases z : pg_pw K A (i + 1) = 4
        · refine br_t (by unfold yw_p; rw [if_pos z]; decide) (nm_r (nI_1 i) (ih (i + 1) (by omega) rc ?_))
          intro p t hp ht
          rw [wa_dcy b, ← hr p t hp ht]
          exact ⟨fun x => Or.inl x, fun x => x.elim id (fun y => by omega)⟩
        · have e : yw_p (pg_pw K A (i + 1)) = nI (pg_pw K A (i + 1)) := if_neg z
          have hcp : (nI (pg_pw K A (i + 1))).toNatClampNeg = pg_pw K A (i + 1) := nb_cl (by omega)
          have hi4 : vp_in (nI (pg_pw K A (i + 1))) 4 := vp_in_nI (by omega) (by omega)
          rw [e]
          refine br_f (nI_pos (by omega)) ⟨hi4, hin, hi4, ?_⟩
          refine nm_r (e' := upd rc (pg_pw K A (i + 1)) (rc (pg_pw K A (i + 1)) ||| ((1 : Int32) <<< (nI (pg_ar A i) &&& 31)))) (by rw [hcp, hc, ← ea]) ?_
          refine nm_r (nI_1 i) (ih (i + 1) (by omega) _ ?_)
          intro p t hp ht
          exact wa_nd b a4 ht (hr p t hp ht)
      · refine br_f (by rw [hc]; exact b) (nm_r (nI_1 i) (ih (i + 1) (by omega) rc ?_))
        intro p t hp ht
        exact (hr p t hp ht).trans (wa_dcn b).symm
  have H2 : ∀ d p, p + d = 4 → ∀ rc, (∀ j, j < p → rc j = 0) → wY_recursive_2 post (nI s) pc (d + 1) (nI p) K A B C SV VR CE KP LF cl rc wy tm := by
    intro d
    induction d with
    | zero =>
      intro p hp rc hr
      refine br_t (nI_le (a := 4) (by omega) (by omega)) ⟨s + 1, H22 s 0 (by omega) rc ?_⟩
      intro x t hx ht
      show bt (rc x) t = true ↔ _
      rw [hr x (by omega), b_0]
      exact ⟨fun z => absurd z (by decide), fun ⟨j, a, _⟩ => absurd a (Nat.not_lt_zero _)⟩
    | succ d ih =>
      intro p hp rc hr
      refine br_f (nI_ge (b := 4) (by omega) (by omega)) ⟨vp_in_nI (by omega) (by omega), ?_⟩
      refine nm_r (e' := upd rc p 0) (by rw [nb_cl (by omega)]) (nm_r (nI_1 p) (ih (p + 1) (by omega) _ ?_))
      intro j hj
      by_cases y : j = p
      · rw [y, pk_us]
      · rw [pk_un y]; exact hr j (by omega)
  exact ⟨5, H2 4 0 rfl rc (fun j hj => absurd hj (Nat.not_lt_zero _))⟩
/-! without recursion: calls go down -/
def wd_D (K A : Nat → Int32) (s : Nat) : Nat → Nat → Prop
  | 0, _ => False
  | k + 1, p => ∀ t, wa_dc K A s p t → wd_D K A s k t
theorem wd_mono1 {K A : Nat → Int32} {s : Nat} : ∀ k p, wd_D K A s k p → wd_D K A s (k + 1) p := by
  intro k
  induction k with
  | zero => intro p h; exact h.elim
  | succ k ih => intro p h t ht; exact ih t (h t ht)
theorem wd_mono {K A : Nat → Int32} {s p k : Nat} : ∀ m, k ≤ m → wd_D K A s k p → wd_D K A s m p := by
  intro m
  induction m with
  | zero => intro h x; rw [show k = 0 by omega] at x; exact x
  | succ m ih =>
    intro h x
    by_cases z : k = m + 1
    · rw [← z]; exact x
    · exact wd_mono1 m p (ih (by omega) x)
theorem wd_no {K A : Nat → Int32} {s k p : Nat} (h : ¬ wd_D K A s (k + 1) p) : ∃ t, wa_dc K A s p t ∧ ¬ wd_D K A s k t :=
  Classical.byContradiction fun z => h fun t ht => Classical.byContradiction fun y => z ⟨t, ht, y⟩
theorem wd_dc4 {K A : Nat → Int32} {s p t : Nat} (g : pg_g K A s) (h : wa_dc K A s p t) : t < 4 := by
  obtain ⟨i, a, b, c, d⟩ := h
  rw [← d]; exact ((g i a).2.1 (Or.inl b)).1
theorem wd_pig {a b c d e : Nat} (ha : a < 4) (hb : b < 4) (hc : c < 4) (hd : d < 4) (he : e < 4) : a = b ∨ a = c ∨ a = d ∨ a = e ∨ b = c ∨ b = d ∨ b = e ∨ c = d ∨ c = e ∨ d = e := by
  omega
theorem wd_all {K A : Nat → Int32} {s : Nat} (g : pg_g K A s) (h : ¬ wa_rec K A s) : ∀ p, p < 4 → wd_D K A s 4 p := by
  intro a ha
  apply Classical.byContradiction
  intro n
  obtain ⟨b, h1, n1⟩ := wd_no n
  obtain ⟨c, h2, n2⟩ := wd_no n1
  obtain ⟨d, h3, n3⟩ := wd_no n2
  obtain ⟨e, h4, _⟩ := wd_no n3
  have hb := wd_dc4 g h1
  have hc := wd_dc4 g h2
  have hd := wd_dc4 g h3
  have he := wd_dc4 g h4
  have U : ∀ x y, wa_dc K A s x y → wa_P (wa_dc K A s) 4 x y := fun x y z => wa_up 0 4 (by omega) z
  have T : ∀ x m y, m < 4 → wa_P (wa_dc K A s) 4 x m → wa_P (wa_dc K A s) 4 m y → wa_P (wa_dc K A s) 4 x y := fun x m y hm p q => wa_tr 4 m x y hm p q
  have ab := U _ _ h1
  have bc := U _ _ h2
  have cd := U _ _ h3
  have de := U _ _ h4
  have ac := T _ _ _ hb ab bc
  have bd := T _ _ _ hc bc cd
  have ce := T _ _ _ hd cd de
  have ad := T _ _ _ hc ac cd
  have be := T _ _ _ hd bd de
  have ae := T _ _ _ hd ad de
  apply h
  rcases wd_pig ha hb hc hd he with z | z | z | z | z | z | z | z | z | z
  · exact ⟨a, ha, by rw [← z] at ab; exact ab⟩
  · exact ⟨a, ha, by rw [← z] at ac; exact ac⟩
  · exact ⟨a, ha, by rw [← z] at ad; exact ad⟩
  · exact ⟨a, ha, by rw [← z] at ae; exact ae⟩
  · exact ⟨b, hb, by rw [← z] at bc; exact bc⟩
  · exact ⟨b, hb, by rw [← z] at bd; exact bd⟩
  · exact ⟨b, hb, by rw [← z] at be; exact be⟩
  · exact ⟨c, hc, by rw [← z] at cd; exact cd⟩
  · exact ⟨c, hc, by rw [← z] at ce; exact ce⟩
  · exact ⟨d, hd, by rw [← z] at de; exact de⟩
theorem wd_all5 {K A : Nat → Int32} {s : Nat} (g : pg_g K A s) (h : ¬ wa_rec K A s) (p : Nat) : wd_D K A s 5 p :=
  fun t ht => wd_all g h t (wd_dc4 g ht)
end WY
