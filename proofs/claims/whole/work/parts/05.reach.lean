section WA
/-! who calls whom: the closure over the four subroutines -/
def wa_dc (K A : Nat → Int32) (s p t : Nat) : Prop := ∃ i, i < s ∧ K i = 9 ∧ pg_pw K A (i + 1) = p ∧ pg_ar A i = t
def wa_P (R : Nat → Nat → Prop) : Nat → Nat → Nat → Prop
  | 0, p, t => R p t
  | k + 1, p, t => wa_P R k p t ∨ (wa_P R k p k ∧ wa_P R k k t)
theorem wa_tr {R : Nat → Nat → Prop} : ∀ k m p t, m < k → wa_P R k p m → wa_P R k m t → wa_P R k p t := by
  intro k
  induction k with
  | zero => intro m p t h; omega
  | succ k ih =>
    intro m p t hm h1 h2
    by_cases z : m = k
    · subst z
      refine Or.inr ⟨?_, ?_⟩
      · rcases h1 with h | h
        · exact h
        · exact h.1
      · rcases h2 with h | h
        · exact h
        · exact h.2
    · have hk : m < k := by omega
      rcases h1 with a | ⟨a, b⟩ <;> rcases h2 with c | ⟨c, d⟩
      · exact Or.inl (ih m p t hk a c)
      · exact Or.inr ⟨ih m p k hk a c, d⟩
      · exact Or.inr ⟨a, ih m k t hk b c⟩
      · exact Or.inr ⟨a, d⟩
theorem wa_up {R : Nat → Nat → Prop} {p t : Nat} : ∀ k m, k ≤ m → wa_P R k p t → wa_P R m p t := by
  intro k m
  induction m with
  | zero => intro h x; rw [show k = 0 by omega] at x; exact x
  | succ m ih =>
    intro h x
    by_cases z : k = m + 1
    · rw [z] at x; exact x
    · exact Or.inl (ih (by omega) x)
abbrev wa_b (re : Nat → Int32) (p t : Nat) : Prop := bt (re p) t = true
/-- one turn of a closure: row p takes row q, if it has q -/
def wa_st (re re' : Nat → Int32) (p q : Nat) : Prop :=
  (∀ x t, wa_b re x t → wa_b re' x t) ∧ (∀ t, wa_b re p q → wa_b re q t → wa_b re' p t) ∧ (∀ x t, wa_b re' x t → wa_b re x t ∨ (x = p ∧ wa_b re p q ∧ wa_b re q t))
theorem wa_st_t {re : Nat → Int32} {p q : Nat} (h : wa_b re p q) : wa_st re (upd re p (re p ||| re q)) p q := by
  have e : ∀ t, bt (upd re p (re p ||| re q) p) t = (bt (re p) t || bt (re q) t) := by intro t; rw [pk_us, b_or]
  refine ⟨?_, ?_, ?_⟩
  · intro x t hx
    by_cases z : x = p
    · subst z; show bt _ t = true; rw [e t, hx]; rfl
    · show bt _ t = true; rw [pk_un z]; exact hx
  · intro t _ ht
    show bt _ t = true; rw [e t, ht, Bool.or_true]
  · intro x t hx
    by_cases z : x = p
    · subst z
      have hx' : bt _ t = true := hx
      rw [e t, Bool.or_eq_true] at hx'
      rcases hx' with y | y
      · exact Or.inl y
      · exact Or.inr ⟨rfl, h, y⟩
    · have hx' : bt _ t = true := hx
      rw [pk_un z] at hx'
      exact Or.inl hx'
theorem wa_st_f {re : Nat → Int32} {p q : Nat} (h : ¬ wa_b re p q) : wa_st re re p q :=
  ⟨fun _ _ x => x, fun _ x _ => absurd x h, fun _ _ x => Or.inl x⟩
def wa_snd (R : Nat → Nat → Prop) (re : Nat → Int32) : Prop := ∀ x t, x < 4 → t < 4 → wa_b re x t → wa_P R 4 x t
def wa_cmp (R : Nat → Nat → Prop) (re : Nat → Int32) (v n : Nat) : Prop := ∀ x t, x < n → t < 4 → wa_P R v x t → wa_b re x t
theorem wa_snd_s {R : Nat → Nat → Prop} {re re' : Nat → Int32} {p q : Nat} (hq : q < 4) (h : wa_snd R re) (S : wa_st re re' p q) : wa_snd R re' := by
  intro x t hx ht hb
  rcases S.2.2 x t hb with y | ⟨y, a, b⟩
  · exact h x t hx ht y
  · subst y; exact wa_tr 4 q x t hq (h x q hx hq a) (h q t hq ht b)
theorem wa_cmp_s {R : Nat → Nat → Prop} {re re' : Nat → Int32} {p q v n : Nat} (h : wa_cmp R re v n) (S : wa_st re re' p q) : wa_cmp R re' v n :=
  fun x t hx ht hp => S.1 x t (h x t hx ht hp)
theorem wa_row {R : Nat → Nat → Prop} {re re' : Nat → Int32} {p v : Nat} (hp : p < 4) (hv : v < 4) (h : wa_cmp R re v 4) (S : wa_st re re' p v) : ∀ t, t < 4 → wa_P R (v + 1) p t → wa_b re' p t := by
  intro t ht x
  rcases x with y | ⟨a, b⟩
  · exact S.1 p t (h p t hp ht y)
  · exact S.2.1 t (h p v hp hv a) (h v t hv ht b)
theorem wa_cmp_x {R : Nat → Nat → Prop} {re re' : Nat → Int32} {v f : Nat} (hf : f < 4) (hv : v < 4) (h : wa_cmp R re v 4) (h' : wa_cmp R re (v + 1) f) (S : wa_st re re' f v) : wa_cmp R re' (v + 1) (f + 1) := by
  intro x t hx ht hp
  by_cases z : x = f
  · subst z; exact wa_row hf hv h S t ht hp
  · exact S.1 x t (h' x t (by omega) ht hp)
theorem wa_dcy {K A : Nat → Int32} {i p t : Nat} (b : K i = 9) : wa_dc K A (i + 1) p t ↔ wa_dc K A i p t ∨ (p = pg_pw K A (i + 1) ∧ t = pg_ar A i) := by
  constructor
  · rintro ⟨j, a1, a2, a3, a4⟩
    by_cases z : j = i
    · subst z; exact Or.inr ⟨a3.symm, a4.symm⟩
    · exact Or.inl ⟨j, by omega, a2, a3, a4⟩
  · rintro (⟨j, a1, a2, a3, a4⟩ | ⟨z, y⟩)
    · exact ⟨j, by omega, a2, a3, a4⟩
    · exact ⟨i, by omega, b, z.symm, y.symm⟩
theorem wa_dcn {K A : Nat → Int32} {i p t : Nat} (b : ¬ K i = 9) : wa_dc K A (i + 1) p t ↔ wa_dc K A i p t := by
  constructor
  · rintro ⟨j, a1, a2, a3, a4⟩
    by_cases z : j = i
    · rw [z] at a2; exact absurd a2 b
    · exact ⟨j, by omega, a2, a3, a4⟩
  · rintro ⟨j, a1, a2, a3, a4⟩; exact ⟨j, by omega, a2, a3, a4⟩
theorem wa_nb {re : Nat → Int32} {p q t a : Nat} (ha : a < 32) (ht : t < 32) : wa_b (upd re q (re q ||| ((1 : Int32) <<< (nI a &&& 31)))) p t ↔ wa_b re p t ∨ (p = q ∧ t = a) := by
  show bt _ t = true ↔ bt _ t = true ∨ _
  by_cases y : p = q
  · subst y
    rw [pk_us, b_or, Bool.or_eq_true, nb_one ha ht, decide_eq_true_eq]
    constructor
    · rintro (z | z)
      · exact Or.inl z
      · exact Or.inr ⟨rfl, z⟩
    · rintro (z | z)
      · exact Or.inl z
      · exact Or.inr z.2
  · rw [pk_un y]
    exact ⟨fun z => Or.inl z, fun z => z.elim id (fun x => absurd x.1 y)⟩
theorem wa_nd {K A re : Nat → Int32} {i p t : Nat} (b : K i = 9) (a4 : pg_ar A i < 4) (ht : t < 4) (h : wa_b re p t ↔ wa_dc K A i p t) :
    wa_b (upd re (pg_pw K A (i + 1)) (re (pg_pw K A (i + 1)) ||| ((1 : Int32) <<< (nI (pg_ar A i) &&& 31)))) p t ↔ wa_dc K A (i + 1) p t := by
  rw [wa_nb (by omega) (by omega), wa_dcy b, ← h]
/-! X -/
theorem wx_reaches {pc cp : Int32} {K A B C SV VR CE KP oa pa ow ba re : Nat → Int32} {ps wt : Nat → Int64} {LF rt co : Nat → Int32} {s f v : Nat} (hf : f < 5) (hv : v < 4) {post : Int32 → Prop} (h1 : wa_b re f v → post 1) (h0 : ¬ wa_b re f v → post 0) : wpX_reaches post ((nI s), pc, cp, K, A, B, C, SV, VR, CE, KP, oa, pa, ow, ba, re, ps, wt, LF, rt, co) (nI f) (nI v) := by
  have hc : (nI f).toNatClampNeg = f := nb_cl (by omega)
  refine ⟨vp_in_nI hf (by omega), ?_⟩
  rw [hc]
  by_cases b : bt (re f) v = true
  · exact br_f (fun z => by rw [nb_bX _ (by omega), b] at z; exact absurd z (by decide)) (h1 b)
  · exact br_t ((nb_bX _ (by omega)).mpr (by simpa using b)) (h0 b)
theorem wx_ndc {pc cp : Int32} {K A B C SV VR CE KP oa pa ow ba : Nat → Int32} {ps wt : Nat → Int64} {LF rt co : Nat → Int32} {s : Nat} (hs : s ≤ 48) (g : pg_g K A s) (how : ∀ j, j < s → ow j = nI (pg_pw K A (j + 1))) {post : SX → Prop}
    (h : ∀ re, (∀ p t, p < 5 → t < 4 → (wa_b re p t ↔ wa_dc K A s p t)) → post ((nI s), pc, cp, K, A, B, C, SV, VR, CE, KP, oa, pa, ow, ba, re, ps, wt, LF, rt, co)) : ∀ re, wpX_noteDirectCalls post ((nI s), pc, cp, K, A, B, C, SV, VR, CE, KP, oa, pa, ow, ba, re, ps, wt, LF, rt, co) := by
  have H22 : ∀ d i, i + d = s → ∀ re, (∀ p t, p < 5 → t < 4 → (wa_b re p t ↔ wa_dc K A i p t)) → wX_noteDirectCalls_22 post (nI s) pc cp (d + 1) (nI i) K A B C SV VR CE KP oa pa ow ba re ps wt LF rt co := by
    intro d
    induction d with
    | zero =>
      intro i hi re hr
      have e : i = s := by omega
      subst e
      exact br_t (nI_le (Nat.le_refl _) (by omega)) (h re hr)
    | succ d ih =>
      intro i hi re hr
      have his : i < s := by omega
      have hc : (nI i).toNatClampNeg = i := nb_c48 his hs
      have hin : vp_in (nI i) 48 := vp_in_nI (by omega) (by omega)
      have hp4 := pg_pw4 g (i + 1) (by omega)
      refine br_f (nI_ge his (by omega)) ⟨hin, ?_⟩
      by_cases b : K i = 9
      · obtain ⟨a4, ea⟩ := (g i his).2.1 (Or.inl b)
        have ho : ow (nI i).toNatClampNeg = nI (pg_pw K A (i + 1)) := by rw [hc]; exact how i his
        have hcp : (nI (pg_pw K A (i + 1))).toNatClampNeg = pg_pw K A (i + 1) := nb_cl (by omega)
        have hin5 : vp_in (ow (nI i).toNatClampNeg) 5 := by rw [ho]; exact vp_in_nI (by omega) (by omega)
        refine br_t (by rw [hc]; exact b) ⟨hin, hin5, hin, hin5, ?_⟩
        refine nm_r (e' := upd re (pg_pw K A (i + 1)) (re (pg_pw K A (i + 1)) ||| ((1 : Int32) <<< (nI (pg_ar A i) &&& 31)))) (by rw [ho, hcp, hc, ← ea]) ?_
        refine nm_r (nI_1 i) (ih (i + 1) (by omega) _ ?_)
        intro p t hp ht
        exact wa_nd b a4 ht (hr p t hp ht)
      · refine br_f (by rw [hc]; exact b) (nm_r (nI_1 i) (ih (i + 1) (by omega) re ?_))
        intro p t hp ht
        exact (hr p t hp ht).trans (wa_dcn b).symm
  have H2 : ∀ d p, p + d = 5 → ∀ re, (∀ j, j < p → re j = 0) → wX_noteDirectCalls_2 post (nI s) pc cp (d + 1) (nI p) K A B C SV VR CE KP oa pa ow ba re ps wt LF rt co := by
    intro d
    induction d with
    | zero =>
      intro p hp re hr
      refine br_t (nI_le (a := 5) (by omega) (by omega)) ⟨s + 1, H22 s 0 (by omega) re ?_⟩
      intro x t hx ht
      show bt (re x) t = true ↔ _
      rw [hr x (by omega), b_0]
      exact ⟨fun z => absurd z (by decide), fun ⟨j, a, _⟩ => absurd a (Nat.not_lt_zero _)⟩
    | succ d ih =>
      intro p hp re hr
      refine br_f (nI_ge (b := 5) (by omega) (by omega)) ⟨vp_in_nI (by omega) (by omega), ?_⟩
      refine nm_r (e' := upd re p 0) (by rw [nb_cl (by omega)]) (nm_r (nI_1 p) (ih (p + 1) (by omega) _ ?_))
      intro j hj
      by_cases y : j = p
      · rw [y, pk_us]
      · rw [pk_un y]; exact hr j (by omega)
  exact fun re => ⟨6, H2 5 0 rfl re (fun j hj => absurd hj (Nat.not_lt_zero _))⟩
/-- some subroutine reaches itself -/
def wa_rec (K A : Nat → Int32) (s : Nat) : Prop := ∃ t, t < 4 ∧ wa_P (wa_dc K A s) 4 t t
theorem wx_rec {pc cp : Int32} {K A B C SV VR CE KP oa pa ow ba re : Nat → Int32} {ps wt : Nat → Int64} {LF rt co : Nat → Int32} {s : Nat} (hs : s ≤ 48) (g : pg_g K A s) (how : ∀ j, j < s → ow j = nI (pg_pw K A (j + 1))) {post : Int32 → SX → Prop}
    (hT : wa_rec K A s → ∀ re, post 1 ((nI s), pc, cp, K, A, B, C, SV, VR, CE, KP, oa, pa, ow, ba, re, ps, wt, LF, rt, co)) (hF : ¬ wa_rec K A s → ∀ re, post 0 ((nI s), pc, cp, K, A, B, C, SV, VR, CE, KP, oa, pa, ow, ba, re, ps, wt, LF, rt, co)) : wpX_someSubroutineReachesItself post ((nI s), pc, cp, K, A, B, C, SV, VR, CE, KP, oa, pa, ow, ba, re, ps, wt, LF, rt, co) := by
  have H56 : ∀ re, wa_snd (wa_dc K A s) re → wa_cmp (wa_dc K A s) re 4 4 → ∀ d t, t + d = 4 → (∀ j, j < t → ¬ wa_P (wa_dc K A s) 4 j j) → wX_someSubroutineReachesItself_56 post (nI s) pc cp K A B C SV VR CE KP oa pa ow ba re ps wt LF rt co (d + 1) (nI t) := by
    intro re S Cm d
    induction d with
    | zero =>
      intro t ht h
      refine br_t (nI_le (a := 4) (by omega) (by omega)) (hF ?_ re)
      rintro ⟨j, a, b⟩
      exact h j (by omega) b
    | succ d ih =>
      intro t ht h
      refine br_f (nI_ge (b := 4) (by omega) (by omega)) ?_
      refine wx_reaches (by omega) (by omega) (fun z => ?_) (fun z => ?_)
      · exact br_f (by decide) (hT ⟨t, by omega, S t t (by omega) (by omega) z⟩ re)
      · refine br_t rfl (nm_r (nI_1 t) (ih (t + 1) (by omega) ?_))
        intro j hj x
        by_cases y : j = t
        · subst y; exact z (Cm j j (by omega) (by omega) x)
        · exact h j (by omega) x
  have H13 : ∀ v J, v < 4 → (∀ re, wa_snd (wa_dc K A s) re → wa_cmp (wa_dc K A s) re (v + 1) 4 → J (nI (v + 1)) K A B C SV VR CE KP oa pa ow ba re ps wt LF rt co) → ∀ d f, f + d = 4 → ∀ re, wa_snd (wa_dc K A s) re → wa_cmp (wa_dc K A s) re v 4 → wa_cmp (wa_dc K A s) re (v + 1) f →
      wX_someSubroutineReachesItself_13 post J (nI v) (nI s) pc cp (d + 1) (nI f) K A B C SV VR CE KP oa pa ow ba re ps wt LF rt co := by
    intro v J hv hJ d
    induction d with
    | zero =>
      intro f hf re S C1 C2
      have e : f = 4 := by omega
      subst e
      exact br_t (nI_le (a := 4) (by omega) (by omega)) (nm_r (nI_1 v) (hJ re S C2))
    | succ d ih =>
      intro f hf re S C1 C2
      have hcf : (nI f).toNatClampNeg = f := nb_cl (by omega)
      have hcv : (nI v).toNatClampNeg = v := nb_cl (by omega)
      refine br_f (nI_ge (b := 4) (by omega) (by omega)) ?_
      refine wx_reaches (by omega) (by omega) (fun z => ?_) (fun z => ?_)
      · refine br_f (by decide) ⟨vp_in_nI (by omega) (by omega), vp_in_nI (by omega) (by omega), vp_in_nI (by omega) (by omega), ?_⟩
        refine nm_r (e' := upd re f (re f ||| re v)) (by rw [hcf, hcv]) (nm_r (nI_1 f) ?_)
        have T := wa_st_t z
        exact ih (f + 1) (by omega) _ (wa_snd_s hv S T) (wa_cmp_s C1 T) (wa_cmp_x (by omega) hv C1 C2 T)
      · refine br_t rfl (nm_r (nI_1 f) ?_)
        have T := wa_st_f z
        exact ih (f + 1) (by omega) _ (wa_snd_s hv S T) (wa_cmp_s C1 T) (wa_cmp_x (by omega) hv C1 C2 T)
  have H6 : ∀ d v, v + d = 4 → ∀ re, wa_snd (wa_dc K A s) re → wa_cmp (wa_dc K A s) re v 4 → wX_someSubroutineReachesItself_6 post (nI s) pc cp (d + 1) (nI v) K A B C SV VR CE KP oa pa ow ba re ps wt LF rt co := by
    intro d
    induction d with
    | zero =>
      intro v hv re S C1
      have e : v = 4 := by omega
      subst e
      exact br_t (nI_le (a := 4) (by omega) (by omega)) ⟨5, H56 re S C1 4 0 rfl (fun j hj => absurd hj (Nat.not_lt_zero _))⟩
    | succ d ih =>
      intro v hv re S C1
      refine br_f (nI_ge (b := 4) (by omega) (by omega)) ⟨5, ?_⟩
      exact H13 v _ (by omega) (fun re' S' C' => ih (v + 1) (by omega) re' S' C') 4 0 rfl re S C1 (fun x t hx => absurd hx (Nat.not_lt_zero _))
  unfold wpX_someSubroutineReachesItself
  refine wx_ndc hs g how ?_ re
  intro re hr
  refine ⟨5, H6 4 0 rfl re ?_ ?_⟩
  · intro x t hx ht hb
    exact wa_up 0 4 (by omega) ((hr x t (by omega) ht).mp hb)
  · intro x t hx ht hp
    exact (hr x t (by omega) ht).mpr hp
end WA
