section BS
/-! how long the machine runs: at most three steps for each unit of weight -/
variable {K A B C : Nat → Int32} {s : Nat} {en : Nat → Nat} {w : Nat → Nat} {p : Nat}
abbrev bs_R (K A : Nat → Int32) (s : Nat) (p t : Nat) : Prop := wa_P (wa_dc K A s) 4 p t
theorem bs_R4 (g : pg_g K A s) : ∀ k p t, wa_P (wa_dc K A s) k p t → t < 4 := by
  intro k
  induction k with
  | zero => intro p t h; exact wd_dc4 g h
  | succ k ih =>
    intro p t h
    rcases h with h | h
    · exact ih p t h
    · exact ih k t h.2
theorem bs_irr (H : mc_H K A s en) (p : Nat) : ¬ bs_R K A s p p := by
  intro h
  exact H.2.2.2.2.1 ⟨p, bs_R4 H.1 4 p p h, h⟩
def bs_sg (K A : Nat → Int32) (s p i j : Nat) : Prop := i ≤ j ∧ j ≤ s ∧ pg_dp K j = pg_dp K i ∧ (∀ k, i ≤ k → k ≤ j → pg_dp K i ≤ pg_dp K k) ∧ (∀ k, i ≤ k → k < j → ¬ K k = 11 ∧ pg_pw K A (k + 1) = p)
def bs_fr (K A : Nat → Int32) (s p i j : Nat) (LF : Nat → Int32) (cl : Nat → Nat) (LF' : Nat → Int32) (cl' : Nat → Nat) : Prop :=
  (∀ t, ¬ bs_R K A s p t → cl' t = cl t) ∧ (∀ o, (o < i ∨ j ≤ o) → ¬ bs_R K A s p (pg_pw K A (o + 1)) → LF' o = LF o)
theorem bs_fr_0 {i j : Nat} {LF : Nat → Int32} {cl : Nat → Nat} : bs_fr K A s p i j LF cl LF cl := ⟨fun _ _ => rfl, fun _ _ _ => rfl⟩
theorem bs_fr_t {i j a b a' b' : Nat} {LF LF' LF'' : Nat → Int32} {cl cl' cl'' : Nat → Nat} (h : bs_fr K A s p a b LF cl LF' cl') (h' : bs_fr K A s p a' b' LF' cl' LF'' cl'') (h1 : i ≤ a) (h2 : b ≤ j) (h3 : i ≤ a') (h4 : b' ≤ j) : bs_fr K A s p i j LF cl LF'' cl'' :=
  ⟨fun t ht => (h'.1 t ht).trans (h.1 t ht), fun o ho hr => (h'.2 o (by omega) hr).trans (h.2 o (by omega) hr)⟩
theorem bs_fr_u {q : Nat} {LF : Nat → Int32} {cl : Nat → Nat} {x : Int32} : bs_fr K A s p q (q + 1) LF cl (upd LF q x) cl :=
  ⟨fun _ _ => rfl, fun o ho _ => pk_un (by omega)⟩
def bs_go (K A B C : Nat → Int32) (s : Nat) (en : Nat → Nat) (w : Nat → Nat) (p i j : Nat) : Prop := ∀ LF cl d, ∃ k LF' cl' d',
  3 * we_S K A w p i + k * we_pf K A i ≤ 3 * we_S K A w p j ∧ mc_it K A B C s en k (i, p, LF, cl, d) = (j, p, LF', cl', d') ∧ bs_fr K A s p i j LF cl LF' cl'
def bs_pc (K A B C : Nat → Int32) (s : Nat) (en : Nat → Nat) (w : Nat → Nat) (t f e : Nat) : Prop := ∀ LF cl d, ∃ k LF' cl' d',
  k ≤ 3 * w t ∧ mc_it K A B C s en k (f, t, LF, cl, d) = (e, t, LF', cl', d') ∧ (∀ x, ¬ bs_R K A s t x → cl' x = cl x) ∧ (∀ o, ¬ pg_pw K A (o + 1) = t → ¬ bs_R K A s t (pg_pw K A (o + 1)) → LF' o = LF o)
theorem bs_mono {i : Nat} : ∀ j, i ≤ j → we_S K A w p i ≤ we_S K A w p j := by
  intro j
  induction j with
  | zero => intro h; rw [show i = 0 by omega]; exact Nat.le_refl _
  | succ j ih =>
    intro h
    by_cases z : i = j + 1
    · rw [z]; exact Nat.le_refl _
    · have := ih (by omega)
      by_cases y : pg_pw K A (j + 1) = p
      · rw [we_S_y y]; omega
      · rw [we_S_n y]; exact this
theorem bs_a1 {a b P k1 : Nat} (h : 3 * a + k1 * P ≤ 3 * b) : 3 * (1 * a) + (k1 + 1) * P ≤ 3 * (1 * b) + 1 * P := by
  rw [Nat.add_mul]; omega
theorem bs_a2 {a b P k1 k2 c : Nat} (h : 3 * a + k1 * P ≤ 3 * b) (h' : 3 * (c * a) + k2 * P ≤ 3 * (c * b) + c * P) : 3 * ((c + 1) * a) + (k1 + (1 + k2)) * P ≤ 3 * ((c + 1) * b) + (c + 1) * P := by
  rw [Nat.add_mul, Nat.add_mul, Nat.add_mul, Nat.add_mul, Nat.add_mul]; omega
theorem bs_a3 {a b P k c : Nat} (hc : 0 < c) (h : 3 * (c * a) + k * (P * c) ≤ 3 * (c * b) + c * (P * c)) : 3 * a + k * P ≤ 3 * b + c * P := by
  refine Nat.le_of_mul_le_mul_left (?_ : c * (3 * a + k * P) ≤ c * (3 * b + c * P)) hc
  have e1 : c * (3 * a + k * P) = 3 * (c * a) + k * (P * c) := by
    rw [Nat.mul_add, Nat.mul_left_comm, Nat.mul_left_comm c k P, Nat.mul_comm c P]
  have e2 : c * (3 * b + c * P) = 3 * (c * b) + c * (P * c) := by
    rw [Nat.mul_add, Nat.mul_left_comm, Nat.mul_comm c P]
  rw [e1, e2]; exact h
theorem bs_loop (H : mc_H K A s en) {q : Nat} (hq : q < s) (k7 : K q = 7) (hp : pg_pw K A (q + 1) = p) (body : bs_go K A B C s en w p (q + 1) (en q)) : ∀ c, 1 ≤ c → c ≤ 5 → ∀ LF cl d, LF q = nI c → ∃ k LF' cl' d',
    3 * (c * we_S K A w p (q + 1)) + k * we_pf K A (q + 1) ≤ 3 * (c * we_S K A w p (en q)) + c * we_pf K A (q + 1) ∧ mc_it K A B C s en k (q + 1, p, LF, cl, d) = (en q + 1, p, LF', cl', d') ∧ bs_fr K A s p q (en q + 1) LF cl LF' cl' := by
  obtain ⟨hes, mt⟩ := H.2.2.2.2.2.2 q hq (Or.inr k7)
  have k8 := mt.2.2.1
  have een : en (en q) = q := mc_mtu (H.2.2.2.2.2.1 (en q) hes k8) mt
  have hqe := mt.1
  intro c
  induction c with
  | zero => intro h; omega
  | succ c ih =>
    intro _ h5 LF cl d hL
    obtain ⟨k1, LF1, cl1, d1, b1, e1, f1⟩ := body LF cl d
    have hL1 : LF1 q = nI (c + 1) := (f1.2 q (Or.inl (by omega)) (by rw [hp]; exact bs_irr H p)).trans hL
    have e2 : mc_it K A B C s en 1 (en q, p, LF1, cl1, d1) = (if nI c ≤ 0 then en q + 1 else q + 1, p, upd LF1 q (nI c), cl1, d1) := by
      show mc_s K A B C s en _ = _
      rw [mc_8l hes k8 (by rw [een]; exact k7), een, hL1, nI_pred]
    have f2 : bs_fr K A s p q (en q + 1) LF cl (upd LF1 q (nI c)) cl1 := bs_fr_t f1 bs_fr_u (by omega) (by omega) (by omega) (by omega)
    by_cases z : c = 0
    · subst z
      rw [if_pos (by decide)] at e2
      exact ⟨k1 + 1, _, _, _, bs_a1 b1, by rw [mc_add, e1]; exact e2, f2⟩
    · rw [if_neg (nI_nle (by omega) (by omega))] at e2
      obtain ⟨k2, LF2, cl2, d2, b2, e3, f3⟩ := ih (by omega) (by omega) (upd LF1 q (nI c)) cl1 d1 pk_us
      exact ⟨k1 + (1 + k2), LF2, cl2, d2, bs_a2 b1 b2, by rw [mc_add, e1, mc_add, e2]; exact e3, bs_fr_t f2 f3 (by omega) (by omega) (by omega) (by omega)⟩
theorem bs_c1 {a b P k : Nat} {x : Nat} (hx : 1 ≤ x) (h : 3 * (a + P * x) + k * P ≤ 3 * b) : 3 * a + (1 + k) * P ≤ 3 * b := by
  have : P * 1 ≤ P * x := Nat.mul_le_mul_left P hx
  rw [Nat.add_mul]; omega
theorem bs_c2 {a b c P k k' : Nat} (h : 3 * (a + P * 2) + k * P ≤ 3 * b) (h' : 3 * b + k' * P ≤ 3 * c) : 3 * a + (1 + (k + (1 + k'))) * P ≤ 3 * c := by
  rw [Nat.add_mul, Nat.add_mul, Nat.add_mul]; omega
theorem bs_c3 {a b c P k k' n : Nat} (hn : n ≤ 5) (h : 3 * (a + P * 2) + k * P ≤ 3 * b + n * P) (h' : 3 * b + k' * P ≤ 3 * c) : 3 * a + (1 + (k + k')) * P ≤ 3 * c := by
  have : n * P ≤ 5 * P := Nat.mul_le_mul_right P hn
  rw [Nat.add_mul, Nat.add_mul]; omega
theorem bs_c4 {a b P k k' x : Nat} (hk : k ≤ 3 * x) (h : 3 * (a + P * (1 + x)) + k' * P ≤ 3 * b) : 3 * a + (1 + (k + (1 + k'))) * P ≤ 3 * b := by
  have h1 : k * P ≤ 3 * x * P := Nat.mul_le_mul_right P hk
  have h2 : 3 * x * P = 3 * (P * x) := by rw [Nat.mul_assoc, Nat.mul_comm x P]
  rw [h2] at h1
  rw [Nat.mul_add P, Nat.mul_one] at h
  rw [Nat.add_mul, Nat.add_mul, Nat.add_mul]; omega
theorem bs_seg (H : mc_H K A s en) (PC : ∀ t, wa_dc K A s p t → ∃ e, (e < s → K e = 11) ∧ bs_pc K A B C s en w t (pg_lb K A t s) e) : ∀ n i j, j ≤ i + n → bs_sg K A s p i j → bs_go K A B C s en w p i j := by
  intro n
  induction n with
  | zero =>
    intro i j h sg LF cl d
    have e : i = j := by have := sg.1; omega
    subst e
    exact ⟨0, LF, cl, d, by omega, rfl, bs_fr_0⟩
  | succ n ih =>
    intro i j hn sg LF cl d
    obtain ⟨g1, g2, g3, g4, g5⟩ := sg
    by_cases z : i = j
    · subst z; exact ⟨0, LF, cl, d, by omega, rfl, bs_fr_0⟩
    · have hij : i < j := by omega
      have hi : i < s := by omega
      obtain ⟨hb, hpw⟩ := g5 i (Nat.le_refl _) hij
      have S1 := we_S_y (w := w) hpw
      have w' := H.2.1.1
      by_cases o : pg_op K i
      · obtain ⟨hes, mt⟩ := H.2.2.2.2.2.2 i hi o
        obtain ⟨hie, _, k8, hd, hk⟩ := id mt
        have een : en (en i) = i := mc_mtu (H.2.2.2.2.2.1 (en i) hes k8) mt
        have hej : en i < j := by
          apply Classical.byContradiction
          intro y
          have := hk j hij (by omega)
          omega
        have dpe : pg_dp K (en i) = pg_dp K (i + 1) := by
          have := hk (en i) hie (Nat.le_refl _)
          rw [pg_dp_end k8] at hd
          rw [pg_dp_op o]; omega
        have sgB : bs_sg K A s p (i + 1) (en i) := ⟨by omega, by omega, dpe, fun k h1 h2 => by have := hk k (by omega) h2; rw [pg_dp_op o]; omega, fun k h1 h2 => g5 k (by omega) (by omega)⟩
        have sgR : bs_sg K A s p (en i + 1) j := ⟨by omega, g2, by rw [hd]; exact g3, fun k h1 h2 => by rw [hd]; exact g4 k (by omega) h2, fun k h1 h2 => g5 k (by omega) h2⟩
        have gB := ih (i + 1) (en i) (by omega) sgB
        have gR := ih (en i + 1) j (by omega) sgR
        have pfR : we_pf K A (en i + 1) = we_pf K A i := we_pf_mt mt
        have pwE := (g5 (en i) (by omega) hej).2
        have SE : we_S K A w p (en i + 1) = we_S K A w p (en i) := by rw [we_S_y pwE, we_s_0 (Or.inl k8), Nat.mul_zero, Nat.add_zero]
        rw [we_s_op o] at S1
        by_cases k7 : K i = 7
        · obtain ⟨a1, a5, ea⟩ := (H.1 i hi).2.2 k7
          have e1 : mc_it K A B C s en 1 (i, p, LF, cl, d) = (i + 1, p, upd LF i (A i), cl, d) := mc_7 hi k7
          obtain ⟨k2, LF2, cl2, d2, b2, e2, f2⟩ := bs_loop H hi k7 hpw gB (pg_ar A i) a1 a5 (upd LF i (A i)) cl d (by rw [pk_us]; exact ea)
          obtain ⟨k3, LF3, cl3, d3, b3, e3, f3⟩ := gR LF2 cl2 d2
          rw [we_pf_op o, if_pos k7] at b2
          have b2' := bs_a3 (by omega) b2
          rw [S1] at b2'
          rw [SE, pfR] at b3
          refine ⟨1 + (k2 + k3), LF3, cl3, d3, bs_c3 a5 b2' b3, by rw [mc_add, e1, mc_add, e2]; exact e3, ?_⟩
          have F1 : bs_fr K A s p i j LF cl LF2 cl2 := bs_fr_t (bs_fr_u (q := i)) f2 (by omega) (by omega) (by omega) (by omega)
          exact bs_fr_t F1 f3 (by omega) (by omega) (by omega) (by omega)
        · have k6 : K i = 6 := o.resolve_right k7
          have e1 : mc_it K A B C s en 1 (i, p, LF, cl, d) = (if d.1 (pg_ar A i) ≤ 0 then en i + 1 else i + 1, p, LF, cl, d) := mc_6 hi k6
          by_cases y : d.1 (pg_ar A i) ≤ 0
          · rw [if_pos y] at e1
            obtain ⟨k3, LF3, cl3, d3, b3, e3, f3⟩ := gR LF cl d
            have m := bs_mono (K := K) (A := A) (w := w) (p := p) (i := i + 1) (en i) (by omega)
            rw [SE, pfR] at b3
            refine ⟨1 + k3, LF3, cl3, d3, ?_, by rw [mc_add, e1]; exact e3, bs_fr_t bs_fr_0 f3 (Nat.le_refl _) (Nat.le_refl _) (by omega) (by omega)⟩
            refine bs_c1 (x := 2) (by omega) ?_
            omega
          · rw [if_neg y] at e1
            obtain ⟨k2, LF2, cl2, d2, b2, e2, f2⟩ := gB LF cl d
            have e3 : mc_it K A B C s en 1 (en i, p, LF2, cl2, d2) = (en i + 1, p, LF2, cl2, d2) := mc_8i hes k8 (by rw [een]; exact k7)
            obtain ⟨k4, LF4, cl4, d4, b4, e4, f4⟩ := gR LF2 cl2 d2
            rw [we_pf_op o, if_neg k7, Nat.mul_one, S1] at b2
            rw [SE, pfR] at b4
            exact ⟨1 + (k2 + (1 + k4)), LF4, cl4, d4, bs_c2 b2 b4, by rw [mc_add, e1, mc_add, e2, mc_add, e3]; exact e4, bs_fr_t f2 f4 (by omega) (by omega) (by omega) (by omega)⟩
      · by_cases k8 : K i = 8
        · have h0 := (w' i hi).2.2 k8
          have := g4 (i + 1) (by omega) (by omega)
          rw [pg_dp_end k8] at this
          omega
        · have sgR : bs_sg K A s p (i + 1) j := by
            have e := pg_dp_no o k8
            exact ⟨by omega, g2, by rw [e]; exact g3, fun k h1 h2 => by rw [e]; exact g4 k (by omega) h2, fun k h1 h2 => g5 k (by omega) h2⟩
          have gR := ih (i + 1) j (by omega) sgR
          have pfR : we_pf K A (i + 1) = we_pf K A i := we_pf_no o k8
          by_cases k9 : K i = 9
          · have dc : wa_dc K A s p (pg_ar A i) := ⟨i, hi, k9, hpw, rfl⟩
            have a4 := wd_dc4 H.1 dc
            have hR : bs_R K A s p (pg_ar A i) := wa_up 0 4 (by omega) dc
            have hT : ∀ x, bs_R K A s (pg_ar A i) x → bs_R K A s p x := fun x hx => wa_tr 4 _ p x a4 hR hx
            obtain ⟨e, he, P⟩ := PC _ dc
            obtain ⟨k2, LF2, cl2, d2, b2, e2, f2, f3⟩ := P LF (mc_u cl (pg_ar A i) (i + 1)) d
            have e1 : mc_it K A B C s en 1 (i, p, LF, cl, d) = (pg_lb K A (pg_ar A i) s, pg_ar A i, LF, mc_u cl (pg_ar A i) (i + 1), d) := mc_9 hi k9
            have ec : cl2 (pg_ar A i) = i + 1 := (f2 _ (bs_irr H _)).trans mc_us
            have e3 : mc_it K A B C s en 1 (e, pg_ar A i, LF2, cl2, d2) = (i + 1, p, LF2, cl2, d2) := by
              show mc_s K A B C s en _ = _
              rw [mc_l he (by omega), ec, hpw]
            obtain ⟨k4, LF4, cl4, d4, b4, e4, f4⟩ := gR LF2 cl2 d2
            rw [S1, we_s_9 k9, pfR] at b4
            refine ⟨1 + (k2 + (1 + k4)), LF4, cl4, d4, bs_c4 b2 b4, by rw [mc_add, e1, mc_add, e2, mc_add, e3]; exact e4, ?_⟩
            have F : bs_fr K A s p i j LF cl LF2 cl2 := by
              refine ⟨fun t ht => ?_, fun o ho hr => ?_⟩
              · rw [f2 t (fun x => ht (hT t x)), mc_un (fun x => ht (by rw [x]; exact hR))]
              · exact f3 o (fun x => hr (by rw [x]; exact hR)) (fun x => hr (hT _ x))
            exact bs_fr_t F f4 (by omega) (by omega) (by omega) (by omega)
          · have e1 : mc_it K A B C s en 1 (i, p, LF, cl, d) = (i + 1, p, LF, cl, mc_d K A B C i d) := mc_p hi o k8 k9 hb
            obtain ⟨k4, LF4, cl4, d4, b4, e4, f4⟩ := gR LF cl (mc_d K A B C i d)
            rw [S1, we_s_1 o k8 k9 hb, pfR] at b4
            exact ⟨1 + k4, LF4, cl4, d4, bs_c1 (Nat.le_refl 1) b4, by rw [mc_add, e1]; exact e4, bs_fr_t bs_fr_0 f4 (Nat.le_refl _) (Nat.le_refl _) (by omega) (by omega)⟩
theorem bs_piece (H : mc_H K A s en) (D5 : ∀ p, wd_D K A s 5 p) : ∀ l t f e, wd_D K A s l t → pc_at K A s t f e → bs_pc K A B C s en (we_W K A s 5) t f e := by
  intro l
  induction l with
  | zero => intro t f e h; exact h.elim
  | succ l ih =>
    intro t f e D P LF cl d
    have PC : ∀ x, wa_dc K A s t x → ∃ e, (e < s → K e = 11) ∧ bs_pc K A B C s en (we_W K A s 5) x (pg_lb K A x s) e := by
      intro x hx
      have x4 := wd_dc4 H.1 hx
      obtain ⟨e', P'⟩ := pc_ex H.1 H.2.1 (H.2.2.1 x x4) x4
      obtain ⟨j, j1, j2, j3, j4⟩ := id hx
      have nz := H.2.2.2.1 j j1 j2
      rw [j4] at nz
      have ee : yw_pl K A s x = pg_lb K A x s := if_neg nz
      rw [ee] at P'
      exact ⟨e', P'.2.2.1, ih x _ e' (D x hx) P'⟩
    have hde : pg_dp K e = 0 := by
      by_cases y : e = s
      · rw [y]; exact H.2.1.2
      · have hes : e < s := by have := P.2.1; omega
        exact (H.2.1.1 e hes).1 (P.2.2.1 hes)
    have sg : bs_sg K A s t f e := ⟨P.1, P.2.1, by rw [hde, P.2.2.2.1], fun k _ _ => by rw [P.2.2.2.1]; exact Nat.zero_le _, P.2.2.2.2.1⟩
    obtain ⟨k, LF', cl', d', b, e1, f1⟩ := bs_seg H PC (e - f) f e (by omega) sg LF cl d
    have pf1 : we_pf K A f = 1 := by show we_T K A f (pg_dp K f) = 1; rw [P.2.2.2.1]; exact we_T_0 f
    rw [pf1, pc_lo P, ← pc_hi P, we_fix5 (D5 t)] at b
    refine ⟨k, LF', cl', d', by omega, e1, f1.1, fun o ho hr => f1.2 o ?_ hr⟩
    apply Classical.byContradiction
    intro y
    exact ho (P.2.2.2.2.1 o (by omega) (by omega)).2
theorem bs_main (H : mc_H K A s en) (D5 : ∀ p, wd_D K A s 5 p) (h : we_W K A s 5 4 ≤ 3000) (LF : Nat → Int32) (cl : Nat → Nat) (d : mc_D) : ∃ T, T ≤ 9000 ∧ mc_h K s (mc_it K A B C s en T (0, 4, LF, cl, d)) := by
  obtain ⟨e, P⟩ := pc_ex4 (K := K) (A := A) (s := s) H.1
  obtain ⟨k, LF', cl', d', b, e1, _⟩ := bs_piece (B := B) (C := C) H D5 5 4 0 e (D5 4) P LF cl d
  refine ⟨k, by omega, ?_⟩
  rw [e1]
  exact ⟨fun z => z.2 (P.2.2.1 z.1), rfl⟩
end BS
