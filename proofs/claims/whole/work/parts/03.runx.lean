/-! the component's run of one input, against the pure picture -/
theorem xr_fails {post : Int32 → Prop} {i p a b : Nat} {fs fm : Int32} {K A B N P F G Mk R : Nat → Int32} (hp : p < 12) (hi : i < 256) (hG : ∀ r, r < 4 → G (4 * i + r) = R r) (ha : a < 4) (ea : A p = nI a) (hb : b < 4) (eb : B p = nI b)
    (h1 : K p = 7 ∧ R b < R a → post 1) (h0 : ¬ (K p = 7 ∧ R b < R a) → post 0) : wpX_failsAt post (fs, fm, K, A, B, N, P, F, G, Mk) (nI p) (nI (4 * i)) := by
  have cp : (nI p).toNatClampNeg = p := nI_clamp (by omega)
  have hin : vp_in (nI p) 12 := vp_in_nI hp (by decide)
  unfold wpX_failsAt
  dsimp only
  rw [cp, ea, eb, nI_add, nI_add]
  refine ⟨hin, nm_e ⟨hin, nm_e ⟨hin, ?_⟩⟩⟩
  rw [nI_clamp (n := 4 * i + a) (by omega), nI_clamp (n := 4 * i + b) (by omega), hG a ha, hG b hb]
  refine br_c (fun k7 => ⟨vp_in_nI (by omega) (by decide), vp_in_nI (by omega) (by decide), br_c (fun hl => h0 ?_) (fun hl => h1 ⟨k7, Int32.not_le.mp hl⟩)⟩) (fun k7 => h0 (fun z => k7 z.1))
  exact fun z => Int32.not_lt.mpr hl z.2
theorem xr_after {post : Int32 → Prop} {i p a b : Nat} {fs fm : Int32} {K A B N P F G Mk R : Nat → Int32} (hp : p < 12) (hi : i < 256) (hG : ∀ r, r < 4 → G (4 * i + r) = R r) (ha : a < 4) (ea : A p = nI a) (hb : b < 4) (eb : B p = nI b)
    (hN : K p = 6 ∨ K p = 4 ∨ K p = 5 → ∃ n, p < n ∧ n ≤ 12 ∧ N p = nI n)
    (h : post (nI (if K p = 6 ∨ (K p = 4 ∧ R a < R b) ∨ (K p = 5 ∧ R a = R b) then (N p).toNatClampNeg else p + 1))) : wpX_positionAfter post (fs, fm, K, A, B, N, P, F, G, Mk) (nI p) (nI (4 * i)) := by
  have cp : (nI p).toNatClampNeg = p := nI_clamp (by omega)
  have hin : vp_in (nI p) 12 := vp_in_nI hp (by decide)
  have hz : ¬ (K p = 6 ∨ (K p = 4 ∧ R a < R b) ∨ (K p = 5 ∧ R a = R b)) → wX_positionAfter_114 post (nI p) 0 fs fm K A B N P F G Mk := fun c => by
    rw [if_neg c] at h
    refine br_t rfl ?_
    rw [nI_1]
    exact h
  have ho : (K p = 6 ∨ (K p = 4 ∧ R a < R b) ∨ (K p = 5 ∧ R a = R b)) → wX_positionAfter_114 post (nI p) 1 fs fm K A B N P F G Mk := fun c => by
    rw [if_pos c] at h
    obtain ⟨n, h1, h2, e⟩ := hN (by rcases c with c | c | c; exact Or.inl c; exact Or.inr (Or.inl c.1); exact Or.inr (Or.inr c.1))
    rw [e, nI_clamp (by omega), ← e] at h
    refine br_f (by decide) ⟨hin, ?_⟩
    rw [cp]
    exact h
  unfold wpX_positionAfter
  dsimp only
  rw [cp, ea, eb, nI_add, nI_add]
  refine ⟨hin, nm_e ⟨hin, nm_e ⟨hin, ?_⟩⟩⟩
  rw [nI_clamp (n := 4 * i + a) (by omega), nI_clamp (n := 4 * i + b) (by omega), hG a ha, hG b hb]
  have va : vp_in (nI (4 * i + a)) 1024 := vp_in_nI (by omega) (by decide)
  have vb : vp_in (nI (4 * i + b)) 1024 := vp_in_nI (by omega) (by decide)
  by_cases k4 : K p = 4
  · have n6 : ¬ K p = 6 := by rw [k4]; decide
    have n5 : ¬ K p = 5 := by rw [k4]; decide
    refine nm_r k4 (br_f (by decide) (br_f (by decide) (br_t rfl ⟨va, vb, br_c (fun hl => hz ?_) (fun hl => ho (Or.inr (Or.inl ⟨k4, Int32.not_le.mp hl⟩)))⟩)))
    rintro (c | c | c)
    · exact n6 c
    · exact Int32.not_lt.mpr hl c.2
    · exact n5 c.1
  by_cases k5 : K p = 5
  · have n6 : ¬ K p = 6 := by rw [k5]; decide
    refine nm_r k5 (br_f (by decide) (br_f (by decide) (br_f (by decide) (br_t rfl ⟨va, vb, br_c (fun hl => ho (Or.inr (Or.inr ⟨k5, hl⟩))) (fun hl => hz ?_)⟩))))
    rintro (c | c | c)
    · exact n6 c
    · exact k4 c.1
    · exact hl c.2
  by_cases k6 : K p = 6
  · exact nm_r k6 (br_f (by decide) (br_f (by decide) (br_f (by decide) (br_f (by decide) (br_t rfl (ho (Or.inl k6)))))))
  have hn : ¬ (K p = 6 ∨ (K p = 4 ∧ R a < R b) ∨ (K p = 5 ∧ R a = R b)) := by
    rintro (c | c | c)
    · exact k6 c
    · exact k4 c.1
    · exact k5 c.1
  exact nm_e (br_c (fun _ => hz hn) (fun _ => br_c (fun _ => hz hn) (fun _ => br_f k4 (br_f k5 (br_f k6 trivial)))))
theorem xr_calc {post : SX → Prop} {i p a b : Nat} {fs fm : Int32} {K A B N P F G Mk R : Nat → Int32} (hp : p < 12) (hi : i < 256) (hG : ∀ r, r < 4 → G (4 * i + r) = R r) (ha : a < 4) (ea : A p = nI a) (hb : b < 4) (eb : B p = nI b)
    (h : ∀ G' : Nat → Int32, (∀ r, r < 4 → G' (4 * i + r) = upd R a (ie_made (K p) (R a) (R b) (N p)) r) → (∀ j, j < 4 * i → G' j = G j) → post (fs, fm, K, A, B, N, P, F, G', Mk)) : wpX_calculate post (fs, fm, K, A, B, N, P, F, G, Mk) (nI p) (nI (4 * i)) := by
  have cp : (nI p).toNatClampNeg = p := nI_clamp (by omega)
  have hin : vp_in (nI p) 12 := vp_in_nI hp (by decide)
  unfold wpX_calculate
  dsimp only
  rw [cp, ea, eb, nI_add, nI_add]
  refine ⟨hin, nm_e ⟨hin, nm_e ⟨hin, ?_⟩⟩⟩
  rw [nI_clamp (n := 4 * i + a) (by omega), nI_clamp (n := 4 * i + b) (by omega), hG a ha, hG b hb]
  have va : vp_in (nI (4 * i + a)) 1024 := vp_in_nI (by omega) (by decide)
  have vb : vp_in (nI (4 * i + b)) 1024 := vp_in_nI (by omega) (by decide)
  have hs : ∀ v : Int32, ie_made (K p) (R a) (R b) (N p) = v → post (fs, fm, K, A, B, N, P, F, upd G (4 * i + a) v, Mk) := fun v e => by
    subst e
    exact h _ (ie_upG hG) (ie_upL (fun _ _ => rfl))
  by_cases k0 : K p = 0
  · exact nm_r k0 (br_f (by decide) (br_f (by decide) (br_t rfl ⟨hin, va, nm_e (hs _ (by rw [ie_made, if_pos k0]))⟩)))
  by_cases k1 : K p = 1
  · exact nm_r k1 (br_f (by decide) (br_f (by decide) (br_f (by decide) (br_t rfl ⟨va, vb, va, nm_e (hs _ (by rw [ie_made, if_neg k0, if_pos k1]))⟩))))
  by_cases k2 : K p = 2
  · exact nm_r k2 (br_f (by decide) (br_f (by decide) (br_f (by decide) (br_f (by decide) (br_t rfl ⟨va, vb, va, nm_e (hs _ (by rw [ie_made, if_neg k0, if_neg k1, if_pos k2]))⟩)))))
  by_cases k3 : K p = 3
  · exact nm_r k3 (br_f (by decide) (br_f (by decide) (br_f (by decide) (br_f (by decide) (br_f (by decide) (br_t rfl ⟨va, hin, va, nm_e (hs _ (by rw [ie_made, if_neg k0, if_neg k1, if_neg k2, if_pos k3]))⟩))))))
  have hz : post (fs, fm, K, A, B, N, P, F, G, Mk) := by
    refine h G ?_ (fun _ _ => rfl)
    rw [ie_made, if_neg k0, if_neg k1, if_neg k2, if_neg k3, ie_upS]
    exact hG
  exact nm_e (br_c (fun _ => hz) (fun _ => br_c (fun _ => hz) (fun _ => br_f k0 (br_f k1 (br_f k2 (br_f k3 trivial))))))
theorem xr_loop {post : SX → Prop} {s i : Nat} {fm : Int32} {K A B N P F Mk G0 : Nat → Int32} (hs : s ≤ 12) (hi : i < 256) (ok : ie_Ok s K A B N) : ∀ (d n p q m : Nat) (G R : Nat → Int32), p + d = s → d < n → q ≤ 12 → m < 2 ^ p →
    (∀ r, r < 4 → G (4 * i + r) = R r) → (∀ j, j < 4 * i → G j = G0 j) →
    (∀ G' : Nat → Int32, (∀ r, r < 4 → G' (4 * i + r) = (ie_x K A B N d p q m R).2.2 r) → (∀ j, j < 4 * i → G' j = G0 j) → wX_runFor_114 post (nI i) (nI (ie_x K A B N d p q m R).1) (ie_x K A B N d p q m R).2.1 (nI s) fm K A B N P F G' Mk) →
    wX_runFor_55 post (nI i) (nI (4 * i)) n (nI m) (nI q) 0 (nI p) (nI s) fm K A B N P F G Mk := by
  intro d
  induction d with
  | zero =>
    intro n p q m G R hp hn hq hm hG hL h
    obtain ⟨n, rfl⟩ : ∃ n', n = n' + 1 := ⟨n - 1, by omega⟩
    exact br_t (nI_le (by omega) (by omega)) (h G hG hL)
  | succ d ih =>
    intro n p q m G R hp hn hq hm hG hL h
    obtain ⟨n, rfl⟩ : ∃ n', n = n' + 1 := ⟨n - 1, by omega⟩
    have e2 : 2 ^ (p + 1) = 2 ^ p + 2 ^ p := by rw [Nat.pow_succ]; omega
    refine br_f (nI_ge (by omega) (by omega)) (br_t rfl (pk_eq p q (fun e => ?_) (fun e => ?_)))
    · subst e
      obtain ⟨⟨a, ha, ea⟩, ⟨b, hb, eb⟩, h0, h3, hN⟩ := ok p (by omega)
      have ca : (A p).toNatClampNeg = a := by rw [ea]; exact nI_clamp (by omega)
      have cb : (B p).toNatClampNeg = b := by rw [eb]; exact nI_clamp (by omega)
      refine nm_r (ie_or hm (by omega)) ?_
      have key : ∀ z : Int32, (∀ G' : Nat → Int32, (∀ r, r < 4 → G' (4 * i + r) = upd R a (ie_made (K p) (R a) (R b) (N p)) r) → (∀ j, j < 4 * i → G' j = G j) → wX_runFor_55 post (nI i) (nI (4 * i)) n (nI (m + 2 ^ p)) (nI (if K p = 6 ∨ (K p = 4 ∧ R a < R b) ∨ (K p = 5 ∧ R a = R b) then (N p).toNatClampNeg else p + 1)) z (nI (p + 1)) (nI s) fm K A B N P F G' Mk) → wpX_positionAfter (fun r_32 => (wpX_calculate (fun u => match u with | (f_stepCount_44, f_markCount_45, a_stepKind_46, a_stepA_47, a_stepB_48, a_stepN_49, a_pathOf_50, a_fails_51, a_registers_52, a_isMarked_53) => (∀ x6_54 : Int32, x6_54 = nI p + 1 → (wX_runFor_55 post (nI i) (nI (4 * i)) n (nI (m + 2 ^ p)) r_32 z x6_54 f_stepCount_44 f_markCount_45 a_stepKind_46 a_stepA_47 a_stepB_48 a_stepN_49 a_pathOf_50 a_fails_51 a_registers_52 a_isMarked_53))) (nI s, fm, K, A, B, N, P, F, G, Mk) (nI p) (nI (4 * i)))) (nI s, fm, K, A, B, N, P, F, G, Mk) (nI p) (nI (4 * i)) := by
        intro z hz
        refine xr_after (by omega) hi hG ha ea hb eb hN ?_
        refine xr_calc (by omega) hi hG ha ea hb eb (fun G' g1 g2 => ?_)
        exact nm_r (nI_1 p) (hz G' g1 g2)
      refine xr_fails (by omega) hi hG ha ea hb eb (fun c => ?_) (fun c => ?_)
      · have c' : K p = 7 ∧ R (B p).toNatClampNeg < R (A p).toNatClampNeg := by rw [ca, cb]; exact c
        refine key 1 (fun G' g1 g2 => ?_)
        obtain ⟨n, rfl⟩ : ∃ n', n = n' + 1 := ⟨n - 1, by omega⟩
        have g3 : ∀ r, r < 4 → G' (4 * i + r) = R r := by
          intro r hr
          rw [g1 r hr, c.1]
          show upd R a (R a) r = R r
          rw [ie_upS]
        have h2 := h G'
        rw [ie_xf c'] at h2
        have h3 := h2 g3 (fun j hj => (g2 j hj).trans (hL j hj))
        exact br_c (fun _ => h3) (fun _ => br_f (by decide) h3)
      · have c' : ¬ (K p = 7 ∧ R (B p).toNatClampNeg < R (A p).toNatClampNeg) := by rw [ca, cb]; exact c
        refine key 0 (fun G' g1 g2 => ?_)
        rw [ie_xg c', ca, cb] at h
        refine ih n (p + 1) _ (m + 2 ^ p) G' _ (by omega) (by omega) ?_ (by omega) g1 (fun j hj => (g2 j hj).trans (hL j hj)) h
        by_cases cj : K p = 6 ∨ (K p = 4 ∧ R a < R b) ∨ (K p = 5 ∧ R a = R b)
        · obtain ⟨t, h1, h2, e⟩ := hN (by rcases cj with c | c | c; exact Or.inl c; exact Or.inr (Or.inl c.1); exact Or.inr (Or.inr c.1))
          rw [if_pos cj, e, nI_clamp (by omega)]
          exact h2
        · rw [if_neg cj]
          omega
    · rw [ie_xn e] at h
      exact nm_r (nI_1 p) (ih n (p + 1) q m G R (by omega) (by omega) hq (by omega) hG hL h)
theorem xr_run {post : SX → Prop} {s i : Nat} {fm : Int32} {K A B N P F G Mk : Nat → Int32} (hs : s ≤ 12) (hi : i < 256) (ok : ie_Ok s K A B N) (T : ie_T s K A B N P F G i)
    (h : ∀ P' F' G' : Nat → Int32, ie_T s K A B N P' F' G' (i + 1) → post (nI s, fm, K, A, B, N, P', F', G', Mk)) : wpX_runFor post (nI s, fm, K, A, B, N, P, F, G, Mk) (nI i) := by
  have e4 : (4 : Int32) * nI i = nI (4 * i) := pk_mul 4 i
  have ci : (nI i).toNatClampNeg = i := nI_clamp (by omega)
  have er : nI i - nI i / 16 * 16 = nI (i % 16) := pk_rem (d := 16) (by omega) (by decide) (by decide)
  have ed : nI i / 16 = nI (i / 16) := pk_div (d := 16) (by omega) (by decide) (by decide)
  have e1 : nI (4 * i) + 1 = nI (4 * i + 1) := nI_add (4 * i) 1
  have e2 : nI (4 * i) + 2 = nI (4 * i + 2) := nI_add (4 * i) 2
  have e3 : nI (4 * i) + 3 = nI (4 * i + 3) := nI_add (4 * i) 3
  refine nm_r e4 ?_
  rw [er, ed, e1, e2, e3, nI_clamp (n := 4 * i) (by omega), nI_clamp (n := 4 * i + 1) (by omega), nI_clamp (n := 4 * i + 2) (by omega), nI_clamp (n := 4 * i + 3) (by omega)]
  refine ⟨by decide, vp_in_nI (by omega) (by decide), nm_e ⟨by decide, vp_in_nI (by omega) (by decide), nm_e ⟨vp_in_nI (by omega) (by decide), nm_e ⟨vp_in_nI (by omega) (by decide), nm_e ⟨13, ?_⟩⟩⟩⟩⟩
  refine xr_loop (G0 := G) hs hi ok s 13 0 0 0 _ (ie_0 i) (by omega) (by omega) (by omega) (by decide) (ie_ini i) ie_iniL (fun G' g1 g2 => ?_)
  refine ⟨vp_in_nI hi (by decide), nm_e ⟨vp_in_nI hi (by decide), nm_e ?_⟩⟩
  rw [ci, ie_nb (ie_x01 K A B N s 0 0 0 (ie_0 i))]
  exact h _ _ _ (ie_Ts T (ie_upI (fun _ _ => rfl)) (ie_upI (fun _ _ => rfl)) g2 pk_us pk_us g1)
theorem xr_all {post : SX → Prop} {s : Nat} {fm : Int32} {K A B N P F G Mk : Nat → Int32} (hs : s ≤ 12) (ok : ie_Ok s K A B N)
    (h : ∀ P' F' G' M' : Nat → Int32, ie_T s K A B N P' F' G' 256 → (∀ j, j < 4096 → M' j = 0) → post (nI s, 0, K, A, B, N, P', F', G', M')) : wpX_programChanged post (nI s, fm, K, A, B, N, P, F, G, Mk) := by
  unfold wpX_programChanged
  dsimp only
  unfold wpX_forgetMarks
  dsimp only
  refine loop_0 (fun n i (M : Nat → Int32) => wX_forgetMarks_2 _ (nI s) fm n (nI i) K A B N P F G M) (fun i M => ∀ j, j < i → M j = 0) 4096 Mk (fun j hj => absurd hj (Nat.not_lt_zero j)) ?_ ?_
  · intro n M hM
    refine br_t (nI_le (a := 4096) (by omega) (by decide)) ?_
    refine loop_0 (fun n i (t : (Nat → Int32) × (Nat → Int32) × (Nat → Int32)) => wX_programChanged_6 post n (nI i) (nI s) 0 K A B N t.1 t.2.1 t.2.2 M) (fun i t => ie_T s K A B N t.1 t.2.1 t.2.2 i) 256 (P, F, G) ie_T0 ?_ ?_
    · intro n t ht
      exact br_t (nI_le (a := 256) (by omega) (by decide)) (h _ _ _ _ ht hM)
    · intro n i t hi ht hk
      refine br_f (nI_ge (b := 256) hi (by decide)) ?_
      refine xr_run hs hi ok ht (fun P' F' G' hT => ?_)
      exact nm_r (nI_1 i) (hk (P', F', G') hT)
  · intro n i M hi hM hk
    refine br_f (nI_ge (b := 4096) hi (by decide)) ⟨vp_in_nI hi (by decide), nm_e (nm_r (nI_1 i) (hk _ ?_))⟩
    rw [nI_clamp (by omega), ie_nb0]
    exact lt_s (fun j hj => by rw [pk_un (by omega)]; exact hM j hj) pk_us
