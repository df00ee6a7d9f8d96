/-! the reference's run of one input, against the pure picture -/
theorem yr_257 {post : SY → Prop} {J : Int32 → (Nat → Int32) → (Nat → Int32) → (Nat → Int32) → (Nat → Int32) → (Nat → Int32) → (Nat → Int32) → (Nat → Int32) → (Nat → Int32) → Prop} {i p m : Nat} {x2 x7 x8 z sz : Int32} {K A B N Mk P F G : Nat → Int32} (hi : i < 256) (hp : p < 12) (hm : m < 2 ^ p) (eP : P i = nI m) (hz : z = 0 ∨ z = 1)
    (h : ∀ P' F' : Nat → Int32, (∀ j, j < i → P' j = P j) → (∀ j, j < i → F' j = F j) → P' i = nI (m + 2 ^ p) → F' i = z → (x8 = 0 → J (nI (p + 1)) K A B N Mk P' F' G) ∧ (¬ x8 = 0 → J x7 K A B N Mk P' F' G)) :
    wY_run_257 post J (nI i) x2 (nI p) x7 x8 z (nI i) sz K A B N Mk P F G := by
  have ci : (nI i).toNatClampNeg = i := nI_clamp (by omega)
  have vi : vp_in (nI i) 256 := vp_in_nI hi (by decide)
  unfold wY_run_257
  rw [ci, ie_nb hz, eP, ie_or hm (by omega), nI_1]
  exact ⟨vi, nm_e ⟨vi, vi, nm_e (br_c (fun e => nm_e ((h _ _ (ie_upI (fun _ _ => rfl)) (ie_upI (fun _ _ => rfl)) pk_us pk_us).1 e)) (fun e => (h _ _ (ie_upI (fun _ _ => rfl)) (ie_upI (fun _ _ => rfl)) pk_us pk_us).2 e))⟩⟩
theorem yr_216 {post : SY → Prop} {J : Int32 → (Nat → Int32) → (Nat → Int32) → (Nat → Int32) → (Nat → Int32) → (Nat → Int32) → (Nat → Int32) → (Nat → Int32) → (Nat → Int32) → Prop} {i p m a : Nat} {k x y x7 x8 w sz : Int32} {K A B N Mk P F G : Nat → Int32} (hi : i < 256) (hp : p < 12) (hm : m < 2 ^ p) (eP : P i = nI m) (ha : a < 4) (ea : A p = nI a)
    (h : ∀ P' F' : Nat → Int32, (∀ j, j < i → P' j = P j) → (∀ j, j < i → F' j = F j) → P' i = nI (m + 2 ^ p) → ((k = 7 ∧ y < x → F' i = 1) ∧ (¬ (k = 7 ∧ y < x) → F' i = 0)) → (x8 = 0 → J (nI (p + 1)) K A B N Mk P' F' (upd G (4 * i + a) w)) ∧ (¬ x8 = 0 → J x7 K A B N Mk P' F' (upd G (4 * i + a) w))) :
    wY_run_216 post J (nI i) (nI (4 * i)) (nI p) k x y x7 x8 w sz K A B N Mk P F G := by
  have cp : (nI p).toNatClampNeg = p := nI_clamp (by omega)
  unfold wY_run_216
  rw [cp, ea, nI_add, nI_clamp (n := 4 * i + a) (by omega)]
  have h0 : ¬ (k = 7 ∧ y < x) → wY_run_256 post J (nI i) (nI (4 * i)) (nI p) x7 x8 (nI i) sz K A B N Mk P F (upd G (4 * i + a) w) := fun c => by
    unfold wY_run_256
    exact yr_257 hi hp hm eP (Or.inl rfl) (fun P' F' h1 h2 h3 h4 => h P' F' h1 h2 h3 ⟨fun z => absurd z c, fun _ => h4⟩)
  refine ⟨vp_in_nI hp (by decide), vp_in_nI (by omega) (by decide), nm_e (br_c (fun k7 => br_c (fun hl => h0 (fun z => Int32.not_lt.mpr hl z.2)) (fun hl => ?_)) (fun k7 => h0 (fun z => k7 z.1)))⟩
  exact yr_257 hi hp hm eP (Or.inr rfl) (fun P' F' h1 h2 h3 h4 => h P' F' h1 h2 h3 ⟨fun _ => h4, fun z => absurd ⟨k7, Int32.not_le.mp hl⟩ z⟩)
theorem yr_160 {post : SY → Prop} {J : Int32 → (Nat → Int32) → (Nat → Int32) → (Nat → Int32) → (Nat → Int32) → (Nat → Int32) → (Nat → Int32) → (Nat → Int32) → (Nat → Int32) → Prop} {i p m a : Nat} {k x y x7 x8 sz : Int32} {K A B N Mk P F G : Nat → Int32} (hi : i < 256) (hp : p < 12) (hm : m < 2 ^ p) (eP : P i = nI m) (ha : a < 4) (ea : A p = nI a)
    (h : ∀ P' F' : Nat → Int32, (∀ j, j < i → P' j = P j) → (∀ j, j < i → F' j = F j) → P' i = nI (m + 2 ^ p) → ((k = 7 ∧ y < x → F' i = 1) ∧ (¬ (k = 7 ∧ y < x) → F' i = 0)) → (x8 = 0 → J (nI (p + 1)) K A B N Mk P' F' (upd G (4 * i + a) (ie_made k x y x7))) ∧ (¬ x8 = 0 → J x7 K A B N Mk P' F' (upd G (4 * i + a) (ie_made k x y x7)))) :
    wY_run_160 post J (nI i) (nI (4 * i)) (nI p) k x y x7 x8 sz K A B N Mk P F G := by
  have g : ∀ w : Int32, ie_made k x y x7 = w → wY_run_216 post J (nI i) (nI (4 * i)) (nI p) k x y x7 x8 w sz K A B N Mk P F G := fun w e => by
    rw [e] at h
    exact yr_216 hi hp hm eP ha ea h
  unfold wY_run_160
  exact br_c (fun k0 => g _ (by rw [ie_made, if_pos k0])) (fun k0 => br_c (fun k1 => g _ (by rw [ie_made, if_neg k0, if_pos k1])) (fun k1 => br_c (fun k2 => g _ (by rw [ie_made, if_neg k0, if_neg k1, if_pos k2])) (fun k2 => br_c (fun k3 => g _ (by rw [ie_made, if_neg k0, if_neg k1, if_neg k2, if_pos k3])) (fun k3 => g _ (by rw [ie_made, if_neg k0, if_neg k1, if_neg k2, if_neg k3])))))
theorem yr_loop {post : SY → Prop} {s i : Nat} {K A B N Mk P0 F0' G0 : Nat → Int32} (hs : s ≤ 12) (hi : i < 256) (ok : ie_Ok s K A B N) : ∀ (n q m : Nat) (P F G R : Nat → Int32), s - q < n → q ≤ 12 → m < 2 ^ q → P i = nI m → F i = 0 →
    (∀ r, r < 4 → G (4 * i + r) = R r) → (∀ j, j < i → P j = P0 j) → (∀ j, j < i → F j = F0' j) → (∀ j, j < 4 * i → G j = G0 j) →
    (∀ P' F' G' : Nat → Int32, (∀ j, j < i → P' j = P0 j) → (∀ j, j < i → F' j = F0' j) → (∀ j, j < 4 * i → G' j = G0 j) → P' i = nI (ie_x K A B N (s - q) q q m R).1 → F' i = (ie_x K A B N (s - q) q q m R).2.1 → (∀ r, r < 4 → G' (4 * i + r) = (ie_x K A B N (s - q) q q m R).2.2 r) → post (nI s, K, A, B, N, Mk, P', F', G')) →
    wY_run_59 post (nI i) (nI (4 * i)) (nI s) n (nI q) K A B N Mk P F G := by
  intro n
  induction n with
  | zero => intro q m P F G R hn; omega
  | succ n ih =>
    intro q m P F G R hn hq hm eP eF hG hLP hLF hLG h
    by_cases hqs : s ≤ q
    · rw [show s - q = 0 by omega] at h
      exact br_t (nI_le hqs (by omega)) (h P F G hLP hLF hLG eP eF hG)
    have hqs : q < s := by omega
    obtain ⟨d, hd⟩ : ∃ d, s - q = d + 1 := ⟨s - q - 1, by omega⟩
    rw [hd] at h
    obtain ⟨⟨a, ha, ea⟩, ⟨b, hb, eb⟩, h0, h3, hN⟩ := ok q (by omega)
    have ca : (A q).toNatClampNeg = a := by rw [ea]; exact nI_clamp (by omega)
    have cb : (B q).toNatClampNeg = b := by rw [eb]; exact nI_clamp (by omega)
    have cq : (nI q).toNatClampNeg = q := nI_clamp (by omega)
    have ci : (nI i).toNatClampNeg = i := nI_clamp (by omega)
    have vi : vp_in (nI i) 256 := vp_in_nI hi (by decide)
    have vq : vp_in (nI q) 12 := vp_in_nI (by omega) (by decide)
    have va : vp_in (nI (4 * i + a)) 1024 := vp_in_nI (by omega) (by decide)
    have vb : vp_in (nI (4 * i + b)) 1024 := vp_in_nI (by omega) (by decide)
    have e2 : 2 ^ (q + 1) = 2 ^ q + 2 ^ q := by rw [Nat.pow_succ]; omega
    have ia : nI (4 * i) + A q = nI (4 * i + a) := by rw [ea, nI_add]
    have ib : nI (4 * i) + B q = nI (4 * i + b) := by rw [eb, nI_add]
    -- what comes after this step, at the position t
    have key : ∀ (t : Nat) (P' F' : Nat → Int32), t = (if K q = 6 ∨ (K q = 4 ∧ R a < R b) ∨ (K q = 5 ∧ R a = R b) then (N q).toNatClampNeg else q + 1) → q < t → t ≤ 12 → (∀ j, j < i → P' j = P j) → (∀ j, j < i → F' j = F j) → P' i = nI (m + 2 ^ q) → ((K q = 7 ∧ R b < R a → F' i = 1) ∧ (¬ (K q = 7 ∧ R b < R a) → F' i = 0)) → wY_run_59 post (nI i) (nI (4 * i)) (nI s) n (nI t) K A B N Mk P' F' (upd G (4 * i + a) (ie_made (K q) (R a) (R b) (N q))) := by
      intro t P' F' et ht ht2 hP hF e1 ef
      have l1 : ∀ j, j < i → P' j = P0 j := fun j hj => (hP j hj).trans (hLP j hj)
      have l2 : ∀ j, j < i → F' j = F0' j := fun j hj => (hF j hj).trans (hLF j hj)
      have l3 : ∀ j, j < 4 * i → upd G (4 * i + a) (ie_made (K q) (R a) (R b) (N q)) j = G0 j := ie_upL hLG
      by_cases c : K q = 7 ∧ R b < R a
      · have c' : K q = 7 ∧ R (B q).toNatClampNeg < R (A q).toNatClampNeg := by rw [ca, cb]; exact c
        rw [ie_xf c'] at h
        have g3 : ∀ r, r < 4 → upd G (4 * i + a) (ie_made (K q) (R a) (R b) (N q)) (4 * i + r) = R r := by
          intro r hr
          rw [ie_upG hG r hr, c.1]
          show upd R a (R a) r = R r
          rw [ie_upS]
        have hp := h P' F' _ l1 l2 l3 e1 (ef.1 c) g3
        obtain ⟨n, rfl⟩ : ∃ n', n = n' + 1 := ⟨n - 1, by omega⟩
        refine br_c (fun _ => hp) (fun _ => ⟨vi, br_f ?_ hp⟩)
        rw [ci, ef.1 c]
        decide
      · have c' : ¬ (K q = 7 ∧ R (B q).toNatClampNeg < R (A q).toNatClampNeg) := by rw [ca, cb]; exact c
        rw [ie_xg c', ca, cb, ← et, ie_skip K A B N d (q + 1) t _ _ (by omega), show q + 1 + d - t = s - t by omega] at h
        have m2 : m + 2 ^ q < 2 ^ t := Nat.lt_of_lt_of_le (by omega) (Nat.pow_le_pow_right (n := 2) (by decide) (show q + 1 ≤ t by omega))
        exact ih t (m + 2 ^ q) P' F' _ _ (by omega) ht2 m2 e1 (ef.2 c) (ie_upG hG) l1 l2 l3 h
    have h1 : (K q = 6 ∨ (K q = 4 ∧ R a < R b) ∨ (K q = 5 ∧ R a = R b)) → wY_run_155 post (wY_run_59 post (nI i) (nI (4 * i)) (nI s) n) (nI i) (nI (4 * i)) (nI q) (K q) (R a) (R b) (N q) (nI s) K A B N Mk P F G := fun c => by
      obtain ⟨t, t1, t2, et⟩ := hN (by rcases c with c | c | c; exact Or.inl c; exact Or.inr (Or.inl c.1); exact Or.inr (Or.inr c.1))
      unfold wY_run_155
      refine yr_160 hi (by omega) hm eP ha ea (fun P' F' p1 p2 p3 p4 => br_f (by decide) ?_)
      have := key t P' F' (by rw [if_pos c, et, nI_clamp (by omega)]) t1 t2 p1 p2 p3 p4
      rw [et] at this ⊢
      exact this
    have h2 : ¬ (K q = 6 ∨ (K q = 4 ∧ R a < R b) ∨ (K q = 5 ∧ R a = R b)) → wY_run_159 post (wY_run_59 post (nI i) (nI (4 * i)) (nI s) n) (nI i) (nI (4 * i)) (nI q) (K q) (R a) (R b) (N q) (nI s) K A B N Mk P F G := fun c => by
      unfold wY_run_159
      exact yr_160 hi (by omega) hm eP ha ea (fun P' F' p1 p2 p3 p4 => br_t rfl (key (q + 1) P' F' (by rw [if_neg c]) (by omega) (by omega) p1 p2 p3 p4))
    have h4 : ¬ K q = 6 → ¬ (K q = 4 ∧ R a < R b) → wY_run_142 post (wY_run_59 post (nI i) (nI (4 * i)) (nI s) n) (nI i) (nI (4 * i)) (nI q) (K q) (R a) (R b) (N q) (nI s) K A B N Mk P F G := fun n6 n4 => by
      refine br_c (fun k5 => br_c (fun e => h1 (Or.inr (Or.inr ⟨k5, e⟩))) (fun e => h2 ?_)) (fun k5 => h2 ?_)
      · rintro (c | c | c)
        · exact n6 c
        · exact n4 c
        · exact e c.2
      · rintro (c | c | c)
        · exact n6 c
        · exact n4 c
        · exact k5 c.1
    rw [wY_run_59]
    dsimp only
    rw [ci, cq, ia, ib, nI_clamp (n := 4 * i + a) (by omega), nI_clamp (n := 4 * i + b) (by omega), hG a ha, hG b hb, eF]
    exact br_f (nI_ge hqs (by omega)) ⟨vi, br_t rfl ⟨vq, nm_e ⟨vq, va, nm_e ⟨vq, vb, nm_e ⟨vq, nm_e (br_c (fun k6 => h1 (Or.inl k6)) (fun k6 => br_c (fun k4 => br_c (fun hl => h1 (Or.inr (Or.inl ⟨k4, hl⟩))) (fun hl => h4 k6 (fun z => hl z.2))) (fun k4 => h4 k6 (fun z => k4 z.1))))⟩⟩⟩⟩⟩
theorem yr_run {post : SY → Prop} {s i : Nat} {K A B N Mk P F G : Nat → Int32} (hs : s ≤ 12) (hi : i < 256) (ok : ie_Ok s K A B N) (T : ie_T s K A B N P F G i)
    (h : ∀ P' F' G' : Nat → Int32, ie_T s K A B N P' F' G' (i + 1) → post (nI s, K, A, B, N, Mk, P', F', G')) : wpY_run post (nI s, K, A, B, N, Mk, P, F, G) (nI i) := by
  have e4 : (4 : Int32) * nI i = nI (4 * i) := pk_mul 4 i
  have ci : (nI i).toNatClampNeg = i := nI_clamp (by omega)
  have er : nI i &&& 15 = nI (i % 16) := pk_andN (by omega) 4 (by decide)
  have ed : nI i >>> ((4 : Int32) &&& 31) = nI (i / 16) := pk_shrN (by omega) _ 4 (by decide)
  have e1 : nI (4 * i) + 1 = nI (4 * i + 1) := nI_add (4 * i) 1
  have e2 : nI (4 * i) + 2 = nI (4 * i + 2) := nI_add (4 * i) 2
  have e3 : nI (4 * i) + 3 = nI (4 * i + 3) := nI_add (4 * i) 3
  have vi : vp_in (nI i) 256 := vp_in_nI hi (by decide)
  refine nm_r e4 ?_
  rw [er, ed, e1, e2, e3, nI_clamp (n := 4 * i) (by omega), nI_clamp (n := 4 * i + 1) (by omega), nI_clamp (n := 4 * i + 2) (by omega), nI_clamp (n := 4 * i + 3) (by omega), ci, ie_nb0]
  refine ⟨vp_in_nI (by omega) (by decide), nm_e ⟨vp_in_nI (by omega) (by decide), nm_e ⟨vp_in_nI (by omega) (by decide), nm_e ⟨vp_in_nI (by omega) (by decide), nm_e ⟨vi, nm_e ⟨vi, nm_e ⟨13, ?_⟩⟩⟩⟩⟩⟩⟩
  exact yr_loop (P0 := P) (F0' := F) (G0 := G) hs hi ok 13 0 0 _ _ _ (ie_0 i) (by omega) (by omega) (by decide) pk_us pk_us (ie_ini i) (ie_upI (fun _ _ => rfl)) (ie_upI (fun _ _ => rfl)) ie_iniL (fun P' F' G' l1 l2 l3 p f g => h P' F' G' (ie_Ts T l1 l2 l3 p f g))
theorem yr_work {post : SY → Prop} {s : Nat} {K A B N Mk P F G : Nat → Int32} (hs : s ≤ 12) (ok : ie_Ok s K A B N)
    (h : ∀ P' F' G' : Nat → Int32, ie_T s K A B N P' F' G' 256 → post (nI s, K, A, B, N, Mk, P', F', G')) : wpY_work post (nI s, K, A, B, N, Mk, P, F, G) := by
  refine loop_0 (fun n i (t : (Nat → Int32) × (Nat → Int32) × (Nat → Int32)) => wY_work_2 post n (nI i) (nI s) K A B N Mk t.1 t.2.1 t.2.2) (fun i t => ie_T s K A B N t.1 t.2.1 t.2.2 i) 256 (P, F, G) ie_T0 ?_ ?_
  · intro n t ht
    exact br_t (nI_le (a := 256) (by omega) (by decide)) (h _ _ _ ht)
  · intro n i t hi ht hk
    refine br_f (nI_ge (b := 256) hi (by decide)) ?_
    refine yr_run hs hi ok ht (fun P' F' G' hT => ?_)
    exact nm_r (nI_1 i) (hk (P', F', G') hT)
theorem yr_forget {post : SY → Prop} {sz : Int32} {K A B N Mk P F G : Nat → Int32} (h : ∀ M' : Nat → Int32, (∀ j, j < 4096 → M' j = 0) → post (sz, K, A, B, N, M', P, F, G)) : wpY_forget post (sz, K, A, B, N, Mk, P, F, G) := by
  refine loop_0 (fun n i (M : Nat → Int32) => wY_forget_2 post sz n (nI i) K A B N M P F G) (fun i M => ∀ j, j < i → M j = 0) 4096 Mk (fun j hj => absurd hj (Nat.not_lt_zero j)) ?_ ?_
  · intro n M hM
    exact br_t (nI_le (a := 4096) (by omega) (by decide)) (h M hM)
  · intro n i M hi hM hk
    refine br_f (nI_ge (b := 4096) hi (by decide)) ⟨vp_in_nI hi (by decide), nm_e (nm_r (nI_1 i) (hk _ ?_))⟩
    rw [nI_clamp (by omega), ie_nb0]
    exact lt_s (fun j hj => by rw [pk_un (by omega)]; exact hM j hj) pk_us
