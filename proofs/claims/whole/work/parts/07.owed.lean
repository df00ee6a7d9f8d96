/-! the relation, and what is owed -/
/-- both hold the same program s, K, A, B, N; the component's tables P, F, G are the runs' results, the reference's P', F', G' are free (it makes them anew for each question); the same paths are marked, and the component has counted them -/
def i_Rel (k : Nat) (u : SX) (v : SY) : Prop := ∃ (s : Nat) (K A B N P F G Mk M' P' F' G' : Nat → Int32), s ≤ 12 ∧ ie_Ok s K A B N ∧ ie_T s K A B N P F G 256 ∧ (∀ j, j < 4096 → (M' j = 0 ↔ Mk j = 0)) ∧ u = (nI s, nI (ie_cnt (ie_mk Mk) 4096), K, A, B, N, P, F, G, Mk) ∧ v = (nI s, K, A, B, N, M', P', F', G')
theorem i_up {k : Nat} {u : SX} {v : SY} (h : i_Rel k u v) : i_Rel (k + 4) u v := h
theorem ie_R {k s : Nat} {K A B N P F G Mk M' P' F' G' : Nat → Int32} (hs : s ≤ 12) (ok : ie_Ok s K A B N) (T : ie_T s K A B N P F G 256) (hM : ∀ j, j < 4096 → (M' j = 0 ↔ Mk j = 0)) : i_Rel k (nI s, nI (ie_cnt (ie_mk Mk) 4096), K, A, B, N, P, F, G, Mk) (nI s, K, A, B, N, M', P', F', G') :=
  ⟨s, K, A, B, N, P, F, G, Mk, M', P', F', G', hs, ok, T, hM, rfl, rfl⟩
/-- fresh marks on both sides -/
theorem ie_Rz {k s : Nat} {K A B N P F G Mk M' P' F' G' : Nat → Int32} (hs : s ≤ 12) (ok : ie_Ok s K A B N) (T : ie_T s K A B N P F G 256) (h1 : ∀ j, j < 4096 → Mk j = 0) (h2 : ∀ j, j < 4096 → M' j = 0) : i_Rel k (nI s, 0, K, A, B, N, P, F, G, Mk) (nI s, K, A, B, N, M', P', F', G') := by
  have e : (0 : Int32) = nI (ie_cnt (ie_mk Mk) 4096) := by rw [ie_cz h1]; rfl
  rw [e]
  exact ie_R hs ok T (fun j hj => ⟨fun _ => h1 j hj, fun _ => h2 j hj⟩)
theorem i_vc0 : wpX_init (fun u => wpY_init (fun v => i_Rel 0 u v)) := by
  unfold wpX_init
  exact xr_all (s := 0) (by omega) (fun p hp => absurd hp (Nat.not_lt_zero p)) (fun P' F' G' M' T hM => ie_Rz (k := 0) (by omega) (fun p hp => absurd hp (Nat.not_lt_zero p)) T hM (fun _ _ => rfl))
/-! step: the number that fits -/
def ie_fit (s : Nat) (k n : Int32) : Prop := (k = 0 → ¬ n < -20 ∧ ¬ 20 < n) ∧ (k = 3 → ¬ n < -3 ∧ ¬ 3 < n) ∧ (k = 6 ∨ k = 4 ∨ k = 5 → ¬ n ≤ nI s ∧ ¬ 12 < n)
theorem ie_fitX {s : Nat} {k n : Int32} {post : Int32 → Prop} {fm : Int32} {K A B N P F G Mk : Nat → Int32} (h0 : ¬ k < 0) (h1 : ie_fit s k n → post 1) (h2 : ¬ ie_fit s k n → post 0) : wpX_isNumberFor post (nI s, fm, K, A, B, N, P, F, G, Mk) k n := by
  have free : ¬ k = 0 → ¬ k = 3 → ¬ k = 4 → ¬ k = 5 → ¬ k = 6 → post 1 := fun n0 n3 n4 n5 n6 => h1 ⟨fun e => absurd e n0, fun e => absurd e n3, fun e => e.elim (fun e => absurd e n6) (fun e => e.elim (fun e => absurd e n4) (fun e => absurd e n5))⟩
  have jump : k = 6 ∨ k = 4 ∨ k = 5 → ¬ k = 0 → ¬ k = 3 → wX_isNumberFor_79 post n (nI s) fm K A B N P F G Mk := fun e n0 n3 =>
    br_c (fun l => h2 (fun f => (f.2.2 e).1 l)) (fun l => br_c (fun g => h2 (fun f => (f.2.2 e).2 g)) (fun g => h1 ⟨fun e => absurd e n0, fun e => absurd e n3, fun _ => ⟨l, g⟩⟩))
  refine br_f h0 (br_c (fun l => free ?_ ?_ ?_ ?_ ?_) (fun _ => br_c (fun k0 => br_c (fun l => h2 (fun f => (f.1 k0).1 l)) (fun l => br_c (fun g => h2 (fun f => (f.1 k0).2 g)) (fun g => h1 ⟨fun _ => ⟨l, g⟩, fun e => ?_, fun e => ?_⟩))) (fun n0 => br_c (fun k1 => free n0 ?_ ?_ ?_ ?_) (fun n1 => br_c (fun k2 => free n0 ?_ ?_ ?_ ?_) (fun n2 => br_c (fun k3 => br_c (fun l => h2 (fun f => (f.2.1 k3).1 l)) (fun l => br_c (fun g => h2 (fun f => (f.2.1 k3).2 g)) (fun g => h1 ⟨fun e => absurd e n0, fun _ => ⟨l, g⟩, fun e => ?_⟩))) (fun n3 => br_c (fun k4 => jump (Or.inr (Or.inl k4)) n0 n3) (fun n4 => br_c (fun k5 => jump (Or.inr (Or.inr k5)) n0 n3) (fun n5 => br_c (fun k6 => jump (Or.inl k6) n0 n3) (fun n6 => trivial)))))))))
  · intro e; rw [e] at l; exact absurd l (by decide)
  · intro e; rw [e] at l; exact absurd l (by decide)
  · intro e; rw [e] at l; exact absurd l (by decide)
  · intro e; rw [e] at l; exact absurd l (by decide)
  · intro e; rw [e] at l; exact absurd l (by decide)
  · rw [k0] at e; exact absurd e (by decide)
  · rw [k0] at e; exact absurd e (by decide)
  · rw [k1]; decide
  · rw [k1]; decide
  · rw [k1]; decide
  · rw [k1]; decide
  · rw [k2]; decide
  · rw [k2]; decide
  · rw [k2]; decide
  · rw [k2]; decide
  · rw [k3] at e; exact absurd e (by decide)
theorem ie_456 {k : Int32} (h0 : ¬ k < 0) (h7 : ¬ 7 < k) (h4 : ¬ k < 4) (n7 : ¬ k = 7) : k = 6 ∨ k = 4 ∨ k = 5 := by
  obtain ⟨j, hj, rfl⟩ := nI_of2 (M := 7) (n := 7) (by decide) h0 (Int32.not_lt.mp h7)
  have hj : j = 0 ∨ j = 1 ∨ j = 2 ∨ j = 3 ∨ j = 4 ∨ j = 5 ∨ j = 6 ∨ j = 7 := by omega
  rcases hj with rfl | rfl | rfl | rfl | rfl | rfl | rfl | rfl
  · exact absurd (by decide) h4
  · exact absurd (by decide) h4
  · exact absurd (by decide) h4
  · exact absurd (by decide) h4
  · exact Or.inr (Or.inl rfl)
  · exact Or.inr (Or.inr rfl)
  · exact Or.inl rfl
  · exact absurd rfl n7
theorem ie_fitY {s : Nat} {k n : Int32} {post : Int32 → Prop} {K A B N Mk P F G : Nat → Int32} (h0 : ¬ k < 0) (h7 : ¬ 7 < k) (h1 : ie_fit s k n → post 1) (h2 : ¬ ie_fit s k n → post 0) : wpY_fits post (nI s, K, A, B, N, Mk, P, F, G) k n := by
  have free : ¬ k = 0 → ¬ k = 3 → ¬ k = 4 → ¬ k = 5 → ¬ k = 6 → post 1 := fun n0 n3 n4 n5 n6 => h1 ⟨fun e => absurd e n0, fun e => absurd e n3, fun e => e.elim (fun e => absurd e n6) (fun e => e.elim (fun e => absurd e n4) (fun e => absurd e n5))⟩
  refine br_c (fun k0 => br_c (fun l => h2 (fun f => (f.1 k0).1 l)) (fun l => br_c (fun g => h2 (fun f => (f.1 k0).2 g)) (fun g => h1 ⟨fun _ => ⟨l, g⟩, fun e => ?_, fun e => ?_⟩))) (fun n0 => br_c (fun k3 => br_c (fun l => h2 (fun f => (f.2.1 k3).1 l)) (fun l => br_c (fun g => h2 (fun f => (f.2.1 k3).2 g)) (fun g => h1 ⟨fun e => absurd e n0, fun _ => ⟨l, g⟩, fun e => ?_⟩))) (fun n3 => br_c (fun l => free n0 n3 ?_ ?_ ?_) (fun h4 => br_c (fun k7 => free n0 n3 ?_ ?_ ?_) (fun n7 => ?_))))
  · rw [k0] at e; exact absurd e (by decide)
  · rw [k0] at e; exact absurd e (by decide)
  · rw [k3] at e; exact absurd e (by decide)
  · intro e; rw [e] at l; exact absurd l (by decide)
  · intro e; rw [e] at l; exact absurd l (by decide)
  · intro e; rw [e] at l; exact absurd l (by decide)
  · rw [k7]; decide
  · rw [k7]; decide
  · rw [k7]; decide
  · have e := ie_456 h0 h7 h4 n7
    exact br_c (fun l => h2 (fun f => (f.2.2 e).1 l)) (fun l => br_c (fun g => h2 (fun f => (f.2.2 e).2 g)) (fun g => h1 ⟨fun e => absurd e n0, fun e => absurd e n3, fun _ => ⟨l, g⟩⟩))
theorem ie_upLt {f : Nat → Int32} {s p : Nat} {x : Int32} (h : p < s) : upd f s x p = f p := pk_un (by omega)
/-- the program with one step more -/
theorem ie_OkS {s a b : Nat} {k n : Int32} {K A B N : Nat → Int32} (ok : ie_Ok s K A B N) (ha : a < 4) (hb : b < 4) (hf : ie_fit s k n) (hs : s < 12) : ie_Ok (s + 1) (upd K s k) (upd A s (nI a)) (upd B s (nI b)) (upd N s n) := by
  intro p hp
  by_cases e : p = s
  · subst e
    rw [pk_us, pk_us, pk_us, pk_us]
    refine ⟨⟨a, ha, rfl⟩, ⟨b, hb, rfl⟩, fun e => ?_, fun e => ?_, fun e => ?_⟩
    · obtain ⟨h1, h2⟩ := hf.1 e
      rw [Int32.lt_iff_toInt_lt] at h1 h2
      have c1 : (-20 : Int32).toInt = -20 := by decide
      have c2 : (20 : Int32).toInt = 20 := by decide
      omega
    · obtain ⟨h1, h2⟩ := hf.2.1 e
      rw [Int32.lt_iff_toInt_lt] at h1 h2
      have c1 : (-3 : Int32).toInt = -3 := by decide
      have c2 : (3 : Int32).toInt = 3 := by decide
      omega
    · obtain ⟨h1, h2⟩ := hf.2.2 e
      have hn : ¬ n < 0 := fun z => by
        rw [Int32.le_iff_toInt_le, nI_toInt (by omega)] at h1
        rw [Int32.lt_iff_toInt_lt] at z
        have c0 : (0 : Int32).toInt = 0 := by decide
        omega
      obtain ⟨t, ht, rfl⟩ := nI_of2 (M := 12) (n := 12) (by decide) hn (Int32.not_lt.mp h2)
      rw [nI_leI (by omega) (by omega)] at h1
      exact ⟨t, by omega, ht, rfl⟩
  · have hp : p < s := by omega
    rw [ie_upLt hp, ie_upLt hp, ie_upLt hp, ie_upLt hp]
    exact ok p hp
theorem i_vc_step {k : Nat} {u : SX} {v : SY} (I : i_Rel k u v) (hk : k + 4 ≤ 2048) (v1 : Int32) (v2 : Int32) (v3 : Int32) : wpX_step (fun r u' => wpY_step (fun r' v' => r' = r ∧ i_Rel (k + 4) u' v') v v1 v2 v3) u v1 v2 v3 := by
  have I' := i_up I
  obtain ⟨s, K, A, B, N, P, F, G, Mk, M', P', F', G', hs, ok, T, hM, rfl, rfl⟩ := I
  by_cases a0 : v1 < 0
  · exact br_t a0 (br_t a0 ⟨rfl, I'⟩)
  by_cases a7 : 7 < v1
  · exact br_f a0 (br_t a7 (br_f a0 (br_t a7 ⟨rfl, I'⟩)))
  by_cases b0 : v2 < 0
  · exact br_f a0 (br_f a7 (br_t b0 (br_f a0 (br_f a7 (br_t b0 ⟨rfl, I'⟩)))))
  by_cases b15 : 15 < v2
  · exact br_f a0 (br_f a7 (br_f b0 (br_t b15 (br_f a0 (br_f a7 (br_f b0 (br_t b15 ⟨rfl, I'⟩)))))))
  refine br_f a0 (br_f a7 (br_f b0 (br_f b15 (ie_fitX a0 (fun f => br_f (by decide) ?_) (fun f => br_t rfl ?_)))))
  · by_cases h12 : s < 12
    · obtain ⟨c, hc, rfl⟩ := nI_of2 (M := 15) (n := 15) (by decide) b0 (Int32.not_lt.mp b15)
      have ea : nI c - nI c / 4 * 4 = nI (c % 4) := pk_rem (d := 4) (by omega) (by decide) (by decide)
      have eb : nI c / 4 = nI (c / 4) := pk_div (d := 4) (by omega) (by decide) (by decide)
      have ya : nI c &&& 3 = nI (c % 4) := pk_andN (by omega) 2 (by decide)
      have yb : nI c >>> ((2 : Int32) &&& 31) = nI (c / 4) := pk_shrN (by omega) _ 2 (by decide)
      have cs : (nI s).toNatClampNeg = s := nI_clamp (by omega)
      have vs : vp_in (nI s) 12 := vp_in_nI h12 (by decide)
      have ok' : ie_Ok (s + 1) (upd K s v1) (upd A s (nI (c % 4))) (upd B s (nI (c / 4))) (upd N s v3) := ie_OkS ok (by omega) (by omega) f h12
      have hlt : nI s < 12 := nI_lt (b := 12) h12 (by decide)
      refine br_t hlt ?_
      rw [cs, ea, eb]
      refine ⟨vs, nm_e ⟨by decide, vs, nm_e ⟨by decide, vs, nm_e ⟨vs, nm_e (nm_r (nI_1 s) ?_)⟩⟩⟩⟩
      refine xr_all (by omega) ok' (fun P2 F2 G2 M2 T2 hM2 => ?_)
      refine br_f a0 (br_f a7 (br_f b0 (br_f b15 (ie_fitY a0 a7 (fun _ => br_f (by decide) (br_t hlt (yr_forget (fun M3 hM3 => ?_)))) (fun nf => absurd f nf)))))
      dsimp only
      rw [cs, ya, yb]
      refine ⟨vs, nm_e ⟨vs, nm_e ⟨vs, nm_e ⟨vs, nm_e (nm_r (nI_1 s) ⟨nI_pred s, ie_Rz (by omega) ok' T2 hM2 hM3⟩)⟩⟩⟩⟩
    · have hlt : ¬ nI s < 12 := nI_nlt (b := 12) (by omega) (by omega)
      exact br_f hlt (br_f a0 (br_f a7 (br_f b0 (br_f b15 (ie_fitY a0 a7 (fun _ => br_f (by decide) (br_f hlt ⟨rfl, I'⟩)) (fun nf => absurd f nf))))))
  · exact br_f a0 (br_f a7 (br_f b0 (br_f b15 (ie_fitY a0 a7 (fun yf => absurd yf f) (fun _ => br_t rfl ⟨rfl, I'⟩)))))
theorem i_vc_drop {k : Nat} {u : SX} {v : SY} (I : i_Rel k u v) (hk : k + 4 ≤ 2048) : wpX_drop (fun r u' => wpY_drop (fun r' v' => r' = r ∧ i_Rel (k + 4) u' v') v) u := by
  have I' := i_up I
  obtain ⟨s, K, A, B, N, P, F, G, Mk, M', P', F', G', hs, ok, T, hM, rfl, rfl⟩ := I
  by_cases h0 : s = 0
  · subst h0
    exact br_f (by decide) (br_t rfl ⟨rfl, I'⟩)
  obtain ⟨t, rfl⟩ : ∃ t, s = t + 1 := ⟨s - 1, by omega⟩
  have ok' : ie_Ok t K A B N := fun p hp => ok p (by omega)
  refine br_t (nI_lt (a := 0) (by omega) (by omega)) (nm_r (nI_pred t) ?_)
  refine xr_all (by omega) ok' (fun P2 F2 G2 M2 T2 hM2 => ?_)
  refine br_f (nI_ne0 (by omega) (by omega)) (yr_forget (fun M3 hM3 => ?_))
  exact nm_r (nI_pred t) ⟨rfl, ie_Rz (by omega) ok' T2 hM2 hM3⟩
theorem i_vc_length {k : Nat} {u : SX} {v : SY} (I : i_Rel k u v) (hk : k + 4 ≤ 2048) : wpX_length (fun r => wpY_length (fun r' => r' = r ∧ i_Rel (k + 4) u v) v) u := by
  have I' := i_up I
  obtain ⟨s, K, A, B, N, P, F, G, Mk, M', P', F', G', hs, ok, T, hM, rfl, rfl⟩ := I
  exact ⟨rfl, I'⟩
theorem ie_ix (x : Int32) {n : Nat} (hn : n < 2 ^ 31) : (x < 0 ∨ nI n ≤ x) ∨ ∃ j : Nat, j < n ∧ x = nI j := by
  rcases pk_ix x hn with h | h | h
  · exact Or.inl (Or.inl h)
  · exact Or.inl (Or.inr h)
  · exact Or.inr h
theorem i_vc_reach {k : Nat} {u : SX} {v : SY} (I : i_Rel k u v) (hk : k + 4 ≤ 2048) (v1 : Int32) : wpX_reach (fun r => wpY_reach (fun r' v' => r' = r ∧ i_Rel (k + 4) u v') v v1) u v1 := by
  obtain ⟨s, K, A, B, N, P, F, G, Mk, M', P', F', G', hs, ok, T, hM, rfl, rfl⟩ := I
  unfold wpX_reach
  dsimp only
  rcases ie_ix v1 (n := s) (by omega) with hx | ⟨p, hp, rfl⟩
  · exact xq_is0 hx (br_t rfl (yr_work hs ok (fun P2 F2 G2 T2 => yq_reach0 hx ⟨rfl, ie_R hs ok T hM⟩)))
  · exact xq_is1 hs hp (br_f (by decide) (xq_reach hs T hp (yr_work hs ok (fun P2 F2 G2 T2 => yq_reach hs T2 hp ⟨rfl, ie_R hs ok T hM⟩))))
/-- where a search from x begins -/
theorem ie_from {f : Nat → Prop} (x : Int32) : ∃ r : Int32, ie_fs (fun j => ¬ nI j < x ∧ f j) 256 0 r ∧ ((0 ≤ x → (∃ i : Nat, i < 256 ∧ x = nI i ∧ ie_fs f 256 i r) ∨ (256 ≤ x ∧ r = -1)) ∧ (¬ 0 ≤ x → ie_fs f 256 0 r)) := by
  rcases pk_ix x (n := 256) (by decide) with h | h | ⟨i, hi, rfl⟩
  · obtain ⟨r, hr⟩ := ie_fsE f 256 0
    refine ⟨r, ie_fsF hr (fun j hj => ⟨fun z => ⟨Nat.zero_le j, z.2⟩, fun z => ⟨fun l => ?_, z.2⟩⟩), fun z => absurd h (Int32.not_lt.mpr z), fun _ => hr⟩
    exact nI_pos (n := j) (by omega) (Int32.lt_trans l h)
  · refine ⟨-1, Or.inr ⟨fun j _ hj z => z.1 ?_, rfl⟩, fun _ => Or.inr ⟨h, rfl⟩, fun z => absurd (Int32.le_trans (by decide) h) z⟩
    exact Int32.lt_of_lt_of_le (nI_lt hj (by decide)) h
  · obtain ⟨r, hr⟩ := ie_fsE f 256 i
    refine ⟨r, ie_fsF hr (fun j hj => ?_), fun _ => Or.inl ⟨i, hi, rfl, hr⟩, fun z => absurd (nI_pos' (by omega)) z⟩
    rw [nI_ltI (by omega) (by omega), Nat.not_lt]
theorem i_vc_firstAt {k : Nat} {u : SX} {v : SY} (I : i_Rel k u v) (hk : k + 4 ≤ 2048) (v1 : Int32) (v2 : Int32) : wpX_firstAt (fun r => wpY_firstAt (fun r' v' => r' = r ∧ i_Rel (k + 4) u v') v v1 v2) u v1 v2 := by
  obtain ⟨s, K, A, B, N, P, F, G, Mk, M', P', F', G', hs, ok, T, hM, rfl, rfl⟩ := I
  unfold wpX_firstAt
  dsimp only
  rcases ie_ix v1 (n := s) (by omega) with hx | ⟨p, hp, rfl⟩
  · exact xq_is0 hx (br_t rfl (yr_work hs ok (fun P2 F2 G2 T2 => yq_firstAt0 hx ⟨rfl, ie_R hs ok T hM⟩)))
  · obtain ⟨r, hr, h1, h2⟩ := ie_from (f := fun j => ie_b s K A B N p j = 1) v2
    have hY : wpY_firstAt (fun r' v' => r' = r ∧ i_Rel (k + 4) (nI s, nI (ie_cnt (ie_mk Mk) 4096), K, A, B, N, P, F, G, Mk) v') (nI s, K, A, B, N, M', P', F', G') (nI p) v2 :=
      yr_work hs ok (fun P2 F2 G2 T2 => ⟨257, yq_firstAt (r := r) hs T2 hp ⟨rfl, ie_R hs ok T hM⟩ 256 0 rfl hr⟩)
    refine xq_is1 hs hp (br_f (by decide) (br_c (fun z => ?_) (fun z => ⟨257, xq_firstAt (r := r) hs T hp hY 256 0 rfl (h2 z)⟩)))
    rcases h1 z with ⟨i, hi, rfl, hf⟩ | ⟨hg, rfl⟩
    · exact ⟨256 - i + 1, xq_firstAt (r := r) hs T hp hY (256 - i) i (by omega) hf⟩
    · exact ⟨1, br_t hg hY⟩
theorem i_vc_failing {k : Nat} {u : SX} {v : SY} (I : i_Rel k u v) (hk : k + 4 ≤ 2048) : wpX_failing (fun r => wpY_failing (fun r' v' => r' = r ∧ i_Rel (k + 4) u v') v) u := by
  obtain ⟨s, K, A, B, N, P, F, G, Mk, M', P', F', G', hs, ok, T, hM, rfl, rfl⟩ := I
  exact xq_failing T (yr_work hs ok (fun P2 F2 G2 T2 => yq_failing T2 ⟨rfl, ie_R hs ok T hM⟩))
theorem i_vc_firstFailing {k : Nat} {u : SX} {v : SY} (I : i_Rel k u v) (hk : k + 4 ≤ 2048) (v1 : Int32) : wpX_firstFailing (fun r => wpY_firstFailing (fun r' v' => r' = r ∧ i_Rel (k + 4) u v') v v1) u v1 := by
  obtain ⟨s, K, A, B, N, P, F, G, Mk, M', P', F', G', hs, ok, T, hM, rfl, rfl⟩ := I
  obtain ⟨r, hr, h1, h2⟩ := ie_from (f := fun j => ¬ ie_f s K A B N j = 0) v1
  have hY : wpY_firstFailing (fun r' v' => r' = r ∧ i_Rel (k + 4) (nI s, nI (ie_cnt (ie_mk Mk) 4096), K, A, B, N, P, F, G, Mk) v') (nI s, K, A, B, N, M', P', F', G') v1 :=
    yr_work hs ok (fun P2 F2 G2 T2 => ⟨257, yq_firstFailing (r := r) T2 ⟨rfl, ie_R hs ok T hM⟩ 256 0 rfl hr⟩)
  refine br_c (fun z => ?_) (fun z => ⟨257, xq_firstFailing (r := r) T hY 256 0 rfl (h2 z)⟩)
  rcases h1 z with ⟨i, hi, rfl, hf⟩ | ⟨hg, rfl⟩
  · exact ⟨256 - i + 1, xq_firstFailing (r := r) T hY (256 - i) i (by omega) hf⟩
  · exact ⟨1, br_t hg hY⟩
theorem i_vc_paths {k : Nat} {u : SX} {v : SY} (I : i_Rel k u v) (hk : k + 4 ≤ 2048) : wpX_paths (fun r => wpY_paths (fun r' v' => r' = r ∧ i_Rel (k + 4) u v') v) u := by
  obtain ⟨s, K, A, B, N, P, F, G, Mk, M', P', F', G', hs, ok, T, hM, rfl, rfl⟩ := I
  exact xq_paths hs T (yr_work hs ok (fun P2 F2 G2 T2 => yq_paths hs T2 ⟨rfl, ie_R hs ok T hM⟩))
theorem i_vc_alike {k : Nat} {u : SX} {v : SY} (I : i_Rel k u v) (hk : k + 4 ≤ 2048) (v1 : Int32) : wpX_alike (fun r => wpY_alike (fun r' v' => r' = r ∧ i_Rel (k + 4) u v') v v1) u v1 := by
  obtain ⟨s, K, A, B, N, P, F, G, Mk, M', P', F', G', hs, ok, T, hM, rfl, rfl⟩ := I
  unfold wpX_alike
  dsimp only
  rcases ie_ix v1 (n := 256) (by decide) with hx | ⟨q, hq, rfl⟩
  · exact xq_in0 hx (br_t rfl (yr_work hs ok (fun P2 F2 G2 T2 => yq_alike0 hx ⟨rfl, ie_R hs ok T hM⟩)))
  · exact xq_in1 hq (br_f (by decide) (xq_alike hs T hq (yr_work hs ok (fun P2 F2 G2 T2 => yq_alike hs T2 hq ⟨rfl, ie_R hs ok T hM⟩))))
theorem i_vc_first {k : Nat} {u : SX} {v : SY} (I : i_Rel k u v) (hk : k + 4 ≤ 2048) (v1 : Int32) : wpX_first (fun r => wpY_first (fun r' v' => r' = r ∧ i_Rel (k + 4) u v') v v1) u v1 := by
  obtain ⟨s, K, A, B, N, P, F, G, Mk, M', P', F', G', hs, ok, T, hM, rfl, rfl⟩ := I
  unfold wpX_first
  dsimp only
  rcases ie_ix v1 (n := 256) (by decide) with hx | ⟨q, hq, rfl⟩
  · exact xq_in0 hx (br_t rfl (yr_work hs ok (fun P2 F2 G2 T2 => yq_in0 hx (br_t rfl ⟨rfl, ie_R hs ok T hM⟩))))
  · exact xq_in1 hq (br_f (by decide) (xq_least hs T hq (yr_work hs ok (fun P2 F2 G2 T2 => yq_in1 hq (br_f (by decide) (yq_least hs T2 hq ⟨rfl, ie_R hs ok T hM⟩))))))
theorem i_vc_mark {k : Nat} {u : SX} {v : SY} (I : i_Rel k u v) (hk : k + 4 ≤ 2048) (v1 : Int32) : wpX_mark (fun r u' => wpY_mark (fun r' v' => r' = r ∧ i_Rel (k + 4) u' v') v v1) u v1 := by
  have I' := i_up I
  obtain ⟨s, K, A, B, N, P, F, G, Mk, M', P', F', G', hs, ok, T, hM, rfl, rfl⟩ := I
  unfold wpX_mark
  dsimp only
  rcases ie_ix v1 (n := 256) (by decide) with hx | ⟨q, hq, rfl⟩
  · refine xq_in0 hx (br_t rfl ?_)
    unfold wpY_mark
    exact yq_in0 hx (br_t rfl ⟨rfl, I'⟩)
  have cq : (nI q).toNatClampNeg = q := nI_clamp (by omega)
  have hp := ie_runP12 hs K A B N q
  have cp : (nI (ie_run s K A B N q).1).toNatClampNeg = (ie_run s K A B N q).1 := nI_clamp (by omega)
  have vq : vp_in (nI q) 256 := vp_in_nI hq (by decide)
  have vp : vp_in (nI (ie_run s K A B N q).1) 4096 := vp_in_nI hp (by decide)
  -- the reference, with the marks that the component then has
  have hY : ∀ M2 : Nat → Int32, (∀ j, j < 4096 → (upd M' (ie_run s K A B N q).1 1 j = 0 ↔ M2 j = 0)) → wpY_mark (fun r' v' => r' = nI (ie_cnt (ie_mk M2) 4096) ∧ i_Rel (k + 4) (nI s, nI (ie_cnt (ie_mk M2) 4096), K, A, B, N, P, F, G, M2) v') (nI s, K, A, B, N, M', P', F', G') (nI q) := fun M2 h2 => by
    unfold wpY_mark
    refine yq_in1 hq (br_f (by decide) (yr_work hs ok (fun P2 F2 G2 T2 => ?_)))
    dsimp only
    rw [cq, (T2 q hq).1, cp, ie_nb1]
    refine ⟨vq, vp, nm_e (yq_mark ⟨congrArg nI (ie_cntC 4096 (fun i hi => ?_)), ie_R hs ok T h2⟩)⟩
    unfold ie_mk
    by_cases z : M2 i = 0
    · rw [if_pos z, if_pos ((h2 i hi).mpr z)]
    · rw [if_neg z, if_neg (fun y => z ((h2 i hi).mp y))]
  refine xq_in1 hq (br_f (by decide) ?_)
  rw [cq, (T q hq).1]
  refine ⟨vq, nm_e ⟨vp, ?_⟩⟩
  rw [cp, ie_nb1]
  refine br_c (fun z => ⟨vp, nm_e (nm_r (nI_1 _) ?_)⟩) (fun z => ?_)
  · have e : ie_cnt (ie_mk (upd Mk (ie_run s K A B N q).1 1)) 4096 = ie_cnt (ie_mk Mk) 4096 + 1 := by
      refine ie_cntU (c := (ie_run s K A B N q).1) 4096 hp (fun i hi => ?_) ?_
      · unfold ie_mk
        rw [pk_un hi]
      · unfold ie_mk
        rw [pk_us, if_pos z]
        rfl
    rw [← e]
    refine hY _ (fun j hj => ?_)
    by_cases ej : j = (ie_run s K A B N q).1
    · subst ej
      rw [pk_us, pk_us]
    · rw [pk_un ej, pk_un ej]
      exact hM j hj
  · refine hY _ (fun j hj => ?_)
    by_cases ej : j = (ie_run s K A B N q).1
    · subst ej
      rw [pk_us]
      exact ⟨fun y => absurd y (by decide), fun y => absurd y z⟩
    · rw [pk_un ej]
      exact hM j hj
theorem i_vc_unmarked {k : Nat} {u : SX} {v : SY} (I : i_Rel k u v) (hk : k + 4 ≤ 2048) : wpX_unmarked (fun r => wpY_unmarked (fun r' v' => r' = r ∧ i_Rel (k + 4) u v') v) u := by
  obtain ⟨s, K, A, B, N, P, F, G, Mk, M', P', F', G', hs, ok, T, hM, rfl, rfl⟩ := I
  obtain ⟨r, hr⟩ := ie_fsE (fun j => Mk (ie_p s K A B N j) = 0) 256 0
  have hr2 : ie_fs (fun j => M' (ie_p s K A B N j) = 0) 256 0 r := ie_fsF hr (fun j _ => ⟨fun z => ⟨Nat.zero_le j, (hM _ (ie_runP12 hs K A B N j)).mp z⟩, fun z => (hM _ (ie_runP12 hs K A B N j)).mpr z.2⟩)
  exact ⟨257, xq_unmarked hs T (yr_work hs ok (fun P2 F2 G2 T2 => ⟨257, yq_unmarked hs T2 ⟨rfl, ie_R hs ok T hM⟩ 256 0 rfl hr2⟩)) 256 0 rfl hr⟩
theorem i_vc_extreme {k : Nat} {u : SX} {v : SY} (I : i_Rel k u v) (hk : k + 4 ≤ 2048) (v1 : Int32) (v2 : Int32) : wpX_extreme (fun r => wpY_extreme (fun r' v' => r' = r ∧ i_Rel (k + 4) u v') v v1 v2) u v1 v2 := by
  obtain ⟨s, K, A, B, N, P, F, G, Mk, M', P', F', G', hs, ok, T, hM, rfl, rfl⟩ := I
  unfold wpX_extreme
  dsimp only
  have hY : (v1 < 0 ∨ nI 4 ≤ v1) ∨ ¬ (v2 = 0 ∨ v2 = 1) → wpY_extreme (fun r' v' => r' = -1000000000 ∧ i_Rel (k + 4) (nI s, nI (ie_cnt (ie_mk Mk) 4096), K, A, B, N, P, F, G, Mk) v') (nI s, K, A, B, N, M', P', F', G') v1 v2 := fun hx =>
    yr_work hs ok (fun P2 F2 G2 T2 => yq_extreme0 hx ⟨rfl, ie_R hs ok T hM⟩)
  rcases ie_ix v1 (n := 4) (by decide) with hx | ⟨q, hq, rfl⟩
  · exact xq_rg0 hx (br_t rfl (hY (Or.inl hx)))
  refine xq_rg1 hq (br_f (by decide) (br_c (fun z => hY (Or.inr ?_)) (fun z => br_c (fun y => ?_) (fun y => hY (Or.inr ?_)))))
  · rintro (e | e)
    · rw [e] at z; exact absurd z (by decide)
    · rw [e] at z; exact absurd z (by decide)
  · have hw : v2 = 0 ∨ v2 = 1 := by
      obtain ⟨j, hj, rfl⟩ := nI_of2 (M := 1) (n := 1) (by decide) z y
      have hj : j = 0 ∨ j = 1 := by omega
      rcases hj with rfl | rfl
      · exact Or.inl rfl
      · exact Or.inr rfl
    exact xq_extreme hs ok T hq (yr_work hs ok (fun P2 F2 G2 T2 => yq_extreme hs ok T2 hq hw ⟨rfl, ie_R hs ok T hM⟩))
  · rintro (e | e)
    · rw [e] at y; exact absurd (by decide) y
    · rw [e] at y; exact absurd (by decide) y
theorem i_vc_ending {k : Nat} {u : SX} {v : SY} (I : i_Rel k u v) (hk : k + 4 ≤ 2048) (v1 : Int32) (v2 : Int32) : wpX_ending (fun r => wpY_ending (fun r' v' => r' = r ∧ i_Rel (k + 4) u v') v v1 v2) u v1 v2 := by
  obtain ⟨s, K, A, B, N, P, F, G, Mk, M', P', F', G', hs, ok, T, hM, rfl, rfl⟩ := I
  unfold wpX_ending
  dsimp only
  rcases ie_ix v1 (n := 4) (by decide) with hx | ⟨q, hq, rfl⟩
  · exact xq_rg0 hx (br_t rfl (yr_work hs ok (fun P2 F2 G2 T2 => yq_ending0 hx ⟨rfl, ie_R hs ok T hM⟩)))
  · exact xq_rg1 hq (br_f (by decide) (xq_ending T hq (yr_work hs ok (fun P2 F2 G2 T2 => yq_ending T2 hq ⟨rfl, ie_R hs ok T hM⟩))))
theorem i_vc_steps {k : Nat} {u : SX} {v : SY} (I : i_Rel k u v) (hk : k + 4 ≤ 2048) (v1 : Int32) : wpX_steps (fun r => wpY_steps (fun r' v' => r' = r ∧ i_Rel (k + 4) u v') v v1) u v1 := by
  obtain ⟨s, K, A, B, N, P, F, G, Mk, M', P', F', G', hs, ok, T, hM, rfl, rfl⟩ := I
  unfold wpX_steps
  dsimp only
  rcases ie_ix v1 (n := 256) (by decide) with hx | ⟨q, hq, rfl⟩
  · exact xq_in0 hx (br_t rfl (yr_work hs ok (fun P2 F2 G2 T2 => yq_steps0 hx ⟨rfl, ie_R hs ok T hM⟩)))
  · exact xq_in1 hq (br_f (by decide) (xq_steps hs T hq (yr_work hs ok (fun P2 F2 G2 T2 => yq_steps hs T2 hq ⟨rfl, ie_R hs ok T hM⟩))))
