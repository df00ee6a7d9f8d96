/-! what the questions read: bits, counts, the least input of a path -/
def ie_b (s : Nat) (K A B N : Nat → Int32) (p i : Nat) : Nat := (ie_run s K A B N i).1 / 2 ^ p % 2
def ie_p (s : Nat) (K A B N : Nat → Int32) (i : Nat) : Nat := (ie_run s K A B N i).1
def ie_f (s : Nat) (K A B N : Nat → Int32) (i : Nat) : Int32 := (ie_run s K A B N i).2.1
def ie_v (s : Nat) (K A B N : Nat → Int32) (r i : Nat) : Int32 := (ie_run s K A B N i).2.2 r
theorem ie_b2 (s : Nat) (K A B N : Nat → Int32) (p i : Nat) : ie_b s K A B N p i < 2 := Nat.mod_lt _ (by decide)
theorem ie_b0 {s : Nat} {K A B N : Nat → Int32} {p i : Nat} (h : s ≤ p) : ie_b s K A B N p i = 0 := by
  have := Nat.lt_of_lt_of_le (ie_runP s K A B N i) (Nat.pow_le_pow_right (n := 2) (by decide) h)
  rw [ie_b, Nat.div_eq_of_lt this]
theorem ie_pi {s : Nat} {K A B N : Nat → Int32} (hs : s ≤ 12) (i j : Nat) : nI (ie_run s K A B N i).1 = nI (ie_run s K A B N j).1 ↔ ie_p s K A B N i = ie_p s K A B N j := by
  have h1 := ie_runP12 hs K A B N i
  have h2 := ie_runP12 hs K A B N j
  exact nI_eq (by omega) (by omega)
theorem ie_c1 {f : Nat → Nat} {n : Nat} (e : f n = 1) : nI (ie_cnt f n + 1) = nI (ie_cnt f (n + 1)) := by rw [ie_cnt, e]
theorem ie_c0 {f : Nat → Nat} {n : Nat} (e : f n = 0) : nI (ie_cnt f n) = nI (ie_cnt f (n + 1)) := by rw [ie_cnt, e]; rfl
theorem ie_cz {M : Nat → Int32} (h : ∀ j, j < 4096 → M j = 0) : ie_cnt (ie_mk M) 4096 = 0 := by
  have := ie_cnt0 (f := ie_mk M) (s := 0) 4096 (fun i _ hi => by rw [ie_mk, if_pos (h i (by omega))])
  rw [Nat.zero_add] at this
  exact this
/-- the least j up to i with g j = g i -/
def ie_L (g : Nat → Nat) (x : Nat) : Nat → Nat → Nat
  | 0, j => j
  | d + 1, j => if g j = x then j else ie_L g x d (j + 1)
theorem ie_Lp (g : Nat → Nat) (x : Nat) : ∀ d j, g (j + d) = x → j ≤ ie_L g x d j ∧ ie_L g x d j ≤ j + d ∧ g (ie_L g x d j) = x ∧ ∀ k, j ≤ k → k < ie_L g x d j → g k ≠ x := by
  intro d
  induction d with
  | zero => intro j h; exact ⟨Nat.le_refl _, Nat.le_refl _, h, fun k h1 h2 => absurd h2 (Nat.not_lt.mpr h1)⟩
  | succ d ih =>
    intro j h
    by_cases e : g j = x
    · rw [ie_L, if_pos e]
      exact ⟨Nat.le_refl _, by omega, e, fun k h1 h2 => absurd h2 (Nat.not_lt.mpr h1)⟩
    · rw [ie_L, if_neg e]
      obtain ⟨h1, h2, h3, h4⟩ := ih (j + 1) (by rw [show j + 1 + d = j + (d + 1) by omega]; exact h)
      refine ⟨by omega, by omega, h3, fun k hk1 hk2 => ?_⟩
      by_cases ek : k = j
      · rw [ek]; exact e
      · exact h4 k (by omega) hk2
def ie_l (g : Nat → Nat) (i : Nat) : Nat := ie_L g (g i) i 0
theorem ie_lp (g : Nat → Nat) (i : Nat) : ie_l g i ≤ i ∧ g (ie_l g i) = g i ∧ ∀ k, k < ie_l g i → g k ≠ g i := by
  obtain ⟨_, h2, h3, h4⟩ := ie_Lp g (g i) i 0 (by rw [Nat.zero_add])
  rw [Nat.zero_add] at h2
  exact ⟨h2, h3, fun k hk => h4 k (Nat.zero_le k) hk⟩
/-! the component's readings -/
section
variable {s : Nat} {fm : Int32} {K A B N P F G Mk : Nat → Int32}
theorem xq_does {post : Int32 → Prop} {i p : Nat} (hs : s ≤ 12) (T : ie_T s K A B N P F G 256) (hi : i < 256) (hp : p < 12) (h1 : ie_b s K A B N p i = 1 → post 1) (h0 : ie_b s K A B N p i = 0 → post 0) : wpX_doesStep post (nI s, fm, K, A, B, N, P, F, G, Mk) (nI i) (nI p) := by
  have ci : (nI i).toNatClampNeg = i := nI_clamp (by omega)
  have hr := ie_runP12 hs K A B N i
  have hb := ie_b2 s K A B N p i
  have e : (P i >>> (nI p &&& 31)) &&& 1 = nI (ie_b s K A B N p i) := by
    rw [(T i hi).1]
    exact ie_bit (by omega) (by omega)
  unfold wpX_doesStep
  dsimp only
  rw [ci, e]
  exact ⟨vp_in_nI hi (by decide), pk_eq (ie_b s K A B N p i) 1 (fun z => h1 z) (fun z => h0 (by omega))⟩
theorem xq_reach {post : Int32 → Prop} {p : Nat} (hs : s ≤ 12) (T : ie_T s K A B N P F G 256) (hp : p < s) (h : post (nI (ie_cnt (ie_b s K A B N p) 256))) : ∃ n, wX_reach_14 post (nI p) (nI s) fm K A B N P F G Mk n 0 0 := by
  refine loop_0 (fun n i (c : Int32) => wX_reach_14 post (nI p) (nI s) fm K A B N P F G Mk n c (nI i)) (fun i c => c = nI (ie_cnt (ie_b s K A B N p) i)) 256 0 rfl ?_ ?_
  · rintro n c rfl
    exact br_t (nI_le (a := 256) (by omega) (by decide)) h
  · rintro n i c hi rfl hk
    exact br_f (nI_ge (b := 256) hi (by decide)) (xq_does hs T hi (by omega) (fun e => br_f (by decide) (nm_r (nI_1 _) (nm_r (nI_1 i) (hk _ (ie_c1 e))))) (fun e => br_t rfl (nm_r (nI_1 i) (hk _ (ie_c0 e)))))
theorem xq_firstAt {post : Int32 → Prop} {p : Nat} {r : Int32} (hs : s ≤ 12) (T : ie_T s K A B N P F G 256) (hp : p < s) (h : post r) : ∀ d i : Nat, i + d = 256 → ie_fs (fun j => ie_b s K A B N p j = 1) 256 i r → wX_firstAt_20 post (nI p) (nI s) fm K A B N P F G Mk (d + 1) (nI i) := by
  intro d
  induction d with
  | zero =>
    intro i hi hr
    rw [ie_fsZ hr (by omega)] at h
    exact br_t (nI_le (a := 256) (by omega) (by omega)) h
  | succ d ih =>
    intro i hi hr
    refine br_f (nI_ge (b := 256) (by omega) (by decide)) (xq_does hs T (by omega) (by omega) (fun e => br_f (by decide) ?_) (fun e => br_t rfl (nm_r (nI_1 i) (ih (i + 1) (by omega) (ie_fsM hr (by rw [e]; decide))))))
    rw [ie_fsH hr (by omega) e] at h
    exact h
theorem xq_failing {post : Int32 → Prop} (T : ie_T s K A B N P F G 256) (h : post (nI (ie_cnt (ie_mk (ie_f s K A B N)) 256))) : ∃ n, wX_failing_4 post (nI s) fm K A B N P F G Mk n 0 0 := by
  refine loop_0 (fun n i (c : Int32) => wX_failing_4 post (nI s) fm K A B N P F G Mk n c (nI i)) (fun i c => c = nI (ie_cnt (ie_mk (ie_f s K A B N)) i)) 256 0 rfl ?_ ?_
  · rintro n c rfl
    exact br_t (nI_le (a := 256) (by omega) (by decide)) h
  · rintro n i c hi rfl hk
    have e : F (nI i).toNatClampNeg = ie_f s K A B N i := by rw [nI_clamp (by omega)]; exact (T i hi).2.1
    refine br_f (nI_ge (b := 256) hi (by decide)) ⟨vp_in_nI hi (by decide), ?_⟩
    rw [e]
    exact br_c (fun z => nm_r (nI_1 i) (hk _ (ie_c0 (by rw [ie_mk, if_pos z])))) (fun z => nm_r (nI_1 _) (nm_r (nI_1 i) (hk _ (ie_c1 (by rw [ie_mk, if_neg z])))))
theorem xq_firstFailing {post : Int32 → Prop} {r : Int32} (T : ie_T s K A B N P F G 256) (h : post r) : ∀ d i : Nat, i + d = 256 → ie_fs (fun j => ¬ ie_f s K A B N j = 0) 256 i r → wX_firstFailing_10 post (nI s) fm K A B N P F G Mk (d + 1) (nI i) := by
  intro d
  induction d with
  | zero =>
    intro i hi hr
    rw [ie_fsZ hr (by omega)] at h
    exact br_t (nI_le (a := 256) (by omega) (by omega)) h
  | succ d ih =>
    intro i hi hr
    have e : F (nI i).toNatClampNeg = ie_f s K A B N i := by rw [nI_clamp (by omega)]; exact (T i (by omega)).2.1
    refine br_f (nI_ge (b := 256) (by omega) (by decide)) ⟨vp_in_nI (by omega) (by decide), ?_⟩
    rw [e]
    refine br_c (fun z => nm_r (nI_1 i) (ih (i + 1) (by omega) (ie_fsM hr (fun y => y z)))) (fun z => ?_)
    rw [ie_fsH hr (by omega) z] at h
    exact h
theorem xq_least {post : Int32 → Prop} {i : Nat} (hs : s ≤ 12) (T : ie_T s K A B N P F G 256) (hi : i < 256) (h : post (nI (ie_l (ie_p s K A B N) i))) : wpX_leastAlike post (nI s, fm, K, A, B, N, P, F, G, Mk) (nI i) := by
  obtain ⟨h1, h2, h3⟩ := ie_lp (ie_p s K A B N) i
  have ci : (nI i).toNatClampNeg = i := nI_clamp (by omega)
  have main : ∀ d j : Nat, j + d = ie_l (ie_p s K A B N) i → wX_leastAlike_2 post (nI i) (nI s) fm K A B N P F G Mk (d + 1) (nI j) := by
    intro d
    induction d with
    | zero =>
      intro j hj
      rw [← hj, Nat.add_zero] at h h1 h2
      refine pk_le i j (fun z => ?_) (fun z => ⟨vp_in_nI (by omega) (by decide), vp_in_nI hi (by decide), ?_⟩)
      · rw [show j = i by omega] at h
        exact h
      · rw [ci, nI_clamp (n := j) (by omega), (T i hi).1, (T j (by omega)).1]
        exact br_t ((ie_pi hs j i).mpr h2) h
    | succ d ih =>
      intro j hj
      refine pk_le i j (fun z => ?_) (fun z => ⟨vp_in_nI (by omega) (by decide), vp_in_nI hi (by decide), ?_⟩)
      · omega
      · rw [ci, nI_clamp (n := j) (by omega), (T i hi).1, (T j (by omega)).1]
        exact br_f (fun y => h3 j (by omega) ((ie_pi hs j i).mp y)) (nm_r (nI_1 j) (ih (j + 1) (by omega)))
  exact ⟨_, main _ 0 (Nat.zero_add _)⟩
theorem xq_paths {post : Int32 → Prop} (hs : s ≤ 12) (T : ie_T s K A B N P F G 256) (h : post (nI (ie_cnt (fun i => if ie_l (ie_p s K A B N) i = i then 1 else 0) 256))) : ∃ n, wX_paths_4 post (nI s) fm K A B N P F G Mk n 0 0 := by
  refine loop_0 (fun n i (c : Int32) => wX_paths_4 post (nI s) fm K A B N P F G Mk n c (nI i)) (fun i c => c = nI (ie_cnt (fun i => if ie_l (ie_p s K A B N) i = i then 1 else 0) i)) 256 0 rfl ?_ ?_
  · rintro n c rfl
    exact br_t (nI_le (a := 256) (by omega) (by decide)) h
  · rintro n i c hi rfl hk
    have hl := (ie_lp (ie_p s K A B N) i).1
    exact br_f (nI_ge (b := 256) hi (by decide)) (xq_least hs T hi (pk_eq (ie_l (ie_p s K A B N) i) i (fun z => nm_r (nI_1 _) (nm_r (nI_1 i) (hk _ (ie_c1 (if_pos z))))) (fun z => nm_r (nI_1 i) (hk _ (ie_c0 (if_neg z))))))
theorem xq_alike {post : Int32 → Prop} {q : Nat} (hs : s ≤ 12) (T : ie_T s K A B N P F G 256) (hq : q < 256) (h : post (nI (ie_cnt (fun i => if ie_p s K A B N i = ie_p s K A B N q then 1 else 0) 256))) : ∃ n, wX_alike_13 post (nI q) (nI s) fm K A B N P F G Mk n 0 0 := by
  have cq : (nI q).toNatClampNeg = q := nI_clamp (by omega)
  refine loop_0 (fun n i (c : Int32) => wX_alike_13 post (nI q) (nI s) fm K A B N P F G Mk n c (nI i)) (fun i c => c = nI (ie_cnt (fun i => if ie_p s K A B N i = ie_p s K A B N q then 1 else 0) i)) 256 0 rfl ?_ ?_
  · rintro n c rfl
    exact br_t (nI_le (a := 256) (by omega) (by decide)) h
  · rintro n i c hi rfl hk
    refine br_f (nI_ge (b := 256) hi (by decide)) ⟨vp_in_nI hi (by decide), vp_in_nI hq (by decide), ?_⟩
    rw [cq, nI_clamp (n := i) (by omega), (T i hi).1, (T q hq).1]
    exact br_c (fun z => nm_r (nI_1 _) (nm_r (nI_1 i) (hk _ (ie_c1 (if_pos ((ie_pi hs i q).mp z)))))) (fun z => nm_r (nI_1 i) (hk _ (ie_c0 (if_neg (fun y => z ((ie_pi hs i q).mpr y))))))
theorem xq_unmarked {post : Int32 → Prop} {r : Int32} (hs : s ≤ 12) (T : ie_T s K A B N P F G 256) (h : post r) : ∀ d i : Nat, i + d = 256 → ie_fs (fun j => Mk (ie_p s K A B N j) = 0) 256 i r → wX_unmarked_2 post (nI s) fm K A B N P F G Mk (d + 1) (nI i) := by
  intro d
  induction d with
  | zero =>
    intro i hi hr
    rw [ie_fsZ hr (by omega)] at h
    exact br_t (nI_le (a := 256) (by omega) (by omega)) h
  | succ d ih =>
    intro i hi hr
    have hp := ie_runP12 hs K A B N i
    refine br_f (nI_ge (b := 256) (by omega) (by decide)) ⟨vp_in_nI (by omega) (by decide), ?_⟩
    rw [nI_clamp (n := i) (by omega), (T i (by omega)).1, nI_clamp (n := (ie_run s K A B N i).1) (by omega)]
    refine ⟨vp_in_nI hp (by decide), br_c (fun z => ?_) (fun z => nm_r (nI_1 i) (ih (i + 1) (by omega) (ie_fsM hr z)))⟩
    rw [ie_fsH hr (by omega) z] at h
    exact h
theorem xq_ending {post : Int32 → Prop} {r : Nat} {v : Int32} (T : ie_T s K A B N P F G 256) (hr : r < 4) (h : post (nI (ie_cnt (fun i => if ie_f s K A B N i = 0 ∧ ie_v s K A B N r i = v then 1 else 0) 256))) : ∃ n, wX_ending_14 post (nI r) v (nI s) fm K A B N P F G Mk n 0 0 := by
  refine loop_0 (fun n i (c : Int32) => wX_ending_14 post (nI r) v (nI s) fm K A B N P F G Mk n c (nI i)) (fun i c => c = nI (ie_cnt (fun i => if ie_f s K A B N i = 0 ∧ ie_v s K A B N r i = v then 1 else 0) i)) 256 0 rfl ?_ ?_
  · rintro n c rfl
    exact br_t (nI_le (a := 256) (by omega) (by decide)) h
  · rintro n i c hi rfl hk
    have e4 : (4 : Int32) * nI i + nI r = nI (4 * i + r) := by rw [show (4 : Int32) * nI i = nI (4 * i) from pk_mul 4 i, nI_add]
    have ef : F (nI i).toNatClampNeg = ie_f s K A B N i := by rw [nI_clamp (by omega)]; exact (T i hi).2.1
    have eg : G (nI (4 * i + r)).toNatClampNeg = ie_v s K A B N r i := by rw [nI_clamp (by omega)]; exact (T i hi).2.2 r hr
    refine br_f (nI_ge (b := 256) hi (by decide)) ⟨vp_in_nI hi (by decide), ?_⟩
    rw [e4, ef, eg]
    exact br_c (fun z => ⟨vp_in_nI (by omega) (by decide), br_c (fun y => nm_r (nI_1 _) (nm_r (nI_1 i) (hk _ (ie_c1 (if_pos ⟨z, y⟩))))) (fun y => nm_r (nI_1 i) (hk _ (ie_c0 (if_neg (fun w => y w.2)))))⟩) (fun z => nm_r (nI_1 i) (hk _ (ie_c0 (if_neg (fun w => z w.1)))))
theorem xq_steps {post : Int32 → Prop} {q : Nat} (hs : s ≤ 12) (T : ie_T s K A B N P F G 256) (hq : q < 256) (h : post (nI (ie_cnt (fun p => ie_b s K A B N p q) s))) : ∃ n, wX_steps_13 post (nI q) (nI s) fm K A B N P F G Mk n 0 0 := by
  refine loop_0 (fun n i (c : Int32) => wX_steps_13 post (nI q) (nI s) fm K A B N P F G Mk n c (nI i)) (fun i c => c = nI (ie_cnt (fun p => ie_b s K A B N p q) i)) s 0 rfl ?_ ?_
  · rintro n c rfl
    exact br_t (nI_le (by omega) (by omega)) h
  · rintro n i c hi rfl hk
    exact br_f (nI_ge hi (by omega)) (xq_does hs T hq (by omega) (fun e => br_f (by decide) (nm_r (nI_1 _) (nm_r (nI_1 i) (hk _ (ie_c1 e))))) (fun e => br_t rfl (nm_r (nI_1 i) (hk _ (ie_c0 e)))))
theorem xq_extreme {post : Int32 → Prop} {r : Nat} {w : Int32} (hs : s ≤ 12) (ok : ie_Ok s K A B N) (T : ie_T s K A B N P F G 256) (hr : r < 4) (h : post (ie_e w (ie_f s K A B N) (ie_v s K A B N r) 256).1) : ∃ n, wX_extreme_25 post (nI r) w (nI s) fm K A B N P F G Mk n (-1000000000) 0 := by
  refine loop_0 (fun n i (c : Int32) => wX_extreme_25 post (nI r) w (nI s) fm K A B N P F G Mk n c (nI i)) (fun i c => c = (ie_e w (ie_f s K A B N) (ie_v s K A B N r) i).1) 256 (-1000000000) rfl ?_ ?_
  · rintro n c rfl
    exact br_t (nI_le (a := 256) (by omega) (by decide)) h
  · rintro n i c hi rfl hk
    have e4 : (4 : Int32) * nI i + nI r = nI (4 * i + r) := by rw [show (4 : Int32) * nI i = nI (4 * i) from pk_mul 4 i, nI_add]
    have ef : F (nI i).toNatClampNeg = ie_f s K A B N i := by rw [nI_clamp (by omega)]; exact (T i hi).2.1
    have eg : G (nI (4 * i + r)).toNatClampNeg = ie_v s K A B N r i := by rw [nI_clamp (by omega)]; exact (T i hi).2.2 r hr
    have h01 := ie_e01 w (ie_f s K A B N) (ie_v s K A B N r) i (fun j hj => ie_runB ok hs (by omega) hr)
    refine br_f (nI_ge (b := 256) hi (by decide)) ⟨vp_in_nI hi (by decide), ?_⟩
    rw [e4, ef, eg]
    refine br_c (fun z => ⟨vp_in_nI (by omega) (by decide), nm_e ?_⟩) (fun z => nm_r (nI_1 i) (hk _ ?_))
    · have hp : ((ie_e w (ie_f s K A B N) (ie_v s K A B N r) i).2 = 0 ∨ (w = 0 ∧ ie_v s K A B N r i < (ie_e w (ie_f s K A B N) (ie_v s K A B N r) i).1) ∨ (¬ w = 0 ∧ (ie_e w (ie_f s K A B N) (ie_v s K A B N r) i).1 < ie_v s K A B N r i)) → wX_extreme_25 post (nI r) w (nI s) fm K A B N P F G Mk n (ie_v s K A B N r i) (nI (i + 1)) := fun c => hk _ (by
          show _ = (ie_e w (ie_f s K A B N) (ie_v s K A B N r) (i + 1)).1
          rw [ie_e, if_pos z, if_pos c])
      have hq : ¬ ((ie_e w (ie_f s K A B N) (ie_v s K A B N r) i).2 = 0 ∨ (w = 0 ∧ ie_v s K A B N r i < (ie_e w (ie_f s K A B N) (ie_v s K A B N r) i).1) ∨ (¬ w = 0 ∧ (ie_e w (ie_f s K A B N) (ie_v s K A B N r) i).1 < ie_v s K A B N r i)) → wX_extreme_25 post (nI r) w (nI s) fm K A B N P F G Mk n (ie_e w (ie_f s K A B N) (ie_v s K A B N r) i).1 (nI (i + 1)) := fun c => hk _ (by
          show _ = (ie_e w (ie_f s K A B N) (ie_v s K A B N r) (i + 1)).1
          rw [ie_e, if_pos z, if_neg c])
      generalize ie_e w (ie_f s K A B N) (ie_v s K A B N r) i = t at *
      obtain ⟨t1, t2⟩ := t
      have n0 : ¬ t1 = -1000000000 → ¬ t2 = 0 := fun y z0 => by
        rcases h01 with h01 | h01
        · exact y h01.2
        · have e10 : (1 : Int32) = 0 := h01.1.symm.trans z0
          exact absurd e10 (by decide)
      have g0 : ¬ ((w = 0 ∧ ie_v s K A B N r i < t1) ∨ (¬ w = 0 ∧ t1 < ie_v s K A B N r i)) → wX_extreme_85 post (wX_extreme_25 post (nI r) w (nI s) fm K A B N P F G Mk n) (nI r) w t1 (nI i) (ie_v s K A B N r i) 0 (nI s) fm K A B N P F G Mk := fun c =>
        br_c (fun y => nm_r (nI_1 i) (hp (Or.inl (by
          rcases h01 with h01 | h01
          · exact h01.1
          · exact absurd y h01.2)))) (fun y => br_t rfl (nm_r (nI_1 i) (hq (fun q => q.elim (n0 y) c))))
      have g1 : ((w = 0 ∧ ie_v s K A B N r i < t1) ∨ (¬ w = 0 ∧ t1 < ie_v s K A B N r i)) → wX_extreme_85 post (wX_extreme_25 post (nI r) w (nI s) fm K A B N P F G Mk n) (nI r) w t1 (nI i) (ie_v s K A B N r i) 1 (nI s) fm K A B N P F G Mk := fun c =>
        br_c (fun y => nm_r (nI_1 i) (hp (Or.inr c))) (fun y => br_f (by decide) (nm_r (nI_1 i) (hp (Or.inr c))))
      refine br_c (fun w0 => br_c (fun y => g0 ?_) (fun y => g1 (Or.inl ⟨w0, Int32.not_le.mp y⟩))) (fun w0 => br_c (fun y => g0 ?_) (fun y => g1 (Or.inr ⟨w0, Int32.not_le.mp y⟩)))
      · rintro (c | c)
        · exact Int32.not_lt.mpr y c.2
        · exact c.1 w0
      · rintro (c | c)
        · exact w0 c.1
        · exact Int32.not_lt.mpr y c.2
    · show _ = (ie_e w (ie_f s K A B N) (ie_v s K A B N r) (i + 1)).1
      rw [ie_e, if_neg z]
end
