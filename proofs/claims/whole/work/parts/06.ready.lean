/-! the reference's readings, behind its work -/
section
variable {s : Nat} {K A B N Mk P F G : Nat → Int32}
theorem yq_is1 {post : Int32 → Prop} {p : Nat} (hs : s ≤ 12) (hp : p < s) (h : post 1) : wpY_is post (nI s, K, A, B, N, Mk, P, F, G) (nI p) :=
  br_f (nI_pos (by omega)) (br_f (nI_ge hp (by omega)) h)
theorem yq_is0 {post : Int32 → Prop} {x : Int32} (hx : x < 0 ∨ nI s ≤ x) (h : post 0) : wpY_is post (nI s, K, A, B, N, Mk, P, F, G) x :=
  br_c (fun _ => h) (fun z => br_t (hx.resolve_left z) h)
theorem xq_is1 {post : Int32 → Prop} {fm : Int32} {p : Nat} (hs : s ≤ 12) (hp : p < s) (h : post 1) : wpX_isStep post (nI s, fm, K, A, B, N, P, F, G, Mk) (nI p) :=
  br_f (nI_pos (by omega)) (br_f (nI_ge hp (by omega)) h)
theorem xq_is0 {post : Int32 → Prop} {fm : Int32} {x : Int32} (hx : x < 0 ∨ nI s ≤ x) (h : post 0) : wpX_isStep post (nI s, fm, K, A, B, N, P, F, G, Mk) x :=
  br_c (fun _ => h) (fun z => br_t (hx.resolve_left z) h)
theorem ie_gt {x : Int32} {n : Nat} (hn : n + 1 < 2 ^ 31) (h : nI (n + 1) ≤ x) : nI n < x := by
  rw [Int32.le_iff_toInt_le, nI_toInt hn] at h
  rw [Int32.lt_iff_toInt_lt, nI_toInt (by omega)]
  omega
theorem yq_in1 {post : Int32 → Prop} {p : Nat} {sz : Int32} (hp : p < 256) (h : post 1) : wpY_isInput post (sz, K, A, B, N, Mk, P, F, G) (nI p) :=
  br_f (nI_pos (by omega)) (br_f (nI_nlt (a := 255) (by omega) (by decide)) h)
theorem yq_in0 {post : Int32 → Prop} {x sz : Int32} (hx : x < 0 ∨ nI 256 ≤ x) (h : post 0) : wpY_isInput post (sz, K, A, B, N, Mk, P, F, G) x :=
  br_c (fun _ => h) (fun z => br_t (ie_gt (n := 255) (by decide) (hx.resolve_left z)) h)
theorem xq_in1 {post : Int32 → Prop} {p : Nat} (hp : p < 256) (h : post 1) : wpX_isInput post (nI p) :=
  br_f (nI_pos (by omega)) (br_f (nI_ge (b := 256) hp (by decide)) h)
theorem xq_in0 {post : Int32 → Prop} {x : Int32} (hx : x < 0 ∨ nI 256 ≤ x) (h : post 0) : wpX_isInput post x :=
  br_c (fun _ => h) (fun z => br_t (hx.resolve_left z) h)
theorem xq_rg1 {post : Int32 → Prop} {p : Nat} (hp : p < 4) (h : post 1) : wpX_isRegister post (nI p) :=
  br_f (nI_pos (by omega)) (br_f (nI_ge (b := 4) hp (by decide)) h)
theorem xq_rg0 {post : Int32 → Prop} {x : Int32} (hx : x < 0 ∨ nI 4 ≤ x) (h : post 0) : wpX_isRegister post x :=
  br_c (fun _ => h) (fun z => br_t (hx.resolve_left z) h)
theorem yq_bit (hs : s ≤ 12) (T : ie_T s K A B N P F G 256) {i p : Nat} (hi : i < 256) (hp : p < 12) : (P (nI i).toNatClampNeg >>> (nI p &&& 31)) &&& 1 = nI (ie_b s K A B N p i) := by
  have hr := ie_runP12 hs K A B N i
  rw [nI_clamp (by omega), (T i hi).1]
  exact ie_bit (by omega) (by omega)
theorem yq_reach {post : Int32 → SY → Prop} {p : Nat} (hs : s ≤ 12) (T : ie_T s K A B N P F G 256) (hp : p < s) (h : post (nI (ie_cnt (ie_b s K A B N p) 256)) (nI s, K, A, B, N, Mk, P, F, G)) : ∃ n, wY_reach_8 post (nI p) (nI s) K A B N Mk P F G n 0 0 := by
  refine loop_0 (fun n i (c : Int32) => wY_reach_8 post (nI p) (nI s) K A B N Mk P F G n c (nI i)) (fun i c => c = nI (ie_cnt (ie_b s K A B N p) i)) 256 0 rfl ?_ ?_
  · rintro n c rfl
    exact br_t (nI_le (a := 256) (by omega) (by decide)) (yq_is1 hs hp (br_f (by decide) h))
  · rintro n i c hi rfl hk
    refine br_f (nI_ge (b := 256) hi (by decide)) (yq_is1 hs hp (br_f (by decide) ⟨vp_in_nI hi (by decide), ?_⟩))
    rw [yq_bit hs T hi (by omega)]
    exact nm_r (nI_add _ _) (nm_r (nI_1 i) (hk _ rfl))
theorem yq_reach0 {post : Int32 → SY → Prop} {x : Int32} (hx : x < 0 ∨ nI s ≤ x) (h : post (-1) (nI s, K, A, B, N, Mk, P, F, G)) : ∃ n, wY_reach_8 post x (nI s) K A B N Mk P F G n 0 0 :=
  ⟨1, br_f (by decide) (yq_is0 hx (br_t rfl (yq_is0 hx (br_t rfl h))))⟩
theorem yq_firstAt {post : Int32 → SY → Prop} {p : Nat} {x r : Int32} (hs : s ≤ 12) (T : ie_T s K A B N P F G 256) (hp : p < s) (h : post r (nI s, K, A, B, N, Mk, P, F, G)) : ∀ d i : Nat, i + d = 256 → ie_fs (fun j => ¬ nI j < x ∧ ie_b s K A B N p j = 1) 256 i r → wY_firstAt_6 post (nI p) x (nI s) K A B N Mk P F G (d + 1) (nI i) := by
  intro d
  induction d with
  | zero =>
    intro i hi hr
    rw [ie_fsZ hr (by omega)] at h
    exact br_t (nI_le (a := 256) (by omega) (by omega)) h
  | succ d ih =>
    intro i hi hr
    have hb := ie_b2 s K A B N p i
    refine br_f (nI_ge (b := 256) (by omega) (by decide)) (yq_is1 hs hp (br_f (by decide) (br_c (fun z => nm_r (nI_1 i) (ih (i + 1) (by omega) (ie_fsM hr (fun y => y.1 z)))) (fun z => ⟨vp_in_nI (by omega) (by decide), ?_⟩))))
    rw [yq_bit hs T (by omega) (by omega)]
    refine pk_eq (ie_b s K A B N p i) 1 (fun e => ?_) (fun e => nm_r (nI_1 i) (ih (i + 1) (by omega) (ie_fsM hr (fun y => e y.2))))
    rw [ie_fsH hr (by omega) ⟨z, e⟩] at h
    exact h
theorem yq_firstAt0 {post : Int32 → SY → Prop} {x y : Int32} (hx : x < 0 ∨ nI s ≤ x) (h : post (-1) (nI s, K, A, B, N, Mk, P, F, G)) : ∃ n, wY_firstAt_6 post x y (nI s) K A B N Mk P F G n 0 :=
  ⟨1, br_f (by decide) (yq_is0 hx (br_t rfl h))⟩
theorem yq_failing {post : Int32 → SY → Prop} (T : ie_T s K A B N P F G 256) (h : post (nI (ie_cnt (ie_mk (ie_f s K A B N)) 256)) (nI s, K, A, B, N, Mk, P, F, G)) : ∃ n, wY_failing_8 post (nI s) K A B N Mk P F G n 0 0 := by
  refine loop_0 (fun n i (c : Int32) => wY_failing_8 post (nI s) K A B N Mk P F G n c (nI i)) (fun i c => c = nI (ie_cnt (ie_mk (ie_f s K A B N)) i)) 256 0 rfl ?_ ?_
  · rintro n c rfl
    exact br_t (nI_le (a := 256) (by omega) (by decide)) h
  · rintro n i c hi rfl hk
    have e : F (nI i).toNatClampNeg = ie_f s K A B N i := by rw [nI_clamp (by omega)]; exact (T i hi).2.1
    refine br_f (nI_ge (b := 256) hi (by decide)) ⟨vp_in_nI hi (by decide), ?_⟩
    rw [e]
    exact br_c (fun z => nm_r (nI_1 i) (hk _ (ie_c0 (by rw [ie_mk, if_pos z])))) (fun z => nm_r (nI_1 _) (nm_r (nI_1 i) (hk _ (ie_c1 (by rw [ie_mk, if_neg z])))))
theorem yq_firstFailing {post : Int32 → SY → Prop} {x r : Int32} (T : ie_T s K A B N P F G 256) (h : post r (nI s, K, A, B, N, Mk, P, F, G)) : ∀ d i : Nat, i + d = 256 → ie_fs (fun j => ¬ nI j < x ∧ ¬ ie_f s K A B N j = 0) 256 i r → wY_firstFailing_6 post x (nI s) K A B N Mk P F G (d + 1) (nI i) := by
  intro d
  induction d with
  | zero =>
    intro i hi hr
    rw [ie_fsZ hr (by omega)] at h
    exact br_t (nI_le (a := 256) (by omega) (by omega)) h
  | succ d ih =>
    intro i hi hr
    have e : F (nI i).toNatClampNeg = ie_f s K A B N i := by rw [nI_clamp (by omega)]; exact (T i (by omega)).2.1
    refine br_f (nI_ge (b := 256) (by omega) (by decide)) (br_c (fun z => nm_r (nI_1 i) (ih (i + 1) (by omega) (ie_fsM hr (fun y => y.1 z)))) (fun z => ⟨vp_in_nI (by omega) (by decide), ?_⟩))
    rw [e]
    refine br_c (fun y => nm_r (nI_1 i) (ih (i + 1) (by omega) (ie_fsM hr (fun w => w.2 y)))) (fun y => ?_)
    rw [ie_fsH hr (by omega) ⟨z, y⟩] at h
    exact h
theorem yq_least {post : Int32 → Prop} {i : Nat} (hs : s ≤ 12) (T : ie_T s K A B N P F G 256) (hi : i < 256) (h : post (nI (ie_l (ie_p s K A B N) i))) : wpY_least post (nI s, K, A, B, N, Mk, P, F, G) (nI i) := by
  obtain ⟨h1, h2, h3⟩ := ie_lp (ie_p s K A B N) i
  have ci : (nI i).toNatClampNeg = i := nI_clamp (by omega)
  have main : ∀ d j : Nat, j + d = ie_l (ie_p s K A B N) i → wY_least_2 post (nI i) (nI s) K A B N Mk P F G (d + 1) (nI j) := by
    intro d
    induction d with
    | zero =>
      intro j hj
      rw [← hj, Nat.add_zero] at h h1 h2
      refine ⟨vp_in_nI (by omega) (by decide), vp_in_nI hi (by decide), ?_⟩
      rw [ci, nI_clamp (n := j) (by omega), (T i hi).1, (T j (by omega)).1]
      exact br_t ((ie_pi hs j i).mpr h2) h
    | succ d ih =>
      intro j hj
      refine ⟨vp_in_nI (by omega) (by decide), vp_in_nI hi (by decide), ?_⟩
      rw [ci, nI_clamp (n := j) (by omega), (T i hi).1, (T j (by omega)).1]
      exact br_f (fun y => h3 j (by omega) ((ie_pi hs j i).mp y)) (nm_r (nI_1 j) (ih (j + 1) (by omega)))
  exact ⟨_, main _ 0 (Nat.zero_add _)⟩
theorem yq_paths {post : Int32 → SY → Prop} (hs : s ≤ 12) (T : ie_T s K A B N P F G 256) (h : post (nI (ie_cnt (fun i => if ie_l (ie_p s K A B N) i = i then 1 else 0) 256)) (nI s, K, A, B, N, Mk, P, F, G)) : ∃ n, wY_paths_8 post (nI s) K A B N Mk P F G n 0 0 := by
  refine loop_0 (fun n i (c : Int32) => wY_paths_8 post (nI s) K A B N Mk P F G n c (nI i)) (fun i c => c = nI (ie_cnt (fun i => if ie_l (ie_p s K A B N) i = i then 1 else 0) i)) 256 0 rfl ?_ ?_
  · rintro n c rfl
    exact br_t (nI_le (a := 256) (by omega) (by decide)) h
  · rintro n i c hi rfl hk
    have hl := (ie_lp (ie_p s K A B N) i).1
    exact br_f (nI_ge (b := 256) hi (by decide)) (yq_least hs T hi (pk_eq (ie_l (ie_p s K A B N) i) i (fun z => nm_r (nI_1 _) (nm_r (nI_1 i) (hk _ (ie_c1 (if_pos z))))) (fun z => nm_r (nI_1 i) (hk _ (ie_c0 (if_neg z))))))
theorem yq_alike {post : Int32 → SY → Prop} {q : Nat} (hs : s ≤ 12) (T : ie_T s K A B N P F G 256) (hq : q < 256) (h : post (nI (ie_cnt (fun i => if ie_p s K A B N i = ie_p s K A B N q then 1 else 0) 256)) (nI s, K, A, B, N, Mk, P, F, G)) : ∃ n, wY_alike_8 post (nI q) (nI s) K A B N Mk P F G n 0 0 := by
  have cq : (nI q).toNatClampNeg = q := nI_clamp (by omega)
  refine loop_0 (fun n i (c : Int32) => wY_alike_8 post (nI q) (nI s) K A B N Mk P F G n c (nI i)) (fun i c => c = nI (ie_cnt (fun i => if ie_p s K A B N i = ie_p s K A B N q then 1 else 0) i)) 256 0 rfl ?_ ?_
  · rintro n c rfl
    exact br_t (nI_le (a := 256) (by omega) (by decide)) (yq_in1 hq (br_f (by decide) h))
  · rintro n i c hi rfl hk
    refine br_f (nI_ge (b := 256) hi (by decide)) (yq_in1 hq (br_f (by decide) ⟨vp_in_nI hi (by decide), vp_in_nI hq (by decide), ?_⟩))
    rw [cq, nI_clamp (n := i) (by omega), (T i hi).1, (T q hq).1]
    exact br_c (fun z => nm_r (nI_1 _) (nm_r (nI_1 i) (hk _ (ie_c1 (if_pos ((ie_pi hs i q).mp z)))))) (fun z => nm_r (nI_1 i) (hk _ (ie_c0 (if_neg (fun y => z ((ie_pi hs i q).mpr y))))))
theorem yq_alike0 {post : Int32 → SY → Prop} {x : Int32} (hx : x < 0 ∨ nI 256 ≤ x) (h : post (-1) (nI s, K, A, B, N, Mk, P, F, G)) : ∃ n, wY_alike_8 post x (nI s) K A B N Mk P F G n 0 0 :=
  ⟨1, br_f (by decide) (yq_in0 hx (br_t rfl (yq_in0 hx (br_t rfl h))))⟩
theorem yq_mark {post : Int32 → SY → Prop} {sz : Int32} (h : post (nI (ie_cnt (ie_mk Mk) 4096)) (sz, K, A, B, N, Mk, P, F, G)) : ∃ n, wY_mark_30 post sz K A B N Mk P F G n 0 0 := by
  refine loop_0 (fun n i (c : Int32) => wY_mark_30 post sz K A B N Mk P F G n c (nI i)) (fun i c => c = nI (ie_cnt (ie_mk Mk) i)) 4096 0 rfl ?_ ?_
  · rintro n c rfl
    exact br_t (nI_le (a := 4096) (by omega) (by decide)) h
  · rintro n i c hi rfl hk
    refine br_f (nI_ge (b := 4096) hi (by decide)) ⟨vp_in_nI hi (by decide), ?_⟩
    rw [nI_clamp (n := i) (by omega)]
    exact br_c (fun z => nm_r (nI_1 i) (hk _ (ie_c0 (by rw [ie_mk, if_pos z])))) (fun z => nm_r (nI_1 _) (nm_r (nI_1 i) (hk _ (ie_c1 (by rw [ie_mk, if_neg z])))))
theorem yq_unmarked {post : Int32 → SY → Prop} {r : Int32} (hs : s ≤ 12) (T : ie_T s K A B N P F G 256) (h : post r (nI s, K, A, B, N, Mk, P, F, G)) : ∀ d i : Nat, i + d = 256 → ie_fs (fun j => Mk (ie_p s K A B N j) = 0) 256 i r → wY_unmarked_6 post (nI s) K A B N Mk P F G (d + 1) (nI i) := by
  intro d
  induction d with
  | zero =>
    intro i hi hr
    rw [ie_fsZ hr (by omega)] at h
    exact br_t (nI_le (a := 256) (by omega) (by omega)) h
  | succ d ih =>
    intro i hi hr
    have hp := ie_runP12 hs K A B N i
    refine br_f (nI_ge (b := 256) (by omega) (by decide)) ⟨vp_in_nI (by omega) (by decide), ?_⟩
    rw [nI_clamp (n := i) (by omega), (T i (by omega)).1, nI_clamp (n := (ie_run s K A B N i).1) (by omega)]
    refine ⟨vp_in_nI hp (by decide), br_c (fun z => ?_) (fun z => nm_r (nI_1 i) (ih (i + 1) (by omega) (ie_fsM hr z)))⟩
    rw [ie_fsH hr (by omega) z] at h
    exact h
theorem yq_ending {post : Int32 → SY → Prop} {r : Nat} {v : Int32} (T : ie_T s K A B N P F G 256) (hr : r < 4) (h : post (nI (ie_cnt (fun i => if ie_f s K A B N i = 0 ∧ ie_v s K A B N r i = v then 1 else 0) 256)) (nI s, K, A, B, N, Mk, P, F, G)) : ∃ n, wY_ending_9 post (nI r) v (nI s) K A B N Mk P F G n 0 0 := by
  refine loop_0 (fun n i (c : Int32) => wY_ending_9 post (nI r) v (nI s) K A B N Mk P F G n c (nI i)) (fun i c => c = nI (ie_cnt (fun i => if ie_f s K A B N i = 0 ∧ ie_v s K A B N r i = v then 1 else 0) i)) 256 0 rfl ?_ ?_
  · rintro n c rfl
    exact br_t (nI_le (a := 256) (by omega) (by decide)) h
  · rintro n i c hi rfl hk
    have e4 : (4 : Int32) * nI i + nI r = nI (4 * i + r) := by rw [show (4 : Int32) * nI i = nI (4 * i) from pk_mul 4 i, nI_add]
    have ef : F (nI i).toNatClampNeg = ie_f s K A B N i := by rw [nI_clamp (by omega)]; exact (T i hi).2.1
    have eg : G (nI (4 * i + r)).toNatClampNeg = ie_v s K A B N r i := by rw [nI_clamp (by omega)]; exact (T i hi).2.2 r hr
    refine br_f (nI_ge (b := 256) hi (by decide)) (br_f (nI_pos (by omega)) (br_f (nI_nlt (a := 3) (by omega) (by decide)) ⟨vp_in_nI hi (by decide), ?_⟩))
    rw [e4, ef, eg]
    exact br_c (fun z => ⟨vp_in_nI (by omega) (by decide), br_c (fun y => nm_r (nI_1 _) (nm_r (nI_1 i) (hk _ (ie_c1 (if_pos ⟨z, y⟩))))) (fun y => nm_r (nI_1 i) (hk _ (ie_c0 (if_neg (fun w => y w.2)))))⟩) (fun z => nm_r (nI_1 i) (hk _ (ie_c0 (if_neg (fun w => z w.1)))))
theorem yq_ending0 {post : Int32 → SY → Prop} {x v : Int32} (hx : x < 0 ∨ nI 4 ≤ x) (h : post 0 (nI s, K, A, B, N, Mk, P, F, G)) : ∃ n, wY_ending_9 post x v (nI s) K A B N Mk P F G n 0 0 :=
  ⟨1, br_f (by decide) (br_c (fun _ => h) (fun z => br_t (ie_gt (n := 3) (by decide) (hx.resolve_left z)) h))⟩
theorem yq_steps {post : Int32 → SY → Prop} {q : Nat} (hs : s ≤ 12) (T : ie_T s K A B N P F G 256) (hq : q < 256) (h : post (nI (ie_cnt (fun p => ie_b s K A B N p q) s)) (nI s, K, A, B, N, Mk, P, F, G)) : ∃ n, wY_steps_8 post (nI q) (nI s) K A B N Mk P F G n 0 0 := by
  have e12 : ie_cnt (fun p => ie_b s K A B N p q) 12 = ie_cnt (fun p => ie_b s K A B N p q) s := by
    have := ie_cnt0 (f := fun p => ie_b s K A B N p q) (s := s) (12 - s) (fun i h1 _ => ie_b0 h1)
    rwa [show s + (12 - s) = 12 by omega] at this
  rw [← e12] at h
  refine loop_0 (fun n i (c : Int32) => wY_steps_8 post (nI q) (nI s) K A B N Mk P F G n c (nI i)) (fun i c => c = nI (ie_cnt (fun p => ie_b s K A B N p q) i)) 12 0 rfl ?_ ?_
  · rintro n c rfl
    exact br_t (nI_le (a := 12) (by omega) (by decide)) (yq_in1 hq (br_f (by decide) h))
  · rintro n i c hi rfl hk
    refine br_f (nI_ge (b := 12) hi (by decide)) (yq_in1 hq (br_f (by decide) ⟨vp_in_nI hq (by decide), ?_⟩))
    rw [yq_bit hs T hq (by omega)]
    exact nm_r (nI_add _ _) (nm_r (nI_1 i) (hk _ rfl))
theorem yq_steps0 {post : Int32 → SY → Prop} {x : Int32} (hx : x < 0 ∨ nI 256 ≤ x) (h : post (-1) (nI s, K, A, B, N, Mk, P, F, G)) : ∃ n, wY_steps_8 post x (nI s) K A B N Mk P F G n 0 0 :=
  ⟨1, br_f (by decide) (yq_in0 hx (br_t rfl (yq_in0 hx (br_t rfl h))))⟩
theorem yq_extreme {post : Int32 → SY → Prop} {r : Nat} {w : Int32} (hs : s ≤ 12) (ok : ie_Ok s K A B N) (T : ie_T s K A B N P F G 256) (hr : r < 4) (hw : w = 0 ∨ w = 1) (h : post (ie_e w (ie_f s K A B N) (ie_v s K A B N r) 256).1 (nI s, K, A, B, N, Mk, P, F, G)) : ∃ n, wY_extreme_13 post (nI r) w (nI s) K A B N Mk P F G n (-1000000000) 0 0 := by
  refine loop_0 (fun n i (c : Int32 × Int32) => wY_extreme_13 post (nI r) w (nI s) K A B N Mk P F G n c.1 c.2 (nI i)) (fun i c => c = ie_e w (ie_f s K A B N) (ie_v s K A B N r) i) 256 (-1000000000, 0) rfl ?_ ?_
  · rintro n c rfl
    exact br_t (nI_le (a := 256) (by omega) (by decide)) h
  · rintro n i c hi rfl hk
    have e4 : (4 : Int32) * nI i + nI r = nI (4 * i + r) := by rw [show (4 : Int32) * nI i = nI (4 * i) from pk_mul 4 i, nI_add]
    have ef : F (nI i).toNatClampNeg = ie_f s K A B N i := by rw [nI_clamp (by omega)]; exact (T i hi).2.1
    have eg : G (nI (4 * i + r)).toNatClampNeg = ie_v s K A B N r i := by rw [nI_clamp (by omega)]; exact (T i hi).2.2 r hr
    have h01 := ie_e01 w (ie_f s K A B N) (ie_v s K A B N r) i (fun j hj => ie_runB ok hs (by omega) hr)
    have hp : ie_f s K A B N i = 0 → ((ie_e w (ie_f s K A B N) (ie_v s K A B N r) i).2 = 0 ∨ (w = 0 ∧ ie_v s K A B N r i < (ie_e w (ie_f s K A B N) (ie_v s K A B N r) i).1) ∨ (¬ w = 0 ∧ (ie_e w (ie_f s K A B N) (ie_v s K A B N r) i).1 < ie_v s K A B N r i)) → wY_extreme_13 post (nI r) w (nI s) K A B N Mk P F G n (ie_v s K A B N r i) 1 (nI (i + 1)) := fun z c => hk (ie_v s K A B N r i, 1) (by
        show _ = ie_e w (ie_f s K A B N) (ie_v s K A B N r) (i + 1)
        rw [ie_e, if_pos z, if_pos c])
    have hq : ie_f s K A B N i = 0 → ¬ ((ie_e w (ie_f s K A B N) (ie_v s K A B N r) i).2 = 0 ∨ (w = 0 ∧ ie_v s K A B N r i < (ie_e w (ie_f s K A B N) (ie_v s K A B N r) i).1) ∨ (¬ w = 0 ∧ (ie_e w (ie_f s K A B N) (ie_v s K A B N r) i).1 < ie_v s K A B N r i)) → wY_extreme_13 post (nI r) w (nI s) K A B N Mk P F G n (ie_e w (ie_f s K A B N) (ie_v s K A B N r) i).1 1 (nI (i + 1)) := fun z c => hk ((ie_e w (ie_f s K A B N) (ie_v s K A B N r) i).1, 1) (by
        show _ = ie_e w (ie_f s K A B N) (ie_v s K A B N r) (i + 1)
        rw [ie_e, if_pos z, if_neg c])
    have hn : ¬ ie_f s K A B N i = 0 → wY_extreme_13 post (nI r) w (nI s) K A B N Mk P F G n (ie_e w (ie_f s K A B N) (ie_v s K A B N r) i).1 (ie_e w (ie_f s K A B N) (ie_v s K A B N r) i).2 (nI (i + 1)) := fun z => hk (ie_e w (ie_f s K A B N) (ie_v s K A B N r) i) (by
        show _ = ie_e w (ie_f s K A B N) (ie_v s K A B N r) (i + 1)
        rw [ie_e, if_neg z])
    generalize ie_e w (ie_f s K A B N) (ie_v s K A B N r) i = t at *
    obtain ⟨t1, t2⟩ := t
    dsimp only at h01 hp hq hn ⊢
    have t01 : t2 = 0 ∨ t2 = 1 := by
      rcases h01 with h01 | h01
      · exact Or.inl h01.1
      · exact Or.inr h01.1
    -- the tail: the flag 'some' behind the choice
    have g104 : ∀ z0 : Int32, (ie_f s K A B N i = 0 → wY_extreme_13 post (nI r) w (nI s) K A B N Mk P F G n z0 1 (nI (i + 1))) → (¬ ie_f s K A B N i = 0 → wY_extreme_13 post (nI r) w (nI s) K A B N Mk P F G n z0 t2 (nI (i + 1))) → wY_extreme_104 post (wY_extreme_13 post (nI r) w (nI s) K A B N Mk P F G n) (nI r) w t2 (nI i) z0 (nI s) K A B N Mk P F G := fun z0 c1 c2 => by
      unfold wY_extreme_104
      rw [ef]
      refine br_c (fun y => ⟨vp_in_nI hi (by decide), br_c (fun z => nm_r (nI_1 i) (c1 z)) (fun z => nm_r (nI_1 i) ?_)⟩) (fun y => nm_r (nI_1 i) ?_)
      · have := c2 z
        rw [y] at this
        exact this
      · have e1 : t2 = 1 := t01.resolve_left y
        by_cases z : ie_f s K A B N i = 0
        · exact c1 z
        · have := c2 z
          rw [e1] at this
          exact this
    have g0 : (ie_f s K A B N i = 0 → ¬ (t2 = 0 ∨ (w = 0 ∧ ie_v s K A B N r i < t1) ∨ (¬ w = 0 ∧ t1 < ie_v s K A B N r i))) → wY_extreme_90 post (wY_extreme_13 post (nI r) w (nI s) K A B N Mk P F G n) (nI r) w t1 t2 (nI i) (ie_v s K A B N r i) (nI s) K A B N Mk P F G := fun c => by
      unfold wY_extreme_90
      exact br_t rfl (g104 t1 (fun z => hq z (c z)) hn)
    have g1 : ie_f s K A B N i = 0 → (t2 = 0 ∨ (w = 0 ∧ ie_v s K A B N r i < t1) ∨ (¬ w = 0 ∧ t1 < ie_v s K A B N r i)) → wY_extreme_86 post (wY_extreme_13 post (nI r) w (nI s) K A B N Mk P F G n) (nI r) w t1 t2 (nI i) (ie_v s K A B N r i) (nI s) K A B N Mk P F G := fun z c => by
      unfold wY_extreme_86
      exact br_f (by decide) (g104 _ (fun _ => hp z c) (fun y => absurd z y))
    have g39 : wY_extreme_39 post (wY_extreme_13 post (nI r) w (nI s) K A B N Mk P F G n) (nI r) w t1 t2 (nI i) (nI s) K A B N Mk P F G := by
      unfold wY_extreme_39
      rw [e4, ef, eg]
      refine ⟨vp_in_nI (by omega) (by decide), nm_e ⟨vp_in_nI hi (by decide), br_c (fun z => br_c (fun y => g1 z (Or.inl y)) (fun y => br_c (fun w0 => br_c (fun l => g0 (fun _ => ?_)) (fun l => g1 z (Or.inr (Or.inl ⟨w0, Int32.not_le.mp l⟩)))) (fun w0 => br_c (fun l => g0 (fun _ => ?_)) (fun l => g1 z (Or.inr (Or.inr ⟨w0, Int32.not_le.mp l⟩)))))) (fun z => g0 (fun q => absurd q z))⟩⟩
      · rintro (c | c | c)
        · exact y c
        · exact Int32.not_lt.mpr l c.2
        · exact c.1 w0
      · rintro (c | c | c)
        · exact y c
        · exact w0 c.1
        · exact Int32.not_lt.mpr l c.2
    exact br_f (nI_ge (b := 256) hi (by decide)) (br_f (nI_pos (by omega)) (br_f (nI_nlt (a := 3) (by omega) (by decide)) (br_c (fun _ => g39) (fun w0 => br_t (hw.resolve_left w0) g39))))
theorem yq_extreme0 {post : Int32 → SY → Prop} {x w : Int32} (hx : (x < 0 ∨ nI 4 ≤ x) ∨ ¬ (w = 0 ∨ w = 1)) (h : post (-1000000000) (nI s, K, A, B, N, Mk, P, F, G)) : ∃ n, wY_extreme_13 post x w (nI s) K A B N Mk P F G n (-1000000000) 0 0 := by
  refine ⟨1, br_f (by decide) (br_c (fun _ => h) (fun z => br_c (fun _ => h) (fun y => ?_)))⟩
  have hw : ¬ (w = 0 ∨ w = 1) := hx.resolve_left (fun q => q.elim z (fun l => y (ie_gt (n := 3) (by decide) l)))
  exact br_f (fun e => hw (Or.inl e)) (br_f (fun e => hw (Or.inr e)) h)
end
