/-! the pure picture of a run: what a step makes, where it goes on, whether it fails -/
def ie_made (k x y n : Int32) : Int32 := if k = 0 then n else if k = 1 then x + y else if k = 2 then x - y else if k = 3 then x * n else x
/-- from position p on, d positions ahead of the end; q: where the run goes on; m: the path so far; R: the registers -/
def ie_x (K A B N : Nat → Int32) : Nat → Nat → Nat → Nat → (Nat → Int32) → Nat × Int32 × (Nat → Int32)
  | 0, _, _, m, R => (m, 0, R)
  | d + 1, p, q, m, R =>
    if p = q then
      (if K p = 7 ∧ R (B p).toNatClampNeg < R (A p).toNatClampNeg then (m + 2 ^ p, 1, R)
       else ie_x K A B N d (p + 1)
         (if K p = 6 ∨ (K p = 4 ∧ R (A p).toNatClampNeg < R (B p).toNatClampNeg) ∨ (K p = 5 ∧ R (A p).toNatClampNeg = R (B p).toNatClampNeg) then (N p).toNatClampNeg else p + 1)
         (m + 2 ^ p) (upd R (A p).toNatClampNeg (ie_made (K p) (R (A p).toNatClampNeg) (R (B p).toNatClampNeg) (N p))))
    else ie_x K A B N d (p + 1) q m R
theorem ie_x0 (K A B N : Nat → Int32) (p q m : Nat) (R : Nat → Int32) : ie_x K A B N 0 p q m R = (m, 0, R) := rfl
theorem ie_xn {K A B N : Nat → Int32} {d p q m : Nat} {R : Nat → Int32} (h : p ≠ q) : ie_x K A B N (d + 1) p q m R = ie_x K A B N d (p + 1) q m R := by
  rw [ie_x, if_neg h]
theorem ie_xf {K A B N : Nat → Int32} {d p m : Nat} {R : Nat → Int32} (h : K p = 7 ∧ R (B p).toNatClampNeg < R (A p).toNatClampNeg) : ie_x K A B N (d + 1) p p m R = (m + 2 ^ p, 1, R) := by
  rw [ie_x, if_pos rfl, if_pos h]
theorem ie_xg {K A B N : Nat → Int32} {d p m : Nat} {R : Nat → Int32} (h : ¬ (K p = 7 ∧ R (B p).toNatClampNeg < R (A p).toNatClampNeg)) : ie_x K A B N (d + 1) p p m R = ie_x K A B N d (p + 1)
         (if K p = 6 ∨ (K p = 4 ∧ R (A p).toNatClampNeg < R (B p).toNatClampNeg) ∨ (K p = 5 ∧ R (A p).toNatClampNeg = R (B p).toNatClampNeg) then (N p).toNatClampNeg else p + 1)
         (m + 2 ^ p) (upd R (A p).toNatClampNeg (ie_made (K p) (R (A p).toNatClampNeg) (R (B p).toNatClampNeg) (N p))) := by
  rw [ie_x, if_pos rfl, if_neg h]
theorem ie_skip (K A B N : Nat → Int32) : ∀ (d p q m : Nat) (R : Nat → Int32), p ≤ q → ie_x K A B N d p q m R = ie_x K A B N (p + d - q) q q m R := by
  intro d
  induction d with
  | zero =>
    intro p q m R h
    rw [show p + 0 - q = 0 by omega]
    rfl
  | succ d ih =>
    intro p q m R h
    by_cases e : p = q
    · subst e
      rw [show p + (d + 1) - p = d + 1 by omega]
    · rw [ie_xn e, ih (p + 1) q m R (by omega), show p + 1 + d - q = p + (d + 1) - q by omega]
/-- what the program's arrays hold below s -/
def ie_Ok (s : Nat) (K A B N : Nat → Int32) : Prop := ∀ p, p < s → (∃ a, a < 4 ∧ A p = nI a) ∧ (∃ b, b < 4 ∧ B p = nI b) ∧ (K p = 0 → -20 ≤ (N p).toInt ∧ (N p).toInt ≤ 20) ∧ (K p = 3 → -3 ≤ (N p).toInt ∧ (N p).toInt ≤ 3) ∧ (K p = 6 ∨ K p = 4 ∨ K p = 5 → ∃ n, p < n ∧ n ≤ 12 ∧ N p = nI n)
/-- the path's size -/
theorem ie_xP (K A B N : Nat → Int32) : ∀ (d p q m : Nat) (R : Nat → Int32), m < 2 ^ p → (ie_x K A B N d p q m R).1 < 2 ^ (p + d) := by
  intro d
  induction d with
  | zero => intro p q m R h; exact h
  | succ d ih =>
    intro p q m R h
    have e2 : 2 ^ (p + 1) = 2 ^ p + 2 ^ p := by rw [Nat.pow_succ]; omega
    have h1 : m + 2 ^ p < 2 ^ (p + 1) := by omega
    have e : p + (d + 1) = p + 1 + d := by omega
    by_cases hq : p = q
    · subst hq
      by_cases hb : K p = 7 ∧ R (B p).toNatClampNeg < R (A p).toNatClampNeg
      · rw [ie_xf hb]
        exact Nat.lt_of_lt_of_le h1 (Nat.pow_le_pow_right (by decide) (by omega))
      · rw [ie_xg hb, e]
        exact ih _ _ _ _ h1
    · rw [ie_xn hq, e]
      exact ih _ _ _ _ (by omega)
/-- a bound of the registers, step by step -/
def ie_M : Nat → Int
  | 0 => 20
  | p + 1 => 3 * ie_M p
theorem ie_M20 : ∀ p, 20 ≤ ie_M p := by
  intro p
  induction p with
  | zero => exact Int.le_refl _
  | succ p ih => rw [ie_M]; omega
theorem ie_Mm : ∀ d p, ie_M p ≤ ie_M (p + d) := by
  intro d
  induction d with
  | zero => intro p; exact Int.le_refl _
  | succ d ih =>
    intro p
    have h := ih p
    have h2 := ie_M20 (p + d)
    show ie_M p ≤ 3 * ie_M (p + d)
    omega
theorem ie_M12 : ie_M 12 = 10628820 := by decide
theorem ie_Mb {p : Nat} (h : p ≤ 12) : ie_M p ≤ 10628820 := by
  rw [← ie_M12]
  have := ie_Mm (12 - p) p
  rwa [show p + (12 - p) = 12 by omega] at this
theorem ie_madeB {k x y n : Int32} {M : Int} (h20 : 20 ≤ M) (hM : M ≤ 10628820) (hx : -M ≤ x.toInt ∧ x.toInt ≤ M) (hy : -M ≤ y.toInt ∧ y.toInt ≤ M) (h0 : k = 0 → -20 ≤ n.toInt ∧ n.toInt ≤ 20) (h3 : k = 3 → -3 ≤ n.toInt ∧ n.toInt ≤ 3) : -(3 * M) ≤ (ie_made k x y n).toInt ∧ (ie_made k x y n).toInt ≤ 3 * M := by
  unfold ie_made
  by_cases e0 : k = 0
  · rw [if_pos e0]
    have := h0 e0
    omega
  rw [if_neg e0]
  by_cases e1 : k = 1
  · rw [if_pos e1, Int32.toInt_add, Int.bmod_eq_of_le (by omega) (by omega)]
    omega
  rw [if_neg e1]
  by_cases e2 : k = 2
  · rw [if_pos e2, Int32.toInt_sub, Int.bmod_eq_of_le (by omega) (by omega)]
    omega
  rw [if_neg e2]
  by_cases e3 : k = 3
  · rw [if_pos e3, Int32.toInt_mul]
    have hn := h3 e3
    generalize n.toInt = z at hn
    generalize x.toInt = w at hx
    have hz : z = -3 ∨ z = -2 ∨ z = -1 ∨ z = 0 ∨ z = 1 ∨ z = 2 ∨ z = 3 := by omega
    rcases hz with rfl | rfl | rfl | rfl | rfl | rfl | rfl
    all_goals rw [Int.bmod_eq_of_le (by omega) (by omega)]; omega
  rw [if_neg e3]
  omega
def ie_B (M : Int) (R : Nat → Int32) : Prop := ∀ r, r < 4 → -M ≤ (R r).toInt ∧ (R r).toInt ≤ M
theorem ie_Bw {M M' : Int} {R : Nat → Int32} (h : M ≤ M') (b : ie_B M R) : ie_B M' R := fun r hr => by
  have := b r hr
  omega
theorem ie_xB {K A B N : Nat → Int32} {s : Nat} (ok : ie_Ok s K A B N) (hs : s ≤ 12) : ∀ (d p q m : Nat) (R : Nat → Int32), p + d = s → ie_B (ie_M p) R → ie_B (ie_M s) (ie_x K A B N d p q m R).2.2 := by
  intro d
  induction d with
  | zero => intro p q m R h b; cases h; exact b
  | succ d ih =>
    intro p q m R h b
    have hb1 : ie_B (ie_M (p + 1)) R := ie_Bw (ie_Mm 1 p) b
    by_cases hq : p = q
    · subst hq
      by_cases hb : K p = 7 ∧ R (B p).toNatClampNeg < R (A p).toNatClampNeg
      · rw [ie_xf hb]
        have := ie_Mm (d + 1) p
        rw [h] at this
        exact ie_Bw this b
      · rw [ie_xg hb]
        refine ih _ _ _ _ (by omega) ?_
        obtain ⟨⟨a, ha, ea⟩, ⟨c, hc, ec⟩, h0, h3, _⟩ := ok p (by omega)
        have ca : (A p).toNatClampNeg = a := by rw [ea]; exact nI_clamp (by omega)
        have cc : (B p).toNatClampNeg = c := by rw [ec]; exact nI_clamp (by omega)
        rw [ca, cc]
        intro r hr
        by_cases e : r = a
        · subst e
          rw [pk_us]
          exact ie_madeB (ie_M20 p) (ie_Mb (by omega)) (b r hr) (b c hc) h0 h3
        · rw [pk_un e]
          exact hb1 r hr
    · rw [ie_xn hq]
      exact ih _ _ _ _ (by omega) hb1
/-- the registers at the beginning of the run for input i; the run; the tables of the runs for the inputs below c -/
def ie_0 (i : Nat) : Nat → Int32 := fun r => if r = 0 then nI (i % 16) else if r = 1 then nI (i / 16) else 0
def ie_run (s : Nat) (K A B N : Nat → Int32) (i : Nat) : Nat × Int32 × (Nat → Int32) := ie_x K A B N s 0 0 0 (ie_0 i)
def ie_T (s : Nat) (K A B N P F G : Nat → Int32) (c : Nat) : Prop := ∀ i, i < c → P i = nI (ie_run s K A B N i).1 ∧ F i = (ie_run s K A B N i).2.1 ∧ ∀ r, r < 4 → G (4 * i + r) = (ie_run s K A B N i).2.2 r
theorem ie_runP (s : Nat) (K A B N : Nat → Int32) (i : Nat) : (ie_run s K A B N i).1 < 2 ^ s := by
  have := ie_xP K A B N s 0 0 0 (ie_0 i) (by decide)
  rwa [Nat.zero_add] at this
theorem ie_runP12 {s : Nat} (hs : s ≤ 12) (K A B N : Nat → Int32) (i : Nat) : (ie_run s K A B N i).1 < 4096 :=
  Nat.lt_of_lt_of_le (ie_runP s K A B N i) (Nat.pow_le_pow_right (n := 2) (by decide) hs)
theorem ie_0B {i : Nat} (h : i < 256) : ie_B 20 (ie_0 i) := by
  intro r _
  unfold ie_0
  by_cases e0 : r = 0
  · rw [if_pos e0, nI_toInt (by omega)]
    omega
  rw [if_neg e0]
  by_cases e1 : r = 1
  · rw [if_pos e1, nI_toInt (by omega)]
    omega
  rw [if_neg e1]
  decide
theorem ie_runB {K A B N : Nat → Int32} {s : Nat} (ok : ie_Ok s K A B N) (hs : s ≤ 12) {i r : Nat} (hi : i < 256) (hr : r < 4) : (ie_run s K A B N i).2.2 r ≠ -1000000000 := by
  have h := ie_xB ok hs s 0 0 0 (ie_0 i) (Nat.zero_add s) (ie_0B hi) r hr
  have h2 := ie_Mb hs
  intro e
  have e2 : ((ie_run s K A B N i).2.2 r).toInt = -1000000000 := by rw [e]; decide
  have e3 : ((ie_run s K A B N i).2.2 r).toInt = ((ie_x K A B N s 0 0 0 (ie_0 i)).2.2 r).toInt := rfl
  omega
/-! masks -/
theorem ie_or {m q : Nat} (hm : m < 2 ^ q) (hq : q < 31) : nI m ||| ((1 : Int32) <<< (nI q &&& 31)) = nI (m + 2 ^ q) := by
  have h2 : 2 ^ q < 2 ^ 31 := Nat.pow_lt_pow_right (by decide) hq
  have e1 : (1 : Int32) <<< (nI q &&& 31) = nI (2 ^ q) := by
    have := pk_shlN (n := 1) (nI q &&& 31) q (s_l q (by omega)) (by omega)
    rw [Nat.one_mul] at this
    exact this
  rw [e1]
  apply Int32.toBitVec_inj.mp
  apply BitVec.eq_of_toNat_eq
  rw [Int32.toBitVec_or, BitVec.toNat_or, pk_tn (by omega), pk_tn (by omega), pk_tn (by omega)]
  have := Nat.two_pow_add_eq_or_of_lt hm 1
  rw [Nat.mul_one] at this
  rw [Nat.or_comm, ← this, Nat.add_comm]
theorem ie_bit {m p : Nat} (hm : m < 2 ^ 31) (hp : p < 32) : (nI m >>> (nI p &&& 31)) &&& 1 = nI (m / 2 ^ p % 2) := by
  have h := Nat.div_le_self m (2 ^ p)
  rw [pk_shrN hm _ p (s_l p hp), pk_andN (by omega) 1 (by decide)]
/-! counting and searching -/
def ie_cnt (f : Nat → Nat) : Nat → Nat
  | 0 => 0
  | n + 1 => ie_cnt f n + f n
theorem ie_cntC {f g : Nat → Nat} : ∀ n, (∀ i, i < n → f i = g i) → ie_cnt f n = ie_cnt g n := by
  intro n
  induction n with
  | zero => intro _; rfl
  | succ n ih => intro h; rw [ie_cnt, ie_cnt, ih (fun i hi => h i (by omega)), h n (by omega)]
theorem ie_cnt0 {f : Nat → Nat} {s : Nat} : ∀ d, (∀ i, s ≤ i → i < s + d → f i = 0) → ie_cnt f (s + d) = ie_cnt f s := by
  intro d
  induction d with
  | zero => intro _; rfl
  | succ d ih =>
    intro h
    show ie_cnt f (s + d) + f (s + d) = _
    rw [ih (fun i h1 h2 => h i h1 (by omega)), h (s + d) (by omega) (by omega), Nat.add_zero]
/-- r is the least number with f from i on and below L, or -1 -/
def ie_fs (f : Nat → Prop) (L : Nat) (i : Nat) (r : Int32) : Prop := (∃ j, i ≤ j ∧ j < L ∧ f j ∧ (∀ k, i ≤ k → k < j → ¬ f k) ∧ r = nI j) ∨ ((∀ k, i ≤ k → k < L → ¬ f k) ∧ r = -1)
theorem ie_fsE (f : Nat → Prop) (L i : Nat) : ∃ r, ie_fs f L i r := by
  by_cases h : ∃ j, i ≤ j ∧ j < L ∧ f j
  · obtain ⟨j, ⟨h1, h2, h3⟩, h4⟩ := pk_least _ h
    exact ⟨nI j, Or.inl ⟨j, h1, h2, h3, fun k hk hkj fk => h4 k hkj ⟨hk, by omega, fk⟩, rfl⟩⟩
  · exact ⟨-1, Or.inr ⟨fun k h1 h2 h3 => h ⟨k, h1, h2, h3⟩, rfl⟩⟩
theorem ie_fsH {f : Nat → Prop} {L i : Nat} {r : Int32} (h : ie_fs f L i r) (hi : i < L) (fi : f i) : r = nI i := by
  rcases h with ⟨j, h1, h2, h3, h4, rfl⟩ | ⟨h1, _⟩
  · by_cases e : i = j
    · rw [e]
    · exact absurd fi (h4 i (Nat.le_refl i) (by omega))
  · exact absurd fi (h1 i (Nat.le_refl i) hi)
theorem ie_fsM {f : Nat → Prop} {L i : Nat} {r : Int32} (h : ie_fs f L i r) (fi : ¬ f i) : ie_fs f L (i + 1) r := by
  rcases h with ⟨j, h1, h2, h3, h4, rfl⟩ | ⟨h1, h2⟩
  · have e : i ≠ j := fun e => fi (e ▸ h3)
    exact Or.inl ⟨j, by omega, h2, h3, fun k hk hkj => h4 k (by omega) hkj, rfl⟩
  · exact Or.inr ⟨fun k hk hkL => h1 k (by omega) hkL, h2⟩
theorem ie_fsZ {f : Nat → Prop} {L i : Nat} {r : Int32} (h : ie_fs f L i r) (hi : L ≤ i) : r = -1 := by
  rcases h with ⟨j, h1, h2, _⟩ | ⟨_, h2⟩
  · omega
  · exact h2
/-- a search that begins at i and one that begins at 0 and passes over what is below i -/
theorem ie_fsF {f g : Nat → Prop} {L i : Nat} {r : Int32} (h : ie_fs f L i r) (e : ∀ k, k < L → (g k ↔ (i ≤ k ∧ f k))) : ie_fs g L 0 r := by
  rcases h with ⟨j, h1, h2, h3, h4, rfl⟩ | ⟨h1, h2⟩
  · exact Or.inl ⟨j, by omega, h2, (e j h2).mpr ⟨h1, h3⟩, fun k _ hkj gk => h4 k ((e k (by omega)).mp gk).1 hkj ((e k (by omega)).mp gk).2, rfl⟩
  · exact Or.inr ⟨fun k _ hk gk => h1 k ((e k hk).mp gk).1 hk ((e k hk).mp gk).2, h2⟩
theorem ie_cntU {f g : Nat → Nat} {c : Nat} : ∀ n, c < n → (∀ i, i ≠ c → g i = f i) → g c = f c + 1 → ie_cnt g n = ie_cnt f n + 1 := by
  intro n
  induction n with
  | zero => intro h; omega
  | succ n ih =>
    intro h h1 h2
    show ie_cnt g n + g n = ie_cnt f n + f n + 1
    by_cases e : c = n
    · subst e
      rw [ie_cntC c (fun i hi => h1 i (by omega)), h2]
      omega
    · rw [ih (by omega) h1 h2, h1 n (fun z => e z.symm)]
      omega
/-- the marks, counted -/
def ie_mk (M : Nat → Int32) : Nat → Nat := fun j => if M j = 0 then 0 else 1
/-- the least or greatest value so far, and whether there is one -/
def ie_e (w : Int32) (F V : Nat → Int32) : Nat → Int32 × Int32
  | 0 => (-1000000000, 0)
  | n + 1 => if F n = 0 then (if (ie_e w F V n).2 = 0 ∨ (w = 0 ∧ V n < (ie_e w F V n).1) ∨ (¬ w = 0 ∧ (ie_e w F V n).1 < V n) then V n else (ie_e w F V n).1, 1) else ie_e w F V n
theorem ie_e01 (w : Int32) (F V : Nat → Int32) : ∀ n, (∀ i, i < n → V i ≠ -1000000000) → ((ie_e w F V n).2 = 0 ∧ (ie_e w F V n).1 = -1000000000) ∨ ((ie_e w F V n).2 = 1 ∧ (ie_e w F V n).1 ≠ -1000000000) := by
  intro n
  induction n with
  | zero => intro _; exact Or.inl ⟨rfl, rfl⟩
  | succ n ih =>
    intro h
    have i := ih (fun i hi => h i (by omega))
    by_cases f : F n = 0
    · rw [ie_e, if_pos f]
      refine Or.inr ⟨rfl, ?_⟩
      dsimp only
      by_cases c : (ie_e w F V n).2 = 0 ∨ (w = 0 ∧ V n < (ie_e w F V n).1) ∨ (¬ w = 0 ∧ (ie_e w F V n).1 < V n)
      · rw [if_pos c]
        exact h n (by omega)
      · rw [if_neg c]
        rcases i with i | i
        · exact absurd (Or.inl i.1) c
        · exact i.2
    · rw [ie_e, if_neg f]
      exact i
/-! small rows for the walks -/
theorem ie_x01 (K A B N : Nat → Int32) : ∀ (d p q m : Nat) (R : Nat → Int32), (ie_x K A B N d p q m R).2.1 = 0 ∨ (ie_x K A B N d p q m R).2.1 = 1 := by
  intro d
  induction d with
  | zero => intro p q m R; exact Or.inl rfl
  | succ d ih =>
    intro p q m R
    by_cases hq : p = q
    · subst hq
      by_cases hb : K p = 7 ∧ R (B p).toNatClampNeg < R (A p).toNatClampNeg
      · rw [ie_xf hb]
        exact Or.inr rfl
      · rw [ie_xg hb]
        exact ih _ _ _ _
    · rw [ie_xn hq]
      exact ih _ _ _ _
theorem ie_nb0 : vp_nar .boolean 0 = 0 := rfl
theorem ie_nb1 : vp_nar .boolean 1 = 1 := rfl
theorem ie_nb {z : Int32} (h : z = 0 ∨ z = 1) : vp_nar .boolean z = z := by
  rcases h with rfl | rfl
  · exact ie_nb0
  · exact ie_nb1
theorem ie_upS (R : Nat → Int32) (a : Nat) : upd R a (R a) = R := by
  funext r
  by_cases e : r = a
  · subst e
    exact pk_us
  · exact pk_un e
theorem ie_upG {G R : Nat → Int32} {b a : Nat} {x : Int32} (h : ∀ r, r < 4 → G (b + r) = R r) : ∀ r, r < 4 → upd G (b + a) x (b + r) = upd R a x r := by
  intro r hr
  by_cases e : r = a
  · subst e
    rw [pk_us, pk_us]
  · rw [pk_un e, pk_un (by omega)]
    exact h r hr
theorem ie_upL {G H : Nat → Int32} {b a : Nat} {x : Int32} (h : ∀ j, j < b → G j = H j) : ∀ j, j < b → upd G (b + a) x j = H j := by
  intro j hj
  rw [pk_un (by omega)]
  exact h j hj
theorem ie_upI {G H : Nat → Int32} {b : Nat} {x : Int32} (h : ∀ j, j < b → G j = H j) : ∀ j, j < b → upd G b x j = H j := by
  intro j hj
  rw [pk_un (by omega)]
  exact h j hj
/-- the first four stores of a run -/
theorem ie_ini {G : Nat → Int32} (i : Nat) : ∀ r, r < 4 → upd (upd (upd (upd G (4 * i) (nI (i % 16))) (4 * i + 1) (nI (i / 16))) (4 * i + 2) 0) (4 * i + 3) 0 (4 * i + r) = ie_0 i r := by
  intro r hr
  have hr : r = 0 ∨ r = 1 ∨ r = 2 ∨ r = 3 := by omega
  rcases hr with rfl | rfl | rfl | rfl
  · rw [pk_un (by omega), pk_un (by omega), pk_un (by omega)]
    exact pk_us
  · rw [pk_un (by omega), pk_un (by omega), pk_us]
    rfl
  · rw [pk_un (by omega), pk_us]
    rfl
  · rw [pk_us]
    rfl
theorem ie_iniL {G : Nat → Int32} {i : Nat} {x y z w : Int32} : ∀ j, j < 4 * i → upd (upd (upd (upd G (4 * i) x) (4 * i + 1) y) (4 * i + 2) z) (4 * i + 3) w j = G j := by
  intro j hj
  rw [pk_un (by omega), pk_un (by omega), pk_un (by omega), pk_un (by omega)]
theorem ie_Ts {s : Nat} {K A B N P F G P' F' G' : Nat → Int32} {i : Nat} (T : ie_T s K A B N P F G i) (hP : ∀ j, j < i → P' j = P j) (hF : ∀ j, j < i → F' j = F j) (hG : ∀ j, j < 4 * i → G' j = G j) (p : P' i = nI (ie_run s K A B N i).1) (f : F' i = (ie_run s K A B N i).2.1) (g : ∀ r, r < 4 → G' (4 * i + r) = (ie_run s K A B N i).2.2 r) : ie_T s K A B N P' F' G' (i + 1) := by
  intro j hj
  by_cases e : j = i
  · subst e
    exact ⟨p, f, g⟩
  · have hj : j < i := by omega
    obtain ⟨h1, h2, h3⟩ := T j hj
    refine ⟨by rw [hP j hj, h1], by rw [hF j hj, h2], fun r hr => ?_⟩
    rw [hG _ (by omega), h3 r hr]
theorem ie_T0 {s : Nat} {K A B N P F G : Nat → Int32} : ie_T s K A B N P F G 0 := fun j hj => absurd hj (Nat.not_lt_zero j)
