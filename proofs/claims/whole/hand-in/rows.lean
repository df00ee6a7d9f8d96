section
/-! rows of kit/rows, pasted: stores, numbers, branches by naturals, masks and shifts, loops -/
theorem pk_us {f : Nat → Int32} {k : Nat} {x : Int32} : upd f k x k = x := if_pos rfl
theorem pk_un {f : Nat → Int32} {k j : Nat} {x : Int32} (h : j ≠ k) : upd f k x j = f j := if_neg h
theorem pk_sub {a b : Nat} (h : b ≤ a) : nI a - nI b = nI (a - b) := by
  obtain ⟨c, rfl⟩ : ∃ c, a = c + b := ⟨a - b, by omega⟩
  rw [← nI_add, Int32.add_sub_cancel, Nat.add_sub_cancel]
theorem pk_m1 (n : Nat) : nI (n + 1) + (-1) = nI n := by
  rw [← nI_1, Int32.add_assoc, show (1 : Int32) + (-1) = 0 from rfl, Int32.add_zero]
theorem pk_mul (a b : Nat) : nI a * nI b = nI (a * b) := (Int32.ofNat_mul a b).symm
theorem pk_div {a d : Nat} (ha : a < 2 ^ 31) (h0 : 0 < d) (hd : d < 2 ^ 31) : nI a / nI d = nI (a / d) := by
  apply Int32.toInt_inj.mp
  rw [lg_idiv_nonneg (by rw [nI_toInt ha]; omega) (by rw [nI_toInt hd]; omega), nI_toInt ha, nI_toInt hd, nI_toInt (Nat.lt_of_le_of_lt (Nat.div_le_self a d) ha)]
  first | rfl | exact (Int.natCast_ediv _ _).symm
theorem pk_rem {a d : Nat} (ha : a < 2 ^ 31) (h0 : 0 < d) (hd : d < 2 ^ 31) : nI a - nI a / nI d * nI d = nI (a % d) := by
  rw [pk_div ha h0 hd, pk_mul, pk_sub (Nat.div_mul_le_self a d)]
  exact congrArg nI (by have := Nat.div_add_mod' a d; omega)
theorem pk_ix (x : Int32) {n : Nat} (hn : n < 2 ^ 31) : x < 0 ∨ nI n ≤ x ∨ ∃ j : Nat, j < n ∧ x = nI j := by
  by_cases h : x < 0
  · exact Or.inl h
  · obtain ⟨j, hj, rfl⟩ := nI_of h
    by_cases h2 : j < n
    · exact Or.inr (Or.inr ⟨j, h2, rfl⟩)
    · exact Or.inr (Or.inl (nI_le (by omega) hj))
theorem pk_le {x y : Int32} {A B : Prop} (a b : Nat) (f : a ≤ b → A) (g : b < a → B) (hx : x = nI a := by rfl) (hy : y = nI b := by rfl) (ha : a < 2 ^ 31 := by omega) (hb : b < 2 ^ 31 := by omega) : (x ≤ y → A) ∧ (¬ x ≤ y → B) := by
  subst hx hy
  rw [nI_leI ha hb]
  exact ⟨f, fun z => g (by omega)⟩
theorem pk_lt {x y : Int32} {A B : Prop} (a b : Nat) (f : a < b → A) (g : b ≤ a → B) (hx : x = nI a := by rfl) (hy : y = nI b := by rfl) (ha : a < 2 ^ 31 := by omega) (hb : b < 2 ^ 31 := by omega) : (x < y → A) ∧ (¬ x < y → B) := by
  subst hx hy
  rw [nI_ltI ha hb]
  exact ⟨f, fun z => g (by omega)⟩
theorem pk_eq {x y : Int32} {A B : Prop} (a b : Nat) (f : a = b → A) (g : a ≠ b → B) (hx : x = nI a := by rfl) (hy : y = nI b := by rfl) (ha : a < 2 ^ 31 := by omega) (hb : b < 2 ^ 31 := by omega) : (x = y → A) ∧ (¬ x = y → B) := by
  subst hx hy
  rw [nI_eq ha hb]
  exact ⟨f, g⟩
theorem pk_in {x : Int32} (n N : Nat) (h : n < N) (hx : x = nI n := by rfl) (hN : N < 2 ^ 31 := by omega) : vp_in x N := by
  subst hx
  exact vp_in_nI h hN
theorem pk_cl {x : Int32} (n : Nat) (hx : x = nI n := by rfl) (h : n < 2 ^ 31 := by omega) : x.toNatClampNeg = n := by
  subst hx
  exact nI_clamp h
theorem pk_tn {n : Nat} (h : n < 2 ^ 32) : (nI n).toBitVec.toNat = n := Nat.mod_eq_of_lt h
theorem pk_and (x : Int32) {m : Int32} (k : Nat) (hm : m.toBitVec.toNat = 2 ^ k - 1) : x &&& m = nI (x.toBitVec.toNat % 2 ^ k) := by
  apply Int32.toBitVec_inj.mp
  apply BitVec.eq_of_toNat_eq
  rw [Int32.toBitVec_and, BitVec.toNat_and, hm, Nat.and_two_pow_sub_one_eq_mod]
  show _ = (BitVec.ofNat 32 _).toNat
  rw [BitVec.toNat_ofNat]
  exact (Nat.mod_eq_of_lt (Nat.lt_of_le_of_lt (Nat.mod_le _ _) x.toBitVec.isLt)).symm
theorem pk_andN {n : Nat} (h : n < 2 ^ 32) {m : Int32} (k : Nat) (hm : m.toBitVec.toNat = 2 ^ k - 1) : nI n &&& m = nI (n % 2 ^ k) := by
  rw [pk_and _ k hm, pk_tn h]
theorem pk_shl (a s : Int32) (k : Nat) (hs : (s.toBitVec.smod 32).toNat = k) : (a <<< s).toBitVec.toNat = a.toBitVec.toNat * 2 ^ k % 2 ^ 32 := by
  show (a.toBitVec <<< (s.toBitVec.smod 32).toNat).toNat = _
  rw [hs, BitVec.toNat_shiftLeft, Nat.shiftLeft_eq]
theorem pk_shlN {n : Nat} (s : Int32) (k : Nat) (hs : (s.toBitVec.smod 32).toNat = k) (h : n * 2 ^ k < 2 ^ 32) : nI n <<< s = nI (n * 2 ^ k) := by
  apply Int32.toBitVec_inj.mp
  apply BitVec.eq_of_toNat_eq
  have hn : n < 2 ^ 32 := Nat.lt_of_le_of_lt (Nat.le_mul_of_pos_right n (Nat.two_pow_pos k)) h
  rw [pk_shl _ _ k hs, pk_tn hn, pk_tn h, Nat.mod_eq_of_lt h]
theorem pk_shr (a s : Int32) (k : Nat) (hs : (s.toBitVec.smod 32).toNat = k) : (a >>> s).toInt = a.toInt >>> k := by
  show (a.toBitVec.sshiftRight (s.toBitVec.smod 32).toNat).toInt = _
  rw [hs, BitVec.toInt_sshiftRight]
  rfl
theorem pk_shrN {n : Nat} (h : n < 2 ^ 31) (s : Int32) (k : Nat) (hs : (s.toBitVec.smod 32).toNat = k) : nI n >>> s = nI (n / 2 ^ k) := by
  apply Int32.toInt_inj.mp
  have h2 : n / 2 ^ k ≤ n := Nat.div_le_self _ _
  rw [pk_shr _ _ k hs, nI_toInt h, nI_toInt (by omega), Int.shiftRight_eq_div_pow]
  rfl
theorem pk_loop {σ : Type} (W : Nat → Nat → σ → Prop) (I : Nat → σ → Prop) (e i0 : Nat) (s : σ) (hi : i0 ≤ e) (h0 : I i0 s) (hx : ∀ n s, I e s → W (n + 1) e s)
    (hs : ∀ n i s, i < e → I i s → (∀ s', I (i + 1) s' → W n (i + 1) s') → W (n + 1) i s) : ∃ n, W n i0 s :=
  ⟨e + 1, loop_i W I e hx hs (e + 1) i0 s hi (by omega) h0⟩
theorem pk_least (P : Nat → Prop) (h : ∃ k, P k) : ∃ k, P k ∧ ∀ j, j < k → ¬ P j := by
  obtain ⟨k, hk⟩ := h
  induction k using Nat.strongRecOn with
  | ind k ih =>
    by_cases e : ∃ j, j < k ∧ P j
    · obtain ⟨j, hj, pj⟩ := e
      exact ih j hj pj
    · exact ⟨k, hk, fun j hj pj => e ⟨j, hj, pj⟩⟩
theorem ek_if {c d A B : Prop} (e : c ↔ d) (f : d → A) (g : ¬ d → B) : (c → A) ∧ (¬ c → B) :=
  ⟨fun z => f (e.mp z), fun z => g (fun y => z (e.mpr y))⟩
theorem s_l : ∀ n, n < 32 → ((nI n &&& 31).toBitVec.smod 32).toNat = n := by decide +kernel
end
section
/-! the pure picture of a run: what a step makes, where it goes on, whether it fails -/
def ie_made (k x y n : Int32) : Int32 := if k = 0 then n else if k = 1 then x + y else if k = 2 then x - y else if k = 3 then x * n else x
/-- from position p on, d positions ahead of the end; q: where the run goes on; m: the path so far; R: the registers -/
def ie_x (K A B N : Nat → Int32) : Nat → Nat → Nat → Nat → (Nat → Int32) → Nat × Int32 × (Nat → Int32)
  | 0, _, _, m, R => (m, 0, R)
  | d + 1, p, q, m, R =>
    if p = q then
      (if K p = 7 ∧ R (B p).toNatClampNeg < R (A p).toNatClampNeg then (m + 2 ^ p, 1, R)
       else ie_x K A B N d (p + 1)
         (if K p = 6 ∨ (K p = 4 ∧ R (A p).toNatClampNeg < R (B p).toNatClampNeg) ∨ (K p = 5 ∧ R (A p).toNatClampNeg = R (B p).toNatClampNeg) then (N p).toNatClampNeg else p + 1)
         (m + 2 ^ p) (upd R (A p).toNatClampNeg (ie_made (K p) (R (A p).toNatClampNeg) (R (B p).toNatClampNeg) (N p))))
    else ie_x K A B N d (p + 1) q m R
theorem ie_x0 (K A B N : Nat → Int32) (p q m : Nat) (R : Nat → Int32) : ie_x K A B N 0 p q m R = (m, 0, R) := rfl
theorem ie_xn {K A B N : Nat → Int32} {d p q m : Nat} {R : Nat → Int32} (h : p ≠ q) : ie_x K A B N (d + 1) p q m R = ie_x K A B N d (p + 1) q m R := by
  rw [ie_x, if_neg h]
theorem ie_xf {K A B N : Nat → Int32} {d p m : Nat} {R : Nat → Int32} (h : K p = 7 ∧ R (B p).toNatClampNeg < R (A p).toNatClampNeg) : ie_x K A B N (d + 1) p p m R = (m + 2 ^ p, 1, R) := by
  rw [ie_x, if_pos rfl, if_pos h]
theorem ie_xg {K A B N : Nat → Int32} {d p m : Nat} {R : Nat → Int32} (h : ¬ (K p = 7 ∧ R (B p).toNatClampNeg < R (A p).toNatClampNeg)) : ie_x K A B N (d + 1) p p m R = ie_x K A B N d (p + 1)
         (if K p = 6 ∨ (K p = 4 ∧ R (A p).toNatClampNeg < R (B p).toNatClampNeg) ∨ (K p = 5 ∧ R (A p).toNatClampNeg = R (B p).toNatClampNeg) then (N p).toNatClampNeg else p + 1)
         (m + 2 ^ p) (upd R (A p).toNatClampNeg (ie_made (K p) (R (A p).toNatClampNeg) (R (B p).toNatClampNeg) (N p))) := by
  rw [ie_x, if_pos rfl, if_neg h]
theorem ie_skip (K A B N : Nat → Int32) : ∀ (d p q m : Nat) (R : Nat → Int32), p ≤ q → ie_x K A B N d p q m R = ie_x K A B N (p + d - q) q q m R := by
  intro d
  induction d with
  | zero =>
    intro p q m R h
    rw [show p + 0 - q = 0 by omega]
    rfl
  | succ d ih =>
    intro p q m R h
    by_cases e : p = q
    · subst e
      rw [show p + (d + 1) - p = d + 1 by omega]
    · rw [ie_xn e, ih (p + 1) q m R (by omega), show p + 1 + d - q = p + (d + 1) - q by omega]
/-- what the program's arrays hold below s -/
def ie_Ok (s : Nat) (K A B N : Nat → Int32) : Prop := ∀ p, p < s → (∃ a, a < 4 ∧ A p = nI a) ∧ (∃ b, b < 4 ∧ B p = nI b) ∧ (K p = 0 → -20 ≤ (N p).toInt ∧ (N p).toInt ≤ 20) ∧ (K p = 3 → -3 ≤ (N p).toInt ∧ (N p).toInt ≤ 3) ∧ (K p = 6 ∨ K p = 4 ∨ K p = 5 → ∃ n, p < n ∧ n ≤ 12 ∧ N p = nI n)
/-- the path's size -/
theorem ie_xP (K A B N : Nat → Int32) : ∀ (d p q m : Nat) (R : Nat → Int32), m < 2 ^ p → (ie_x K A B N d p q m R).1 < 2 ^ (p + d) := by
  intro d
  induction d with
  | zero => intro p q m R h; exact h
  | succ d ih =>
    intro p q m R h
    have e2 : 2 ^ (p + 1) = 2 ^ p + 2 ^ p := by rw [Nat.pow_succ]; omega
    have h1 : m + 2 ^ p < 2 ^ (p + 1) := by omega
    have e : p + (d + 1) = p + 1 + d := by omega
    by_cases hq : p = q
    · subst hq
      by_cases hb : K p = 7 ∧ R (B p).toNatClampNeg < R (A p).toNatClampNeg
      · rw [ie_xf hb]
        exact Nat.lt_of_lt_of_le h1 (Nat.pow_le_pow_right (by decide) (by omega))
      · rw [ie_xg hb, e]
        exact ih _ _ _ _ h1
    · rw [ie_xn hq, e]
      exact ih _ _ _ _ (by omega)
/-- a bound of the registers, step by step -/
def ie_M : Nat → Int
  | 0 => 20
  | p + 1 => 3 * ie_M p
theorem ie_M20 : ∀ p, 20 ≤ ie_M p := by
  intro p
  induction p with
  | zero => exact Int.le_refl _
  | succ p ih => rw [ie_M]; omega
theorem ie_Mm : ∀ d p, ie_M p ≤ ie_M (p + d) := by
  intro d
  induction d with
  | zero => intro p; exact Int.le_refl _
  | succ d ih =>
    intro p
    have h := ih p
    have h2 := ie_M20 (p + d)
    show ie_M p ≤ 3 * ie_M (p + d)
    omega
theorem ie_M12 : ie_M 12 = 10628820 := by decide
theorem ie_Mb {p : Nat} (h : p ≤ 12) : ie_M p ≤ 10628820 := by
  rw [← ie_M12]
  have := ie_Mm (12 - p) p
  rwa [show p + (12 - p) = 12 by omega] at this
theorem ie_madeB {k x y n : Int32} {M : Int} (h20 : 20 ≤ M) (hM : M ≤ 10628820) (hx : -M ≤ x.toInt ∧ x.toInt ≤ M) (hy : -M ≤ y.toInt ∧ y.toInt ≤ M) (h0 : k = 0 → -20 ≤ n.toInt ∧ n.toInt ≤ 20) (h3 : k = 3 → -3 ≤ n.toInt ∧ n.toInt ≤ 3) : -(3 * M) ≤ (ie_made k x y n).toInt ∧ (ie_made k x y n).toInt ≤ 3 * M := by
  unfold ie_made
  by_cases e0 : k = 0
  · rw [if_pos e0]
    have := h0 e0
    omega
  rw [if_neg e0]
  by_cases e1 : k = 1
  · rw [if_pos e1, Int32.toInt_add, Int.bmod_eq_of_le (by omega) (by omega)]
    omega
  rw [if_neg e1]
  by_cases e2 : k = 2
  · rw [if_pos e2, Int32.toInt_sub, Int.bmod_eq_of_le (by omega) (by omega)]
    omega
  rw [if_neg e2]
  by_cases e3 : k = 3
  · rw [if_pos e3, Int32.toInt_mul]
    have hn := h3 e3
    generalize n.toInt = z at hn
    generalize x.toInt = w at hx
    have hz : z = -3 ∨ z = -2 ∨ z = -1 ∨ z = 0 ∨ z = 1 ∨ z = 2 ∨ z = 3 := by omega
    rcases hz with rfl | rfl | rfl | rfl | rfl | rfl | rfl
    all_goals rw [Int.bmod_eq_of_le (by omega) (by omega)]; omega
  rw [if_neg e3]
  omega
def ie_B (M : Int) (R : Nat → Int32) : Prop := ∀ r, r < 4 → -M ≤ (R r).toInt ∧ (R r).toInt ≤ M
theorem ie_Bw {M M' : Int} {R : Nat → Int32} (h : M ≤ M') (b : ie_B M R) : ie_B M' R := fun r hr => by
  have := b r hr
  omega
theorem ie_xB {K A B N : Nat → Int32} {s : Nat} (ok : ie_Ok s K A B N) (hs : s ≤ 12) : ∀ (d p q m : Nat) (R : Nat → Int32), p + d = s → ie_B (ie_M p) R → ie_B (ie_M s) (ie_x K A B N d p q m R).2.2 := by
  intro d
  induction d with
  | zero => intro p q m R h b; cases h; exact b
  | succ d ih =>
    intro p q m R h b
    have hb1 : ie_B (ie_M (p + 1)) R := ie_Bw (ie_Mm 1 p) b
    by_cases hq : p = q
    · subst hq
      by_cases hb : K p = 7 ∧ R (B p).toNatClampNeg < R (A p).toNatClampNeg
      · rw [ie_xf hb]
        have := ie_Mm (d + 1) p
        rw [h] at this
        exact ie_Bw this b
      · rw [ie_xg hb]
        refine ih _ _ _ _ (by omega) ?_
        obtain ⟨⟨a, ha, ea⟩, ⟨c, hc, ec⟩, h0, h3, _⟩ := ok p (by omega)
        have ca : (A p).toNatClampNeg = a := by rw [ea]; exact nI_clamp (by omega)
        have cc : (B p).toNatClampNeg = c := by rw [ec]; exact nI_clamp (by omega)
        rw [ca, cc]
        intro r hr
        by_cases e : r = a
        · subst e
          rw [pk_us]
          exact ie_madeB (ie_M20 p) (ie_Mb (by omega)) (b r hr) (b c hc) h0 h3
        · rw [pk_un e]
          exact hb1 r hr
    · rw [ie_xn hq]
      exact ih _ _ _ _ (by omega) hb1
/-- the registers at the beginning of the run for input i; the run; the tables of the runs for the inputs below c -/
def ie_0 (i : Nat) : Nat → Int32 := fun r => if r = 0 then nI (i % 16) else if r = 1 then nI (i / 16) else 0
def ie_run (s : Nat) (K A B N : Nat → Int32) (i : Nat) : Nat × Int32 × (Nat → Int32) := ie_x K A B N s 0 0 0 (ie_0 i)
def ie_T (s : Nat) (K A B N P F G : Nat → Int32) (c : Nat) : Prop := ∀ i, i < c → P i = nI (ie_run s K A B N i).1 ∧ F i = (ie_run s K A B N i).2.1 ∧ ∀ r, r < 4 → G (4 * i + r) = (ie_run s K A B N i).2.2 r
theorem ie_runP (s : Nat) (K A B N : Nat → Int32) (i : Nat) : (ie_run s K A B N i).1 < 2 ^ s := by
  have := ie_xP K A B N s 0 0 0 (ie_0 i) (by decide)
  rwa [Nat.zero_add] at this
theorem ie_runP12 {s : Nat} (hs : s ≤ 12) (K A B N : Nat → Int32) (i : Nat) : (ie_run s K A B N i).1 < 4096 :=
  Nat.lt_of_lt_of_le (ie_runP s K A B N i) (Nat.pow_le_pow_right (n := 2) (by decide) hs)
theorem ie_0B {i : Nat} (h : i < 256) : ie_B 20 (ie_0 i) := by
  intro r _
  unfold ie_0
  by_cases e0 : r = 0
  · rw [if_pos e0, nI_toInt (by omega)]
    omega
  rw [if_neg e0]
  by_cases e1 : r = 1
  · rw [if_pos e1, nI_toInt (by omega)]
    omega
  rw [if_neg e1]
  decide
theorem ie_runB {K A B N : Nat → Int32} {s : Nat} (ok : ie_Ok s K A B N) (hs : s ≤ 12) {i r : Nat} (hi : i < 256) (hr : r < 4) : (ie_run s K A B N i).2.2 r ≠ -1000000000 := by
  have h := ie_xB ok hs s 0 0 0 (ie_0 i) (Nat.zero_add s) (ie_0B hi) r hr
  have h2 := ie_Mb hs
  intro e
  have e2 : ((ie_run s K A B N i).2.2 r).toInt = -1000000000 := by rw [e]; decide
  have e3 : ((ie_run s K A B N i).2.2 r).toInt = ((ie_x K A B N s 0 0 0 (ie_0 i)).2.2 r).toInt := rfl
  omega
/-! masks -/
theorem ie_or {m q : Nat} (hm : m < 2 ^ q) (hq : q < 31) : nI m ||| ((1 : Int32) <<< (nI q &&& 31)) = nI (m + 2 ^ q) := by
  have h2 : 2 ^ q < 2 ^ 31 := Nat.pow_lt_pow_right (by decide) hq
  have e1 : (1 : Int32) <<< (nI q &&& 31) = nI (2 ^ q) := by
    have := pk_shlN (n := 1) (nI q &&& 31) q (s_l q (by omega)) (by omega)
    rw [Nat.one_mul] at this
    exact this
  rw [e1]
  apply Int32.toBitVec_inj.mp
  apply BitVec.eq_of_toNat_eq
  rw [Int32.toBitVec_or, BitVec.toNat_or, pk_tn (by omega), pk_tn (by omega), pk_tn (by omega)]
  have := Nat.two_pow_add_eq_or_of_lt hm 1
  rw [Nat.mul_one] at this
  rw [Nat.or_comm, ← this, Nat.add_comm]
theorem ie_bit {m p : Nat} (hm : m < 2 ^ 31) (hp : p < 32) : (nI m >>> (nI p &&& 31)) &&& 1 = nI (m / 2 ^ p % 2) := by
  have h := Nat.div_le_self m (2 ^ p)
  rw [pk_shrN hm _ p (s_l p hp), pk_andN (by omega) 1 (by decide)]
/-! counting and searching -/
def ie_cnt (f : Nat → Nat) : Nat → Nat
  | 0 => 0
  | n + 1 => ie_cnt f n + f n
theorem ie_cntC {f g : Nat → Nat} : ∀ n, (∀ i, i < n → f i = g i) → ie_cnt f n = ie_cnt g n := by
  intro n
  induction n with
  | zero => intro _; rfl
  | succ n ih => intro h; rw [ie_cnt, ie_cnt, ih (fun i hi => h i (by omega)), h n (by omega)]
theorem ie_cnt0 {f : Nat → Nat} {s : Nat} : ∀ d, (∀ i, s ≤ i → i < s + d → f i = 0) → ie_cnt f (s + d) = ie_cnt f s := by
  intro d
  induction d with
  | zero => intro _; rfl
  | succ d ih =>
    intro h
    show ie_cnt f (s + d) + f (s + d) = _
    rw [ih (fun i h1 h2 => h i h1 (by omega)), h (s + d) (by omega) (by omega), Nat.add_zero]
/-- r is the least number with f from i on and below L, or -1 -/
def ie_fs (f : Nat → Prop) (L : Nat) (i : Nat) (r : Int32) : Prop := (∃ j, i ≤ j ∧ j < L ∧ f j ∧ (∀ k, i ≤ k → k < j → ¬ f k) ∧ r = nI j) ∨ ((∀ k, i ≤ k → k < L → ¬ f k) ∧ r = -1)
theorem ie_fsE (f : Nat → Prop) (L i : Nat) : ∃ r, ie_fs f L i r := by
  by_cases h : ∃ j, i ≤ j ∧ j < L ∧ f j
  · obtain ⟨j, ⟨h1, h2, h3⟩, h4⟩ := pk_least _ h
    exact ⟨nI j, Or.inl ⟨j, h1, h2, h3, fun k hk hkj fk => h4 k hkj ⟨hk, by omega, fk⟩, rfl⟩⟩
  · exact ⟨-1, Or.inr ⟨fun k h1 h2 h3 => h ⟨k, h1, h2, h3⟩, rfl⟩⟩
theorem ie_fsH {f : Nat → Prop} {L i : Nat} {r : Int32} (h : ie_fs f L i r) (hi : i < L) (fi : f i) : r = nI i := by
  rcases h with ⟨j, h1, h2, h3, h4, rfl⟩ | ⟨h1, _⟩
  · by_cases e : i = j
    · rw [e]
    · exact absurd fi (h4 i (Nat.le_refl i) (by omega))
  · exact absurd fi (h1 i (Nat.le_refl i) hi)
theorem ie_fsM {f : Nat → Prop} {L i : Nat} {r : Int32} (h : ie_fs f L i r) (fi : ¬ f i) : ie_fs f L (i + 1) r := by
  rcases h with ⟨j, h1, h2, h3, h4, rfl⟩ | ⟨h1, h2⟩
  · have e : i ≠ j := fun e => fi (e ▸ h3)
    exact Or.inl ⟨j, by omega, h2, h3, fun k hk hkj => h4 k (by omega) hkj, rfl⟩
  · exact Or.inr ⟨fun k hk hkL => h1 k (by omega) hkL, h2⟩
theorem ie_fsZ {f : Nat → Prop} {L i : Nat} {r : Int32} (h : ie_fs f L i r) (hi : L ≤ i) : r = -1 := by
  rcases h with ⟨j, h1, h2, _⟩ | ⟨_, h2⟩
  · omega
  · exact h2
/-- a search that begins at i and one that begins at 0 and passes over what is below i -/
theorem ie_fsF {f g : Nat → Prop} {L i : Nat} {r : Int32} (h : ie_fs f L i r) (e : ∀ k, k < L → (g k ↔ (i ≤ k ∧ f k))) : ie_fs g L 0 r := by
  rcases h with ⟨j, h1, h2, h3, h4, rfl⟩ | ⟨h1, h2⟩
  · exact Or.inl ⟨j, by omega, h2, (e j h2).mpr ⟨h1, h3⟩, fun k _ hkj gk => h4 k ((e k (by omega)).mp gk).1 hkj ((e k (by omega)).mp gk).2, rfl⟩
  · exact Or.inr ⟨fun k _ hk gk => h1 k ((e k hk).mp gk).1 hk ((e k hk).mp gk).2, h2⟩
theorem ie_cntU {f g : Nat → Nat} {c : Nat} : ∀ n, c < n → (∀ i, i ≠ c → g i = f i) → g c = f c + 1 → ie_cnt g n = ie_cnt f n + 1 := by
  intro n
  induction n with
  | zero => intro h; omega
  | succ n ih =>
    intro h h1 h2
    show ie_cnt g n + g n = ie_cnt f n + f n + 1
    by_cases e : c = n
    · subst e
      rw [ie_cntC c (fun i hi => h1 i (by omega)), h2]
      omega
    · rw [ih (by omega) h1 h2, h1 n (fun z => e z.symm)]
      omega
/-- the marks, counted -/
def ie_mk (M : Nat → Int32) : Nat → Nat := fun j => if M j = 0 then 0 else 1
/-- the least or greatest value so far, and whether there is one -/
def ie_e (w : Int32) (F V : Nat → Int32) : Nat → Int32 × Int32
  | 0 => (-1000000000, 0)
  | n + 1 => if F n = 0 then (if (ie_e w F V n).2 = 0 ∨ (w = 0 ∧ V n < (ie_e w F V n).1) ∨ (¬ w = 0 ∧ (ie_e w F V n).1 < V n) then V n else (ie_e w F V n).1, 1) else ie_e w F V n
theorem ie_e01 (w : Int32) (F V : Nat → Int32) : ∀ n, (∀ i, i < n → V i ≠ -1000000000) → ((ie_e w F V n).2 = 0 ∧ (ie_e w F V n).1 = -1000000000) ∨ ((ie_e w F V n).2 = 1 ∧ (ie_e w F V n).1 ≠ -1000000000) := by
  intro n
  induction n with
  | zero => intro _; exact Or.inl ⟨rfl, rfl⟩
  | succ n ih =>
    intro h
    have i := ih (fun i hi => h i (by omega))
    by_cases f : F n = 0
    · rw [ie_e, if_pos f]
      refine Or.inr ⟨rfl, ?_⟩
      dsimp only
      by_cases c : (ie_e w F V n).2 = 0 ∨ (w = 0 ∧ V n < (ie_e w F V n).1) ∨ (¬ w = 0 ∧ (ie_e w F V n).1 < V n)
      · rw [if_pos c]
        exact h n (by omega)
      · rw [if_neg c]
        rcases i with i | i
        · exact absurd (Or.inl i.1) c
        · exact i.2
    · rw [ie_e, if_neg f]
      exact i
/-! small rows for the walks -/
theorem ie_x01 (K A B N : Nat → Int32) : ∀ (d p q m : Nat) (R : Nat → Int32), (ie_x K A B N d p q m R).2.1 = 0 ∨ (ie_x K A B N d p q m R).2.1 = 1 := by
  intro d
  induction d with
  | zero => intro p q m R; exact Or.inl rfl
  | succ d ih =>
    intro p q m R
    by_cases hq : p = q
    · subst hq
      by_cases hb : K p = 7 ∧ R (B p).toNatClampNeg < R (A p).toNatClampNeg
      · rw [ie_xf hb]
        exact Or.inr rfl
      · rw [ie_xg hb]
        exact ih _ _ _ _
    · rw [ie_xn hq]
      exact ih _ _ _ _
theorem ie_nb0 : vp_nar .boolean 0 = 0 := rfl
theorem ie_nb1 : vp_nar .boolean 1 = 1 := rfl
theorem ie_nb {z : Int32} (h : z = 0 ∨ z = 1) : vp_nar .boolean z = z := by
  rcases h with rfl | rfl
  · exact ie_nb0
  · exact ie_nb1
theorem ie_upS (R : Nat → Int32) (a : Nat) : upd R a (R a) = R := by
  funext r
  by_cases e : r = a
  · subst e
    exact pk_us
  · exact pk_un e
theorem ie_upG {G R : Nat → Int32} {b a : Nat} {x : Int32} (h : ∀ r, r < 4 → G (b + r) = R r) : ∀ r, r < 4 → upd G (b + a) x (b + r) = upd R a x r := by
  intro r hr
  by_cases e : r = a
  · subst e
    rw [pk_us, pk_us]
  · rw [pk_un e, pk_un (by omega)]
    exact h r hr
theorem ie_upL {G H : Nat → Int32} {b a : Nat} {x : Int32} (h : ∀ j, j < b → G j = H j) : ∀ j, j < b → upd G (b + a) x j = H j := by
  intro j hj
  rw [pk_un (by omega)]
  exact h j hj
theorem ie_upI {G H : Nat → Int32} {b : Nat} {x : Int32} (h : ∀ j, j < b → G j = H j) : ∀ j, j < b → upd G b x j = H j := by
  intro j hj
  rw [pk_un (by omega)]
  exact h j hj
/-- the first four stores of a run -/
theorem ie_ini {G : Nat → Int32} (i : Nat) : ∀ r, r < 4 → upd (upd (upd (upd G (4 * i) (nI (i % 16))) (4 * i + 1) (nI (i / 16))) (4 * i + 2) 0) (4 * i + 3) 0 (4 * i + r) = ie_0 i r := by
  intro r hr
  have hr : r = 0 ∨ r = 1 ∨ r = 2 ∨ r = 3 := by omega
  rcases hr with rfl | rfl | rfl | rfl
  · rw [pk_un (by omega), pk_un (by omega), pk_un (by omega)]
    exact pk_us
  · rw [pk_un (by omega), pk_un (by omega), pk_us]
    rfl
  · rw [pk_un (by omega), pk_us]
    rfl
  · rw [pk_us]
    rfl
theorem ie_iniL {G : Nat → Int32} {i : Nat} {x y z w : Int32} : ∀ j, j < 4 * i → upd (upd (upd (upd G (4 * i) x) (4 * i + 1) y) (4 * i + 2) z) (4 * i + 3) w j = G j := by
  intro j hj
  rw [pk_un (by omega), pk_un (by omega), pk_un (by omega), pk_un (by omega)]
theorem ie_Ts {s : Nat} {K A B N P F G P' F' G' : Nat → Int32} {i : Nat} (T : ie_T s K A B N P F G i) (hP : ∀ j, j < i → P' j = P j) (hF : ∀ j, j < i → F' j = F j) (hG : ∀ j, j < 4 * i → G' j = G j) (p : P' i = nI (ie_run s K A B N i).1) (f : F' i = (ie_run s K A B N i).2.1) (g : ∀ r, r < 4 → G' (4 * i + r) = (ie_run s K A B N i).2.2 r) : ie_T s K A B N P' F' G' (i + 1) := by
  intro j hj
  by_cases e : j = i
  · subst e
    exact ⟨p, f, g⟩
  · have hj : j < i := by omega
    obtain ⟨h1, h2, h3⟩ := T j hj
    refine ⟨by rw [hP j hj, h1], by rw [hF j hj, h2], fun r hr => ?_⟩
    rw [hG _ (by omega), h3 r hr]
theorem ie_T0 {s : Nat} {K A B N P F G : Nat → Int32} : ie_T s K A B N P F G 0 := fun j hj => absurd hj (Nat.not_lt_zero j)
end
section
/-! the component's run of one input, against the pure picture -/
theorem xr_fails {post : Int32 → Prop} {i p a b : Nat} {fs fm : Int32} {K A B N P F G Mk R : Nat → Int32} (hp : p < 12) (hi : i < 256) (hG : ∀ r, r < 4 → G (4 * i + r) = R r) (ha : a < 4) (ea : A p = nI a) (hb : b < 4) (eb : B p = nI b)
    (h1 : K p = 7 ∧ R b < R a → post 1) (h0 : ¬ (K p = 7 ∧ R b < R a) → post 0) : wpX_failsAt post (fs, fm, K, A, B, N, P, F, G, Mk) (nI p) (nI (4 * i)) := by
  have cp : (nI p).toNatClampNeg = p := nI_clamp (by omega)
  have hin : vp_in (nI p) 12 := vp_in_nI hp (by decide)
  unfold wpX_failsAt
  dsimp only
  rw [cp, ea, eb, nI_add, nI_add]
  refine ⟨hin, nm_e ⟨hin, nm_e ⟨hin, ?_⟩⟩⟩
  rw [nI_clamp (n := 4 * i + a) (by omega), nI_clamp (n := 4 * i + b) (by omega), hG a ha, hG b hb]
  refine br_c (fun k7 => ⟨vp_in_nI (by omega) (by decide), vp_in_nI (by omega) (by decide), br_c (fun hl => h0 ?_) (fun hl => h1 ⟨k7, Int32.not_le.mp hl⟩)⟩) (fun k7 => h0 (fun z => k7 z.1))
  exact fun z => Int32.not_lt.mpr hl z.2
theorem xr_after {post : Int32 → Prop} {i p a b : Nat} {fs fm : Int32} {K A B N P F G Mk R : Nat → Int32} (hp : p < 12) (hi : i < 256) (hG : ∀ r, r < 4 → G (4 * i + r) = R r) (ha : a < 4) (ea : A p = nI a) (hb : b < 4) (eb : B p = nI b)
    (hN : K p = 6 ∨ K p = 4 ∨ K p = 5 → ∃ n, p < n ∧ n ≤ 12 ∧ N p = nI n)
    (h : post (nI (if K p = 6 ∨ (K p = 4 ∧ R a < R b) ∨ (K p = 5 ∧ R a = R b) then (N p).toNatClampNeg else p + 1))) : wpX_positionAfter post (fs, fm, K, A, B, N, P, F, G, Mk) (nI p) (nI (4 * i)) := by
  have cp : (nI p).toNatClampNeg = p := nI_clamp (by omega)
  have hin : vp_in (nI p) 12 := vp_in_nI hp (by decide)
  have hz : ¬ (K p = 6 ∨ (K p = 4 ∧ R a < R b) ∨ (K p = 5 ∧ R a = R b)) → wX_positionAfter_114 post (nI p) 0 fs fm K A B N P F G Mk := fun c => by
    rw [if_neg c] at h
    refine br_t rfl ?_
    rw [nI_1]
    exact h
  have ho : (K p = 6 ∨ (K p = 4 ∧ R a < R b) ∨ (K p = 5 ∧ R a = R b)) → wX_positionAfter_114 post (nI p) 1 fs fm K A B N P F G Mk := fun c => by
    rw [if_pos c] at h
    obtain ⟨n, h1, h2, e⟩ := hN (by rcases c with c | c | c; exact Or.inl c; exact Or.inr (Or.inl c.1); exact Or.inr (Or.inr c.1))
    rw [e, nI_clamp (by omega), ← e] at h
    refine br_f (by decide) ⟨hin, ?_⟩
    rw [cp]
    exact h
  unfold wpX_positionAfter
  dsimp only
  rw [cp, ea, eb, nI_add, nI_add]
  refine ⟨hin, nm_e ⟨hin, nm_e ⟨hin, ?_⟩⟩⟩
  rw [nI_clamp (n := 4 * i + a) (by omega), nI_clamp (n := 4 * i + b) (by omega), hG a ha, hG b hb]
  have va : vp_in (nI (4 * i + a)) 1024 := vp_in_nI (by omega) (by decide)
  have vb : vp_in (nI (4 * i + b)) 1024 := vp_in_nI (by omega) (by decide)
  by_cases k4 : K p = 4
  · have n6 : ¬ K p = 6 := by rw [k4]; decide
    have n5 : ¬ K p = 5 := by rw [k4]; decide
    refine nm_r k4 (br_f (by decide) (br_f (by decide) (br_t rfl ⟨va, vb, br_c (fun hl => hz ?_) (fun hl => ho (Or.inr (Or.inl ⟨k4, Int32.not_le.mp hl⟩)))⟩)))
    rintro (c | c | c)
    · exact n6 c
    · exact Int32.not_lt.mpr hl c.2
    · exact n5 c.1
  by_cases k5 : K p = 5
  · have n6 : ¬ K p = 6 := by rw [k5]; decide
    refine nm_r k5 (br_f (by decide) (br_f (by decide) (br_f (by decide) (br_t rfl ⟨va, vb, br_c (fun hl => ho (Or.inr (Or.inr ⟨k5, hl⟩))) (fun hl => hz ?_)⟩))))
    rintro (c | c | c)
    · exact n6 c
    · exact k4 c.1
    · exact hl c.2
  by_cases k6 : K p = 6
  · exact nm_r k6 (br_f (by decide) (br_f (by decide) (br_f (by decide) (br_f (by decide) (br_t rfl (ho (Or.inl k6)))))))
  have hn : ¬ (K p = 6 ∨ (K p = 4 ∧ R a < R b) ∨ (K p = 5 ∧ R a = R b)) := by
    rintro (c | c | c)
    · exact k6 c
    · exact k4 c.1
    · exact k5 c.1
  exact nm_e (br_c (fun _ => hz hn) (fun _ => br_c (fun _ => hz hn) (fun _ => br_f k4 (br_f k5 (br_f k6 trivial)))))
theorem xr_calc {post : SX → Prop} {i p a b : Nat} {fs fm : Int32} {K A B N P F G Mk R : Nat → Int32} (hp : p < 12) (hi : i < 256) (hG : ∀ r, r < 4 → G (4 * i + r) = R r) (ha : a < 4) (ea : A p = nI a) (hb : b < 4) (eb : B p = nI b)
    (h : ∀ G' : Nat → Int32, (∀ r, r < 4 → G' (4 * i + r) = upd R a (ie_made (K p) (R a) (R b) (N p)) r) → (∀ j, j < 4 * i → G' j = G j) → post (fs, fm, K, A, B, N, P, F, G', Mk)) : wpX_calculate post (fs, fm, K, A, B, N, P, F, G, Mk) (nI p) (nI (4 * i)) := by
  have cp : (nI p).toNatClampNeg = p := nI_clamp (by omega)
  have hin : vp_in (nI p) 12 := vp_in_nI hp (by decide)
  unfold wpX_calculate
  dsimp only
  rw [cp, ea, eb, nI_add, nI_add]
  refine ⟨hin, nm_e ⟨hin, nm_e ⟨hin, ?_⟩⟩⟩
  rw [nI_clamp (n := 4 * i + a) (by omega), nI_clamp (n := 4 * i + b) (by omega), hG a ha, hG b hb]
  have va : vp_in (nI (4 * i + a)) 1024 := vp_in_nI (by omega) (by decide)
  have vb : vp_in (nI (4 * i + b)) 1024 := vp_in_nI (by omega) (by decide)
  have hs : ∀ v : Int32, ie_made (K p) (R a) (R b) (N p) = v → post (fs, fm, K, A, B, N, P, F, upd G (4 * i + a) v, Mk) := fun v e => by
    subst e
    exact h _ (ie_upG hG) (ie_upL (fun _ _ => rfl))
  by_cases k0 : K p = 0
  · exact nm_r k0 (br_f (by decide) (br_f (by decide) (br_t rfl ⟨hin, va, nm_e (hs _ (by rw [ie_made, if_pos k0]))⟩)))
  by_cases k1 : K p = 1
  · exact nm_r k1 (br_f (by decide) (br_f (by decide) (br_f (by decide) (br_t rfl ⟨va, vb, va, nm_e (hs _ (by rw [ie_made, if_neg k0, if_pos k1]))⟩))))
  by_cases k2 : K p = 2
  · exact nm_r k2 (br_f (by decide) (br_f (by decide) (br_f (by decide) (br_f (by decide) (br_t rfl ⟨va, vb, va, nm_e (hs _ (by rw [ie_made, if_neg k0, if_neg k1, if_pos k2]))⟩)))))
  by_cases k3 : K p = 3
  · exact nm_r k3 (br_f (by decide) (br_f (by decide) (br_f (by decide) (br_f (by decide) (br_f (by decide) (br_t rfl ⟨va, hin, va, nm_e (hs _ (by rw [ie_made, if_neg k0, if_neg k1, if_neg k2, if_pos k3]))⟩))))))
  have hz : post (fs, fm, K, A, B, N, P, F, G, Mk) := by
    refine h G ?_ (fun _ _ => rfl)
    rw [ie_made, if_neg k0, if_neg k1, if_neg k2, if_neg k3, ie_upS]
    exact hG
  exact nm_e (br_c (fun _ => hz) (fun _ => br_c (fun _ => hz) (fun _ => br_f k0 (br_f k1 (br_f k2 (br_f k3 trivial))))))
theorem xr_loop {post : SX → Prop} {s i : Nat} {fm : Int32} {K A B N P F Mk G0 : Nat → Int32} (hs : s ≤ 12) (hi : i < 256) (ok : ie_Ok s K A B N) : ∀ (d n p q m : Nat) (G R : Nat → Int32), p + d = s → d < n → q ≤ 12 → m < 2 ^ p →
    (∀ r, r < 4 → G (4 * i + r) = R r) → (∀ j, j < 4 * i → G j = G0 j) →
    (∀ G' : Nat → Int32, (∀ r, r < 4 → G' (4 * i + r) = (ie_x K A B N d p q m R).2.2 r) → (∀ j, j < 4 * i → G' j = G0 j) → wX_runFor_114 post (nI i) (nI (ie_x K A B N d p q m R).1) (ie_x K A B N d p q m R).2.1 (nI s) fm K A B N P F G' Mk) →
    wX_runFor_55 post (nI i) (nI (4 * i)) n (nI m) (nI q) 0 (nI p) (nI s) fm K A B N P F G Mk := by
  intro d
  induction d with
  | zero =>
    intro n p q m G R hp hn hq hm hG hL h
    obtain ⟨n, rfl⟩ : ∃ n', n = n' + 1 := ⟨n - 1, by omega⟩
    exact br_t (nI_le (by omega) (by omega)) (h G hG hL)
  | succ d ih =>
    intro n p q m G R hp hn hq hm hG hL h
    obtain ⟨n, rfl⟩ : ∃ n', n = n' + 1 := ⟨n - 1, by omega⟩
    have e2 : 2 ^ (p + 1) = 2 ^ p + 2 ^ p := by rw [Nat.pow_succ]; omega
    refine br_f (nI_ge (by omega) (by omega)) (br_t rfl (pk_eq p q (fun e => ?_) (fun e => ?_)))
    · subst e
      obtain ⟨⟨a, ha, ea⟩, ⟨b, hb, eb⟩, h0, h3, hN⟩ := ok p (by omega)
      have ca : (A p).toNatClampNeg = a := by rw [ea]; exact nI_clamp (by omega)
      have cb : (B p).toNatClampNeg = b := by rw [eb]; exact nI_clamp (by omega)
      refine nm_r (ie_or hm (by omega)) ?_
      have key : ∀ z : Int32, (∀ G' : Nat → Int32, (∀ r, r < 4 → G' (4 * i + r) = upd R a (ie_made (K p) (R a) (R b) (N p)) r) → (∀ j, j < 4 * i → G' j = G j) → wX_runFor_55 post (nI i) (nI (4 * i)) n (nI (m + 2 ^ p)) (nI (if K p = 6 ∨ (K p = 4 ∧ R a < R b) ∨ (K p = 5 ∧ R a = R b) then (N p).toNatClampNeg else p + 1)) z (nI (p + 1)) (nI s) fm K A B N P F G' Mk) → wpX_positionAfter (fun r_32 => (wpX_calculate (fun u => match u with | (f_stepCount_44, f_markCount_45, a_stepKind_46, a_stepA_47, a_stepB_48, a_stepN_49, a_pathOf_50, a_fails_51, a_registers_52, a_isMarked_53) => (∀ x6_54 : Int32, x6_54 = nI p + 1 → (wX_runFor_55 post (nI i) (nI (4 * i)) n (nI (m + 2 ^ p)) r_32 z x6_54 f_stepCount_44 f_markCount_45 a_stepKind_46 a_stepA_47 a_stepB_48 a_stepN_49 a_pathOf_50 a_fails_51 a_registers_52 a_isMarked_53))) (nI s, fm, K, A, B, N, P, F, G, Mk) (nI p) (nI (4 * i)))) (nI s, fm, K, A, B, N, P, F, G, Mk) (nI p) (nI (4 * i)) := by
        intro z hz
        refine xr_after (by omega) hi hG ha ea hb eb hN ?_
        refine xr_calc (by omega) hi hG ha ea hb eb (fun G' g1 g2 => ?_)
        exact nm_r (nI_1 p) (hz G' g1 g2)
      refine xr_fails (by omega) hi hG ha ea hb eb (fun c => ?_) (fun c => ?_)
      · have c' : K p = 7 ∧ R (B p).toNatClampNeg < R (A p).toNatClampNeg := by rw [ca, cb]; exact c
        refine key 1 (fun G' g1 g2 => ?_)
        obtain ⟨n, rfl⟩ : ∃ n', n = n' + 1 := ⟨n - 1, by omega⟩
        have g3 : ∀ r, r < 4 → G' (4 * i + r) = R r := by
          intro r hr
          rw [g1 r hr, c.1]
          show upd R a (R a) r = R r
          rw [ie_upS]
        have h2 := h G'
        rw [ie_xf c'] at h2
        have h3 := h2 g3 (fun j hj => (g2 j hj).trans (hL j hj))
        exact br_c (fun _ => h3) (fun _ => br_f (by decide) h3)
      · have c' : ¬ (K p = 7 ∧ R (B p).toNatClampNeg < R (A p).toNatClampNeg) := by rw [ca, cb]; exact c
        refine key 0 (fun G' g1 g2 => ?_)
        rw [ie_xg c', ca, cb] at h
        refine ih n (p + 1) _ (m + 2 ^ p) G' _ (by omega) (by omega) ?_ (by omega) g1 (fun j hj => (g2 j hj).trans (hL j hj)) h
        by_cases cj : K p = 6 ∨ (K p = 4 ∧ R a < R b) ∨ (K p = 5 ∧ R a = R b)
        · obtain ⟨t, h1, h2, e⟩ := hN (by rcases cj with c | c | c; exact Or.inl c; exact Or.inr (Or.inl c.1); exact Or.inr (Or.inr c.1))
          rw [if_pos cj, e, nI_clamp (by omega)]
          exact h2
        · rw [if_neg cj]
          omega
    · rw [ie_xn e] at h
      exact nm_r (nI_1 p) (ih n (p + 1) q m G R (by omega) (by omega) hq (by omega) hG hL h)
theorem xr_run {post : SX → Prop} {s i : Nat} {fm : Int32} {K A B N P F G Mk : Nat → Int32} (hs : s ≤ 12) (hi : i < 256) (ok : ie_Ok s K A B N) (T : ie_T s K A B N P F G i)
    (h : ∀ P' F' G' : Nat → Int32, ie_T s K A B N P' F' G' (i + 1) → post (nI s, fm, K, A, B, N, P', F', G', Mk)) : wpX_runFor post (nI s, fm, K, A, B, N, P, F, G, Mk) (nI i) := by
  have e4 : (4 : Int32) * nI i = nI (4 * i) := pk_mul 4 i
  have ci : (nI i).toNatClampNeg = i := nI_clamp (by omega)
  have er : nI i - nI i / 16 * 16 = nI (i % 16) := pk_rem (d := 16) (by omega) (by decide) (by decide)
  have ed : nI i / 16 = nI (i / 16) := pk_div (d := 16) (by omega) (by decide) (by decide)
  have e1 : nI (4 * i) + 1 = nI (4 * i + 1) := nI_add (4 * i) 1
  have e2 : nI (4 * i) + 2 = nI (4 * i + 2) := nI_add (4 * i) 2
  have e3 : nI (4 * i) + 3 = nI (4 * i + 3) := nI_add (4 * i) 3
  refine nm_r e4 ?_
  rw [er, ed, e1, e2, e3, nI_clamp (n := 4 * i) (by omega), nI_clamp (n := 4 * i + 1) (by omega), nI_clamp (n := 4 * i + 2) (by omega), nI_clamp (n := 4 * i + 3) (by omega)]
  refine ⟨by decide, vp_in_nI (by omega) (by decide), nm_e ⟨by decide, vp_in_nI (by omega) (by decide), nm_e ⟨vp_in_nI (by omega) (by decide), nm_e ⟨vp_in_nI (by omega) (by decide), nm_e ⟨13, ?_⟩⟩⟩⟩⟩
  refine xr_loop (G0 := G) hs hi ok s 13 0 0 0 _ (ie_0 i) (by omega) (by omega) (by omega) (by decide) (ie_ini i) ie_iniL (fun G' g1 g2 => ?_)
  refine ⟨vp_in_nI hi (by decide), nm_e ⟨vp_in_nI hi (by decide), nm_e ?_⟩⟩
  rw [ci, ie_nb (ie_x01 K A B N s 0 0 0 (ie_0 i))]
  exact h _ _ _ (ie_Ts T (ie_upI (fun _ _ => rfl)) (ie_upI (fun _ _ => rfl)) g2 pk_us pk_us g1)
theorem xr_all {post : SX → Prop} {s : Nat} {fm : Int32} {K A B N P F G Mk : Nat → Int32} (hs : s ≤ 12) (ok : ie_Ok s K A B N)
    (h : ∀ P' F' G' M' : Nat → Int32, ie_T s K A B N P' F' G' 256 → (∀ j, j < 4096 → M' j = 0) → post (nI s, 0, K, A, B, N, P', F', G', M')) : wpX_programChanged post (nI s, fm, K, A, B, N, P, F, G, Mk) := by
  unfold wpX_programChanged
  dsimp only
  unfold wpX_forgetMarks
  dsimp only
  refine loop_0 (fun n i (M : Nat → Int32) => wX_forgetMarks_2 _ (nI s) fm n (nI i) K A B N P F G M) (fun i M => ∀ j, j < i → M j = 0) 4096 Mk (fun j hj => absurd hj (Nat.not_lt_zero j)) ?_ ?_
  · intro n M hM
    refine br_t (nI_le (a := 4096) (by omega) (by decide)) ?_
    refine loop_0 (fun n i (t : (Nat → Int32) × (Nat → Int32) × (Nat → Int32)) => wX_programChanged_6 post n (nI i) (nI s) 0 K A B N t.1 t.2.1 t.2.2 M) (fun i t => ie_T s K A B N t.1 t.2.1 t.2.2 i) 256 (P, F, G) ie_T0 ?_ ?_
    · intro n t ht
      exact br_t (nI_le (a := 256) (by omega) (by decide)) (h _ _ _ _ ht hM)
    · intro n i t hi ht hk
      refine br_f (nI_ge (b := 256) hi (by decide)) ?_
      refine xr_run hs hi ok ht (fun P' F' G' hT => ?_)
      exact nm_r (nI_1 i) (hk (P', F', G') hT)
  · intro n i M hi hM hk
    refine br_f (nI_ge (b := 4096) hi (by decide)) ⟨vp_in_nI hi (by decide), nm_e (nm_r (nI_1 i) (hk _ ?_))⟩
    rw [nI_clamp (by omega), ie_nb0]
    exact lt_s (fun j hj => by rw [pk_un (by omega)]; exact hM j hj) pk_us
end
section
/-! the reference's run of one input, against the pure picture -/
theorem yr_257 {post : SY → Prop} {J : Int32 → (Nat → Int32) → (Nat → Int32) → (Nat → Int32) → (Nat → Int32) → (Nat → Int32) → (Nat → Int32) → (Nat → Int32) → (Nat → Int32) → Prop} {i p m : Nat} {x2 x7 x8 z sz : Int32} {K A B N Mk P F G : Nat → Int32} (hi : i < 256) (hp : p < 12) (hm : m < 2 ^ p) (eP : P i = nI m) (hz : z = 0 ∨ z = 1)
    (h : ∀ P' F' : Nat → Int32, (∀ j, j < i → P' j = P j) → (∀ j, j < i → F' j = F j) → P' i = nI (m + 2 ^ p) → F' i = z → (x8 = 0 → J (nI (p + 1)) K A B N Mk P' F' G) ∧ (¬ x8 = 0 → J x7 K A B N Mk P' F' G)) :
    wY_run_257 post J (nI i) x2 (nI p) x7 x8 z (nI i) sz K A B N Mk P F G := by
  have ci : (nI i).toNatClampNeg = i := nI_clamp (by omega)
  have vi : vp_in (nI i) 256 := vp_in_nI hi (by decide)
  unfold wY_run_257
  rw [ci, ie_nb hz, eP, ie_or hm (by omega), nI_1]
  exact ⟨vi, nm_e ⟨vi, vi, nm_e (br_c (fun e => nm_e ((h _ _ (ie_upI (fun _ _ => rfl)) (ie_upI (fun _ _ => rfl)) pk_us pk_us).1 e)) (fun e => (h _ _ (ie_upI (fun _ _ => rfl)) (ie_upI (fun _ _ => rfl)) pk_us pk_us).2 e))⟩⟩
theorem yr_216 {post : SY → Prop} {J : Int32 → (Nat → Int32) → (Nat → Int32) → (Nat → Int32) → (Nat → Int32) → (Nat → Int32) → (Nat → Int32) → (Nat → Int32) → (Nat → Int32) → Prop} {i p m a : Nat} {k x y x7 x8 w sz : Int32} {K A B N Mk P F G : Nat → Int32} (hi : i < 256) (hp : p < 12) (hm : m < 2 ^ p) (eP : P i = nI m) (ha : a < 4) (ea : A p = nI a)
    (h : ∀ P' F' : Nat → Int32, (∀ j, j < i → P' j = P j) → (∀ j, j < i → F' j = F j) → P' i = nI (m + 2 ^ p) → ((k = 7 ∧ y < x → F' i = 1) ∧ (¬ (k = 7 ∧ y < x) → F' i = 0)) → (x8 = 0 → J (nI (p + 1)) K A B N Mk P' F' (upd G (4 * i + a) w)) ∧ (¬ x8 = 0 → J x7 K A B N Mk P' F' (upd G (4 * i + a) w))) :
    wY_run_216 post J (nI i) (nI (4 * i)) (nI p) k x y x7 x8 w sz K A B N Mk P F G := by
  have cp : (nI p).toNatClampNeg = p := nI_clamp (by omega)
  unfold wY_run_216
  rw [cp, ea, nI_add, nI_clamp (n := 4 * i + a) (by omega)]
  have h0 : ¬ (k = 7 ∧ y < x) → wY_run_256 post J (nI i) (nI (4 * i)) (nI p) x7 x8 (nI i) sz K A B N Mk P F (upd G (4 * i + a) w) := fun c => by
    unfold wY_run_256
    exact yr_257 hi hp hm eP (Or.inl rfl) (fun P' F' h1 h2 h3 h4 => h P' F' h1 h2 h3 ⟨fun z => absurd z c, fun _ => h4⟩)
  refine ⟨vp_in_nI hp (by decide), vp_in_nI (by omega) (by decide), nm_e (br_c (fun k7 => br_c (fun hl => h0 (fun z => Int32.not_lt.mpr hl z.2)) (fun hl => ?_)) (fun k7 => h0 (fun z => k7 z.1)))⟩
  exact yr_257 hi hp hm eP (Or.inr rfl) (fun P' F' h1 h2 h3 h4 => h P' F' h1 h2 h3 ⟨fun _ => h4, fun z => absurd ⟨k7, Int32.not_le.mp hl⟩ z⟩)
theorem yr_160 {post : SY → Prop} {J : Int32 → (Nat → Int32) → (Nat → Int32) → (Nat → Int32) → (Nat → Int32) → (Nat → Int32) → (Nat → Int32) → (Nat → Int32) → (Nat → Int32) → Prop} {i p m a : Nat} {k x y x7 x8 sz : Int32} {K A B N Mk P F G : Nat → Int32} (hi : i < 256) (hp : p < 12) (hm : m < 2 ^ p) (eP : P i = nI m) (ha : a < 4) (ea : A p = nI a)
    (h : ∀ P' F' : Nat → Int32, (∀ j, j < i → P' j = P j) → (∀ j, j < i → F' j = F j) → P' i = nI (m + 2 ^ p) → ((k = 7 ∧ y < x → F' i = 1) ∧ (¬ (k = 7 ∧ y < x) → F' i = 0)) → (x8 = 0 → J (nI (p + 1)) K A B N Mk P' F' (upd G (4 * i + a) (ie_made k x y x7))) ∧ (¬ x8 = 0 → J x7 K A B N Mk P' F' (upd G (4 * i + a) (ie_made k x y x7)))) :
    wY_run_160 post J (nI i) (nI (4 * i)) (nI p) k x y x7 x8 sz K A B N Mk P F G := by
  have g : ∀ w : Int32, ie_made k x y x7 = w → wY_run_216 post J (nI i) (nI (4 * i)) (nI p) k x y x7 x8 w sz K A B N Mk P F G := fun w e => by
    rw [e] at h
    exact yr_216 hi hp hm eP ha ea h
  unfold wY_run_160
  exact br_c (fun k0 => g _ (by rw [ie_made, if_pos k0])) (fun k0 => br_c (fun k1 => g _ (by rw [ie_made, if_neg k0, if_pos k1])) (fun k1 => br_c (fun k2 => g _ (by rw [ie_made, if_neg k0, if_neg k1, if_pos k2])) (fun k2 => br_c (fun k3 => g _ (by rw [ie_made, if_neg k0, if_neg k1, if_neg k2, if_pos k3])) (fun k3 => g _ (by rw [ie_made, if_neg k0, if_neg k1, if_neg k2, if_neg k3])))))
theorem yr_loop {post : SY → Prop} {s i : Nat} {K A B N Mk P0 F0' G0 : Nat → Int32} (hs : s ≤ 12) (hi : i < 256) (ok : ie_Ok s K A B N) : ∀ (n q m : Nat) (P F G R : Nat → Int32), s - q < n → q ≤ 12 → m < 2 ^ q → P i = nI m → F i = 0 →
    (∀ r, r < 4 → G (4 * i + r) = R r) → (∀ j, j < i → P j = P0 j) → (∀ j, j < i → F j = F0' j) → (∀ j, j < 4 * i → G j = G0 j) →
    (∀ P' F' G' : Nat → Int32, (∀ j, j < i → P' j = P0 j) → (∀ j, j < i → F' j = F0' j) → (∀ j, j < 4 * i → G' j = G0 j) → P' i = nI (ie_x K A B N (s - q) q q m R).1 → F' i = (ie_x K A B N (s - q) q q m R).2.1 → (∀ r, r < 4 → G' (4 * i + r) = (ie_x K A B N (s - q) q q m R).2.2 r) → post (nI s, K, A, B, N, Mk, P', F', G')) →
    wY_run_59 post (nI i) (nI (4 * i)) (nI s) n (nI q) K A B N Mk P F G := by
  intro n
  induction n with
  | zero => intro q m P F G R hn; omega
  | succ n ih =>
    intro q m P F G R hn hq hm eP eF hG hLP hLF hLG h
    by_cases hqs : s ≤ q
    · rw [show s - q = 0 by omega] at h
      exact br_t (nI_le hqs (by omega)) (h P F G hLP hLF hLG eP eF hG)
    have hqs : q < s := by omega
    obtain ⟨d, hd⟩ : ∃ d, s - q = d + 1 := ⟨s - q - 1, by omega⟩
    rw [hd] at h
    obtain ⟨⟨a, ha, ea⟩, ⟨b, hb, eb⟩, h0, h3, hN⟩ := ok q (by omega)
    have ca : (A q).toNatClampNeg = a := by rw [ea]; exact nI_clamp (by omega)
    have cb : (B q).toNatClampNeg = b := by rw [eb]; exact nI_clamp (by omega)
    have cq : (nI q).toNatClampNeg = q := nI_clamp (by omega)
    have ci : (nI i).toNatClampNeg = i := nI_clamp (by omega)
    have vi : vp_in (nI i) 256 := vp_in_nI hi (by decide)
    have vq : vp_in (nI q) 12 := vp_in_nI (by omega) (by decide)
    have va : vp_in (nI (4 * i + a)) 1024 := vp_in_nI (by omega) (by decide)
    have vb : vp_in (nI (4 * i + b)) 1024 := vp_in_nI (by omega) (by decide)
    have e2 : 2 ^ (q + 1) = 2 ^ q + 2 ^ q := by rw [Nat.pow_succ]; omega
    have ia : nI (4 * i) + A q = nI (4 * i + a) := by rw [ea, nI_add]
    have ib : nI (4 * i) + B q = nI (4 * i + b) := by rw [eb, nI_add]
    -- what comes after this step, at the position t
    have key : ∀ (t : Nat) (P' F' : Nat → Int32), t = (if K q = 6 ∨ (K q = 4 ∧ R a < R b) ∨ (K q = 5 ∧ R a = R b) then (N q).toNatClampNeg else q + 1) → q < t → t ≤ 12 → (∀ j, j < i → P' j = P j) → (∀ j, j < i → F' j = F j) → P' i = nI (m + 2 ^ q) → ((K q = 7 ∧ R b < R a → F' i = 1) ∧ (¬ (K q = 7 ∧ R b < R a) → F' i = 0)) → wY_run_59 post (nI i) (nI (4 * i)) (nI s) n (nI t) K A B N Mk P' F' (upd G (4 * i + a) (ie_made (K q) (R a) (R b) (N q))) := by
      intro t P' F' et ht ht2 hP hF e1 ef
      have l1 : ∀ j, j < i → P' j = P0 j := fun j hj => (hP j hj).trans (hLP j hj)
      have l2 : ∀ j, j < i → F' j = F0' j := fun j hj => (hF j hj).trans (hLF j hj)
      have l3 : ∀ j, j < 4 * i → upd G (4 * i + a) (ie_made (K q) (R a) (R b) (N q)) j = G0 j := ie_upL hLG
      by_cases c : K q = 7 ∧ R b < R a
      · have c' : K q = 7 ∧ R (B q).toNatClampNeg < R (A q).toNatClampNeg := by rw [ca, cb]; exact c
        rw [ie_xf c'] at h
        have g3 : ∀ r, r < 4 → upd G (4 * i + a) (ie_made (K q) (R a) (R b) (N q)) (4 * i + r) = R r := by
          intro r hr
          rw [ie_upG hG r hr, c.1]
          show upd R a (R a) r = R r
          rw [ie_upS]
        have hp := h P' F' _ l1 l2 l3 e1 (ef.1 c) g3
        obtain ⟨n, rfl⟩ : ∃ n', n = n' + 1 := ⟨n - 1, by omega⟩
        refine br_c (fun _ => hp) (fun _ => ⟨vi, br_f ?_ hp⟩)
        rw [ci, ef.1 c]
        decide
      · have c' : ¬ (K q = 7 ∧ R (B q).toNatClampNeg < R (A q).toNatClampNeg) := by rw [ca, cb]; exact c
        rw [ie_xg c', ca, cb, ← et, ie_skip K A B N d (q + 1) t _ _ (by omega), show q + 1 + d - t = s - t by omega] at h
        have m2 : m + 2 ^ q < 2 ^ t := Nat.lt_of_lt_of_le (by omega) (Nat.pow_le_pow_right (n := 2) (by decide) (show q + 1 ≤ t by omega))
        exact ih t (m + 2 ^ q) P' F' _ _ (by omega) ht2 m2 e1 (ef.2 c) (ie_upG hG) l1 l2 l3 h
    have h1 : (K q = 6 ∨ (K q = 4 ∧ R a < R b) ∨ (K q = 5 ∧ R a = R b)) → wY_run_155 post (wY_run_59 post (nI i) (nI (4 * i)) (nI s) n) (nI i) (nI (4 * i)) (nI q) (K q) (R a) (R b) (N q) (nI s) K A B N Mk P F G := fun c => by
      obtain ⟨t, t1, t2, et⟩ := hN (by rcases c with c | c | c; exact Or.inl c; exact Or.inr (Or.inl c.1); exact Or.inr (Or.inr c.1))
      unfold wY_run_155
      refine yr_160 hi (by omega) hm eP ha ea (fun P' F' p1 p2 p3 p4 => br_f (by decide) ?_)
      have := key t P' F' (by rw [if_pos c, et, nI_clamp (by omega)]) t1 t2 p1 p2 p3 p4
      rw [et] at this ⊢
      exact this
    have h2 : ¬ (K q = 6 ∨ (K q = 4 ∧ R a < R b) ∨ (K q = 5 ∧ R a = R b)) → wY_run_159 post (wY_run_59 post (nI i) (nI (4 * i)) (nI s) n) (nI i) (nI (4 * i)) (nI q) (K q) (R a) (R b) (N q) (nI s) K A B N Mk P F G := fun c => by
      unfold wY_run_159
      exact yr_160 hi (by omega) hm eP ha ea (fun P' F' p1 p2 p3 p4 => br_t rfl (key (q + 1) P' F' (by rw [if_neg c]) (by omega) (by omega) p1 p2 p3 p4))
    have h4 : ¬ K q = 6 → ¬ (K q = 4 ∧ R a < R b) → wY_run_142 post (wY_run_59 post (nI i) (nI (4 * i)) (nI s) n) (nI i) (nI (4 * i)) (nI q) (K q) (R a) (R b) (N q) (nI s) K A B N Mk P F G := fun n6 n4 => by
      refine br_c (fun k5 => br_c (fun e => h1 (Or.inr (Or.inr ⟨k5, e⟩))) (fun e => h2 ?_)) (fun k5 => h2 ?_)
      · rintro (c | c | c)
        · exact n6 c
        · exact n4 c
        · exact e c.2
      · rintro (c | c | c)
        · exact n6 c
        · exact n4 c
        · exact k5 c.1
    rw [wY_run_59]
    dsimp only
    rw [ci, cq, ia, ib, nI_clamp (n := 4 * i + a) (by omega), nI_clamp (n := 4 * i + b) (by omega), hG a ha, hG b hb, eF]
    exact br_f (nI_ge hqs (by omega)) ⟨vi, br_t rfl ⟨vq, nm_e ⟨vq, va, nm_e ⟨vq, vb, nm_e ⟨vq, nm_e (br_c (fun k6 => h1 (Or.inl k6)) (fun k6 => br_c (fun k4 => br_c (fun hl => h1 (Or.inr (Or.inl ⟨k4, hl⟩))) (fun hl => h4 k6 (fun z => hl z.2))) (fun k4 => h4 k6 (fun z => k4 z.1))))⟩⟩⟩⟩⟩
theorem yr_run {post : SY → Prop} {s i : Nat} {K A B N Mk P F G : Nat → Int32} (hs : s ≤ 12) (hi : i < 256) (ok : ie_Ok s K A B N) (T : ie_T s K A B N P F G i)
    (h : ∀ P' F' G' : Nat → Int32, ie_T s K A B N P' F' G' (i + 1) → post (nI s, K, A, B, N, Mk, P', F', G')) : wpY_run post (nI s, K, A, B, N, Mk, P, F, G) (nI i) := by
  have e4 : (4 : Int32) * nI i = nI (4 * i) := pk_mul 4 i
  have ci : (nI i).toNatClampNeg = i := nI_clamp (by omega)
  have er : nI i &&& 15 = nI (i % 16) := pk_andN (by omega) 4 (by decide)
  have ed : nI i >>> ((4 : Int32) &&& 31) = nI (i / 16) := pk_shrN (by omega) _ 4 (by decide)
  have e1 : nI (4 * i) + 1 = nI (4 * i + 1) := nI_add (4 * i) 1
  have e2 : nI (4 * i) + 2 = nI (4 * i + 2) := nI_add (4 * i) 2
  have e3 : nI (4 * i) + 3 = nI (4 * i + 3) := nI_add (4 * i) 3
  have vi : vp_in (nI i) 256 := vp_in_nI hi (by decide)
  refine nm_r e4 ?_
  rw [er, ed, e1, e2, e3, nI_clamp (n := 4 * i) (by omega), nI_clamp (n := 4 * i + 1) (by omega), nI_clamp (n := 4 * i + 2) (by omega), nI_clamp (n := 4 * i + 3) (by omega), ci, ie_nb0]
  refine ⟨vp_in_nI (by omega) (by decide), nm_e ⟨vp_in_nI (by omega) (by decide), nm_e ⟨vp_in_nI (by omega) (by decide), nm_e ⟨vp_in_nI (by omega) (by decide), nm_e ⟨vi, nm_e ⟨vi, nm_e ⟨13, ?_⟩⟩⟩⟩⟩⟩⟩
  exact yr_loop (P0 := P) (F0' := F) (G0 := G) hs hi ok 13 0 0 _ _ _ (ie_0 i) (by omega) (by omega) (by decide) pk_us pk_us (ie_ini i) (ie_upI (fun _ _ => rfl)) (ie_upI (fun _ _ => rfl)) ie_iniL (fun P' F' G' l1 l2 l3 p f g => h P' F' G' (ie_Ts T l1 l2 l3 p f g))
theorem yr_work {post : SY → Prop} {s : Nat} {K A B N Mk P F G : Nat → Int32} (hs : s ≤ 12) (ok : ie_Ok s K A B N)
    (h : ∀ P' F' G' : Nat → Int32, ie_T s K A B N P' F' G' 256 → post (nI s, K, A, B, N, Mk, P', F', G')) : wpY_work post (nI s, K, A, B, N, Mk, P, F, G) := by
  refine loop_0 (fun n i (t : (Nat → Int32) × (Nat → Int32) × (Nat → Int32)) => wY_work_2 post n (nI i) (nI s) K A B N Mk t.1 t.2.1 t.2.2) (fun i t => ie_T s K A B N t.1 t.2.1 t.2.2 i) 256 (P, F, G) ie_T0 ?_ ?_
  · intro n t ht
    exact br_t (nI_le (a := 256) (by omega) (by decide)) (h _ _ _ ht)
  · intro n i t hi ht hk
    refine br_f (nI_ge (b := 256) hi (by decide)) ?_
    refine yr_run hs hi ok ht (fun P' F' G' hT => ?_)
    exact nm_r (nI_1 i) (hk (P', F', G') hT)
theorem yr_forget {post : SY → Prop} {sz : Int32} {K A B N Mk P F G : Nat → Int32} (h : ∀ M' : Nat → Int32, (∀ j, j < 4096 → M' j = 0) → post (sz, K, A, B, N, M', P, F, G)) : wpY_forget post (sz, K, A, B, N, Mk, P, F, G) := by
  refine loop_0 (fun n i (M : Nat → Int32) => wY_forget_2 post sz n (nI i) K A B N M P F G) (fun i M => ∀ j, j < i → M j = 0) 4096 Mk (fun j hj => absurd hj (Nat.not_lt_zero j)) ?_ ?_
  · intro n M hM
    exact br_t (nI_le (a := 4096) (by omega) (by decide)) (h M hM)
  · intro n i M hi hM hk
    refine br_f (nI_ge (b := 4096) hi (by decide)) ⟨vp_in_nI hi (by decide), nm_e (nm_r (nI_1 i) (hk _ ?_))⟩
    rw [nI_clamp (by omega), ie_nb0]
    exact lt_s (fun j hj => by rw [pk_un (by omega)]; exact hM j hj) pk_us
end
section
/-! what the questions read: bits, counts, the least input of a path -/
def ie_b (s : Nat) (K A B N : Nat → Int32) (p i : Nat) : Nat := (ie_run s K A B N i).1 / 2 ^ p % 2
def ie_p (s : Nat) (K A B N : Nat → Int32) (i : Nat) : Nat := (ie_run s K A B N i).1
def ie_f (s : Nat) (K A B N : Nat → Int32) (i : Nat) : Int32 := (ie_run s K A B N i).2.1
def ie_v (s : Nat) (K A B N : Nat → Int32) (r i : Nat) : Int32 := (ie_run s K A B N i).2.2 r
theorem ie_b2 (s : Nat) (K A B N : Nat → Int32) (p i : Nat) : ie_b s K A B N p i < 2 := Nat.mod_lt _ (by decide)
theorem ie_b0 {s : Nat} {K A B N : Nat → Int32} {p i : Nat} (h : s ≤ p) : ie_b s K A B N p i = 0 := by
  have := Nat.lt_of_lt_of_le (ie_runP s K A B N i) (Nat.pow_le_pow_right (n := 2) (by decide) h)
  rw [ie_b, Nat.div_eq_of_lt this]
theorem ie_pi {s : Nat} {K A B N : Nat → Int32} (hs : s ≤ 12) (i j : Nat) : nI (ie_run s K A B N i).1 = nI (ie_run s K A B N j).1 ↔ ie_p s K A B N i = ie_p s K A B N j := by
  have h1 := ie_runP12 hs K A B N i
  have h2 := ie_runP12 hs K A B N j
  exact nI_eq (by omega) (by omega)
theorem ie_c1 {f : Nat → Nat} {n : Nat} (e : f n = 1) : nI (ie_cnt f n + 1) = nI (ie_cnt f (n + 1)) := by rw [ie_cnt, e]
theorem ie_c0 {f : Nat → Nat} {n : Nat} (e : f n = 0) : nI (ie_cnt f n) = nI (ie_cnt f (n + 1)) := by rw [ie_cnt, e]; rfl
theorem ie_cz {M : Nat → Int32} (h : ∀ j, j < 4096 → M j = 0) : ie_cnt (ie_mk M) 4096 = 0 := by
  have := ie_cnt0 (f := ie_mk M) (s := 0) 4096 (fun i _ hi => by rw [ie_mk, if_pos (h i (by omega))])
  rw [Nat.zero_add] at this
  exact this
/-- the least j up to i with g j = g i -/
def ie_L (g : Nat → Nat) (x : Nat) : Nat → Nat → Nat
  | 0, j => j
  | d + 1, j => if g j = x then j else ie_L g x d (j + 1)
theorem ie_Lp (g : Nat → Nat) (x : Nat) : ∀ d j, g (j + d) = x → j ≤ ie_L g x d j ∧ ie_L g x d j ≤ j + d ∧ g (ie_L g x d j) = x ∧ ∀ k, j ≤ k → k < ie_L g x d j → g k ≠ x := by
  intro d
  induction d with
  | zero => intro j h; exact ⟨Nat.le_refl _, Nat.le_refl _, h, fun k h1 h2 => absurd h2 (Nat.not_lt.mpr h1)⟩
  | succ d ih =>
    intro j h
    by_cases e : g j = x
    · rw [ie_L, if_pos e]
      exact ⟨Nat.le_refl _, by omega, e, fun k h1 h2 => absurd h2 (Nat.not_lt.mpr h1)⟩
    · rw [ie_L, if_neg e]
      obtain ⟨h1, h2, h3, h4⟩ := ih (j + 1) (by rw [show j + 1 + d = j + (d + 1) by omega]; exact h)
      refine ⟨by omega, by omega, h3, fun k hk1 hk2 => ?_⟩
      by_cases ek : k = j
      · rw [ek]; exact e
      · exact h4 k (by omega) hk2
def ie_l (g : Nat → Nat) (i : Nat) : Nat := ie_L g (g i) i 0
theorem ie_lp (g : Nat → Nat) (i : Nat) : ie_l g i ≤ i ∧ g (ie_l g i) = g i ∧ ∀ k, k < ie_l g i → g k ≠ g i := by
  obtain ⟨_, h2, h3, h4⟩ := ie_Lp g (g i) i 0 (by rw [Nat.zero_add])
  rw [Nat.zero_add] at h2
  exact ⟨h2, h3, fun k hk => h4 k (Nat.zero_le k) hk⟩
/-! the component's readings -/
section
variable {s : Nat} {fm : Int32} {K A B N P F G Mk : Nat → Int32}
theorem xq_does {post : Int32 → Prop} {i p : Nat} (hs : s ≤ 12) (T : ie_T s K A B N P F G 256) (hi : i < 256) (hp : p < 12) (h1 : ie_b s K A B N p i = 1 → post 1) (h0 : ie_b s K A B N p i = 0 → post 0) : wpX_doesStep post (nI s, fm, K, A, B, N, P, F, G, Mk) (nI i) (nI p) := by
  have ci : (nI i).toNatClampNeg = i := nI_clamp (by omega)
  have hr := ie_runP12 hs K A B N i
  have hb := ie_b2 s K A B N p i
  have e : (P i >>> (nI p &&& 31)) &&& 1 = nI (ie_b s K A B N p i) := by
    rw [(T i hi).1]
    exact ie_bit (by omega) (by omega)
  unfold wpX_doesStep
  dsimp only
  rw [ci, e]
  exact ⟨vp_in_nI hi (by decide), pk_eq (ie_b s K A B N p i) 1 (fun z => h1 z) (fun z => h0 (by omega))⟩
theorem xq_reach {post : Int32 → Prop} {p : Nat} (hs : s ≤ 12) (T : ie_T s K A B N P F G 256) (hp : p < s) (h : post (nI (ie_cnt (ie_b s K A B N p) 256))) : ∃ n, wX_reach_14 post (nI p) (nI s) fm K A B N P F G Mk n 0 0 := by
  refine loop_0 (fun n i (c : Int32) => wX_reach_14 post (nI p) (nI s) fm K A B N P F G Mk n c (nI i)) (fun i c => c = nI (ie_cnt (ie_b s K A B N p) i)) 256 0 rfl ?_ ?_
  · rintro n c rfl
    exact br_t (nI_le (a := 256) (by omega) (by decide)) h
  · rintro n i c hi rfl hk
    exact br_f (nI_ge (b := 256) hi (by decide)) (xq_does hs T hi (by omega) (fun e => br_f (by decide) (nm_r (nI_1 _) (nm_r (nI_1 i) (hk _ (ie_c1 e))))) (fun e => br_t rfl (nm_r (nI_1 i) (hk _ (ie_c0 e)))))
theorem xq_firstAt {post : Int32 → Prop} {p : Nat} {r : Int32} (hs : s ≤ 12) (T : ie_T s K A B N P F G 256) (hp : p < s) (h : post r) : ∀ d i : Nat, i + d = 256 → ie_fs (fun j => ie_b s K A B N p j = 1) 256 i r → wX_firstAt_20 post (nI p) (nI s) fm K A B N P F G Mk (d + 1) (nI i) := by
  intro d
  induction d with
  | zero =>
    intro i hi hr
    rw [ie_fsZ hr (by omega)] at h
    exact br_t (nI_le (a := 256) (by omega) (by omega)) h
  | succ d ih =>
    intro i hi hr
    refine br_f (nI_ge (b := 256) (by omega) (by decide)) (xq_does hs T (by omega) (by omega) (fun e => br_f (by decide) ?_) (fun e => br_t rfl (nm_r (nI_1 i) (ih (i + 1) (by omega) (ie_fsM hr (by rw [e]; decide))))))
    rw [ie_fsH hr (by omega) e] at h
    exact h
theorem xq_failing {post : Int32 → Prop} (T : ie_T s K A B N P F G 256) (h : post (nI (ie_cnt (ie_mk (ie_f s K A B N)) 256))) : ∃ n, wX_failing_4 post (nI s) fm K A B N P F G Mk n 0 0 := by
  refine loop_0 (fun n i (c : Int32) => wX_failing_4 post (nI s) fm K A B N P F G Mk n c (nI i)) (fun i c => c = nI (ie_cnt (ie_mk (ie_f s K A B N)) i)) 256 0 rfl ?_ ?_
  · rintro n c rfl
    exact br_t (nI_le (a := 256) (by omega) (by decide)) h
  · rintro n i c hi rfl hk
    have e : F (nI i).toNatClampNeg = ie_f s K A B N i := by rw [nI_clamp (by omega)]; exact (T i hi).2.1
    refine br_f (nI_ge (b := 256) hi (by decide)) ⟨vp_in_nI hi (by decide), ?_⟩
    rw [e]
    exact br_c (fun z => nm_r (nI_1 i) (hk _ (ie_c0 (by rw [ie_mk, if_pos z])))) (fun z => nm_r (nI_1 _) (nm_r (nI_1 i) (hk _ (ie_c1 (by rw [ie_mk, if_neg z])))))
theorem xq_firstFailing {post : Int32 → Prop} {r : Int32} (T : ie_T s K A B N P F G 256) (h : post r) : ∀ d i : Nat, i + d = 256 → ie_fs (fun j => ¬ ie_f s K A B N j = 0) 256 i r → wX_firstFailing_10 post (nI s) fm K A B N P F G Mk (d + 1) (nI i) := by
  intro d
  induction d with
  | zero =>
    intro i hi hr
    rw [ie_fsZ hr (by omega)] at h
    exact br_t (nI_le (a := 256) (by omega) (by omega)) h
  | succ d ih =>
    intro i hi hr
    have e : F (nI i).toNatClampNeg = ie_f s K A B N i := by rw [nI_clamp (by omega)]; exact (T i (by omega)).2.1
    refine br_f (nI_ge (b := 256) (by omega) (by decide)) ⟨vp_in_nI (by omega) (by decide), ?_⟩
    rw [e]
    refine br_c (fun z => nm_r (nI_1 i) (ih (i + 1) (by omega) (ie_fsM hr (fun y => y z)))) (fun z => ?_)
    rw [ie_fsH hr (by omega) z] at h
    exact h
theorem xq_least {post : Int32 → Prop} {i : Nat} (hs : s ≤ 12) (T : ie_T s K A B N P F G 256) (hi : i < 256) (h : post (nI (ie_l (ie_p s K A B N) i))) : wpX_leastAlike post (nI s, fm, K, A, B, N, P, F, G, Mk) (nI i) := by
  obtain ⟨h1, h2, h3⟩ := ie_lp (ie_p s K A B N) i
  have ci : (nI i).toNatClampNeg = i := nI_clamp (by omega)
  have main : ∀ d j : Nat, j + d = ie_l (ie_p s K A B N) i → wX_leastAlike_2 post (nI i) (nI s) fm K A B N P F G Mk (d + 1) (nI j) := by
    intro d
    induction d with
    | zero =>
      intro j hj
      rw [← hj, Nat.add_zero] at h h1 h2
      refine pk_le i j (fun z => ?_) (fun z => ⟨vp_in_nI (by omega) (by decide), vp_in_nI hi (by decide), ?_⟩)
      · rw [show j = i by omega] at h
        exact h
      · rw [ci, nI_clamp (n := j) (by omega), (T i hi).1, (T j (by omega)).1]
        exact br_t ((ie_pi hs j i).mpr h2) h
    | succ d ih =>
      intro j hj
      refine pk_le i j (fun z => ?_) (fun z => ⟨vp_in_nI (by omega) (by decide), vp_in_nI hi (by decide), ?_⟩)
      · omega
      · rw [ci, nI_clamp (n := j) (by omega), (T i hi).1, (T j (by omega)).1]
        exact br_f (fun y => h3 j (by omega) ((ie_pi hs j i).mp y)) (nm_r (nI_1 j) (ih (j + 1) (by omega)))
  exact ⟨_, main _ 0 (Nat.zero_add _)⟩
theorem xq_paths {post : Int32 → Prop} (hs : s ≤ 12) (T : ie_T s K A B N P F G 256) (h : post (nI (ie_cnt (fun i => if ie_l (ie_p s K A B N) i = i then 1 else 0) 256))) : ∃ n, wX_paths_4 post (nI s) fm K A B N P F G Mk n 0 0 := by
  refine loop_0 (fun n i (c : Int32) => wX_paths_4 post (nI s) fm K A B N P F G Mk n c (nI i)) (fun i c => c = nI (ie_cnt (fun i => if ie_l (ie_p s K A B N) i = i then 1 else 0) i)) 256 0 rfl ?_ ?_
  · rintro n c rfl
    exact br_t (nI_le (a := 256) (by omega) (by decide)) h
  · rintro n i c hi rfl hk
    have hl := (ie_lp (ie_p s K A B N) i).1
    exact br_f (nI_ge (b := 256) hi (by decide)) (xq_least hs T hi (pk_eq (ie_l (ie_p s K A B N) i) i (fun z => nm_r (nI_1 _) (nm_r (nI_1 i) (hk _ (ie_c1 (if_pos z))))) (fun z => nm_r (nI_1 i) (hk _ (ie_c0 (if_neg z))))))
theorem xq_alike {post : Int32 → Prop} {q : Nat} (hs : s ≤ 12) (T : ie_T s K A B N P F G 256) (hq : q < 256) (h : post (nI (ie_cnt (fun i => if ie_p s K A B N i = ie_p s K A B N q then 1 else 0) 256))) : ∃ n, wX_alike_13 post (nI q) (nI s) fm K A B N P F G Mk n 0 0 := by
  have cq : (nI q).toNatClampNeg = q := nI_clamp (by omega)
  refine loop_0 (fun n i (c : Int32) => wX_alike_13 post (nI q) (nI s) fm K A B N P F G Mk n c (nI i)) (fun i c => c = nI (ie_cnt (fun i => if ie_p s K A B N i = ie_p s K A B N q then 1 else 0) i)) 256 0 rfl ?_ ?_
  · rintro n c rfl
    exact br_t (nI_le (a := 256) (by omega) (by decide)) h
  · rintro n i c hi rfl hk
    refine br_f (nI_ge (b := 256) hi (by decide)) ⟨vp_in_nI hi (by decide), vp_in_nI hq (by decide), ?_⟩
    rw [cq, nI_clamp (n := i) (by omega), (T i hi).1, (T q hq).1]
    exact br_c (fun z => nm_r (nI_1 _) (nm_r (nI_1 i) (hk _ (ie_c1 (if_pos ((ie_pi hs i q).mp z)))))) (fun z => nm_r (nI_1 i) (hk _ (ie_c0 (if_neg (fun y => z ((ie_pi hs i q).mpr y))))))
theorem xq_unmarked {post : Int32 → Prop} {r : Int32} (hs : s ≤ 12) (T : ie_T s K A B N P F G 256) (h : post r) : ∀ d i : Nat, i + d = 256 → ie_fs (fun j => Mk (ie_p s K A B N j) = 0) 256 i r → wX_unmarked_2 post (nI s) fm K A B N P F G Mk (d + 1) (nI i) := by
  intro d
  induction d with
  | zero =>
    intro i hi hr
    rw [ie_fsZ hr (by omega)] at h
    exact br_t (nI_le (a := 256) (by omega) (by omega)) h
  | succ d ih =>
    intro i hi hr
    have hp := ie_runP12 hs K A B N i
    refine br_f (nI_ge (b := 256) (by omega) (by decide)) ⟨vp_in_nI (by omega) (by decide), ?_⟩
    rw [nI_clamp (n := i) (by omega), (T i (by omega)).1, nI_clamp (n := (ie_run s K A B N i).1) (by omega)]
    refine ⟨vp_in_nI hp (by decide), br_c (fun z => ?_) (fun z => nm_r (nI_1 i) (ih (i + 1) (by omega) (ie_fsM hr z)))⟩
    rw [ie_fsH hr (by omega) z] at h
    exact h
theorem xq_ending {post : Int32 → Prop} {r : Nat} {v : Int32} (T : ie_T s K A B N P F G 256) (hr : r < 4) (h : post (nI (ie_cnt (fun i => if ie_f s K A B N i = 0 ∧ ie_v s K A B N r i = v then 1 else 0) 256))) : ∃ n, wX_ending_14 post (nI r) v (nI s) fm K A B N P F G Mk n 0 0 := by
  refine loop_0 (fun n i (c : Int32) => wX_ending_14 post (nI r) v (nI s) fm K A B N P F G Mk n c (nI i)) (fun i c => c = nI (ie_cnt (fun i => if ie_f s K A B N i = 0 ∧ ie_v s K A B N r i = v then 1 else 0) i)) 256 0 rfl ?_ ?_
  · rintro n c rfl
    exact br_t (nI_le (a := 256) (by omega) (by decide)) h
  · rintro n i c hi rfl hk
    have e4 : (4 : Int32) * nI i + nI r = nI (4 * i + r) := by rw [show (4 : Int32) * nI i = nI (4 * i) from pk_mul 4 i, nI_add]
    have ef : F (nI i).toNatClampNeg = ie_f s K A B N i := by rw [nI_clamp (by omega)]; exact (T i hi).2.1
    have eg : G (nI (4 * i + r)).toNatClampNeg = ie_v s K A B N r i := by rw [nI_clamp (by omega)]; exact (T i hi).2.2 r hr
    refine br_f (nI_ge (b := 256) hi (by decide)) ⟨vp_in_nI hi (by decide), ?_⟩
    rw [e4, ef, eg]
    exact br_c (fun z => ⟨vp_in_nI (by omega) (by decide), br_c (fun y => nm_r (nI_1 _) (nm_r (nI_1 i) (hk _ (ie_c1 (if_pos ⟨z, y⟩))))) (fun y => nm_r (nI_1 i) (hk _ (ie_c0 (if_neg (fun w => y w.2)))))⟩) (fun z => nm_r (nI_1 i) (hk _ (ie_c0 (if_neg (fun w => z w.1)))))
theorem xq_steps {post : Int32 → Prop} {q : Nat} (hs : s ≤ 12) (T : ie_T s K A B N P F G 256) (hq : q < 256) (h : post (nI (ie_cnt (fun p => ie_b s K A B N p q) s))) : ∃ n, wX_steps_13 post (nI q) (nI s) fm K A B N P F G Mk n 0 0 := by
  refine loop_0 (fun n i (c : Int32) => wX_steps_13 post (nI q) (nI s) fm K A B N P F G Mk n c (nI i)) (fun i c => c = nI (ie_cnt (fun p => ie_b s K A B N p q) i)) s 0 rfl ?_ ?_
  · rintro n c rfl
    exact br_t (nI_le (by omega) (by omega)) h
  · rintro n i c hi rfl hk
    exact br_f (nI_ge hi (by omega)) (xq_does hs T hq (by omega) (fun e => br_f (by decide) (nm_r (nI_1 _) (nm_r (nI_1 i) (hk _ (ie_c1 e))))) (fun e => br_t rfl (nm_r (nI_1 i) (hk _ (ie_c0 e)))))
theorem xq_extreme {post : Int32 → Prop} {r : Nat} {w : Int32} (hs : s ≤ 12) (ok : ie_Ok s K A B N) (T : ie_T s K A B N P F G 256) (hr : r < 4) (h : post (ie_e w (ie_f s K A B N) (ie_v s K A B N r) 256).1) : ∃ n, wX_extreme_25 post (nI r) w (nI s) fm K A B N P F G Mk n (-1000000000) 0 := by
  refine loop_0 (fun n i (c : Int32) => wX_extreme_25 post (nI r) w (nI s) fm K A B N P F G Mk n c (nI i)) (fun i c => c = (ie_e w (ie_f s K A B N) (ie_v s K A B N r) i).1) 256 (-1000000000) rfl ?_ ?_
  · rintro n c rfl
    exact br_t (nI_le (a := 256) (by omega) (by decide)) h
  · rintro n i c hi rfl hk
    have e4 : (4 : Int32) * nI i + nI r = nI (4 * i + r) := by rw [show (4 : Int32) * nI i = nI (4 * i) from pk_mul 4 i, nI_add]
    have ef : F (nI i).toNatClampNeg = ie_f s K A B N i := by rw [nI_clamp (by omega)]; exact (T i hi).2.1
    have eg : G (nI (4 * i + r)).toNatClampNeg = ie_v s K A B N r i := by rw [nI_clamp (by omega)]; exact (T i hi).2.2 r hr
    have h01 := ie_e01 w (ie_f s K A B N) (ie_v s K A B N r) i (fun j hj => ie_runB ok hs (by omega) hr)
    refine br_f (nI_ge (b := 256) hi (by decide)) ⟨vp_in_nI hi (by decide), ?_⟩
    rw [e4, ef, eg]
    refine br_c (fun z => ⟨vp_in_nI (by omega) (by decide), nm_e ?_⟩) (fun z => nm_r (nI_1 i) (hk _ ?_))
    · have hp : ((ie_e w (ie_f s K A B N) (ie_v s K A B N r) i).2 = 0 ∨ (w = 0 ∧ ie_v s K A B N r i < (ie_e w (ie_f s K A B N) (ie_v s K A B N r) i).1) ∨ (¬ w = 0 ∧ (ie_e w (ie_f s K A B N) (ie_v s K A B N r) i).1 < ie_v s K A B N r i)) → wX_extreme_25 post (nI r) w (nI s) fm K A B N P F G Mk n (ie_v s K A B N r i) (nI (i + 1)) := fun c => hk _ (by
          show _ = (ie_e w (ie_f s K A B N) (ie_v s K A B N r) (i + 1)).1
          rw [ie_e, if_pos z, if_pos c])
      have hq : ¬ ((ie_e w (ie_f s K A B N) (ie_v s K A B N r) i).2 = 0 ∨ (w = 0 ∧ ie_v s K A B N r i < (ie_e w (ie_f s K A B N) (ie_v s K A B N r) i).1) ∨ (¬ w = 0 ∧ (ie_e w (ie_f s K A B N) (ie_v s K A B N r) i).1 < ie_v s K A B N r i)) → wX_extreme_25 post (nI r) w (nI s) fm K A B N P F G Mk n (ie_e w (ie_f s K A B N) (ie_v s K A B N r) i).1 (nI (i + 1)) := fun c => hk _ (by
          show _ = (ie_e w (ie_f s K A B N) (ie_v s K A B N r) (i + 1)).1
          rw [ie_e, if_pos z, if_neg c])
      generalize ie_e w (ie_f s K A B N) (ie_v s K A B N r) i = t at *
      obtain ⟨t1, t2⟩ := t
      have n0 : ¬ t1 = -1000000000 → ¬ t2 = 0 := fun y z0 => by
        rcases h01 with h01 | h01
        · exact y h01.2
        · have e10 : (1 : Int32) = 0 := h01.1.symm.trans z0
          exact absurd e10 (by decide)
      have g0 : ¬ ((w = 0 ∧ ie_v s K A B N r i < t1) ∨ (¬ w = 0 ∧ t1 < ie_v s K A B N r i)) → wX_extreme_85 post (wX_extreme_25 post (nI r) w (nI s) fm K A B N P F G Mk n) (nI r) w t1 (nI i) (ie_v s K A B N r i) 0 (nI s) fm K A B N P F G Mk := fun c =>
        br_c (fun y => nm_r (nI_1 i) (hp (Or.inl (by
          rcases h01 with h01 | h01
          · exact h01.1
          · exact absurd y h01.2)))) (fun y => br_t rfl (nm_r (nI_1 i) (hq (fun q => q.elim (n0 y) c))))
      have g1 : ((w = 0 ∧ ie_v s K A B N r i < t1) ∨ (¬ w = 0 ∧ t1 < ie_v s K A B N r i)) → wX_extreme_85 post (wX_extreme_25 post (nI r) w (nI s) fm K A B N P F G Mk n) (nI r) w t1 (nI i) (ie_v s K A B N r i) 1 (nI s) fm K A B N P F G Mk := fun c =>
        br_c (fun y => nm_r (nI_1 i) (hp (Or.inr c))) (fun y => br_f (by decide) (nm_r (nI_1 i) (hp (Or.inr c))))
      refine br_c (fun w0 => br_c (fun y => g0 ?_) (fun y => g1 (Or.inl ⟨w0, Int32.not_le.mp y⟩))) (fun w0 => br_c (fun y => g0 ?_) (fun y => g1 (Or.inr ⟨w0, Int32.not_le.mp y⟩)))
      · rintro (c | c)
        · exact Int32.not_lt.mpr y c.2
        · exact c.1 w0
      · rintro (c | c)
        · exact w0 c.1
        · exact Int32.not_lt.mpr y c.2
    · show _ = (ie_e w (ie_f s K A B N) (ie_v s K A B N r) (i + 1)).1
      rw [ie_e, if_neg z]
end
end
section
/-! the reference's readings, behind its work -/
section
variable {s : Nat} {K A B N Mk P F G : Nat → Int32}
theorem yq_is1 {post : Int32 → Prop} {p : Nat} (hs : s ≤ 12) (hp : p < s) (h : post 1) : wpY_is post (nI s, K, A, B, N, Mk, P, F, G) (nI p) :=
  br_f (nI_pos (by omega)) (br_f (nI_ge hp (by omega)) h)
theorem yq_is0 {post : Int32 → Prop} {x : Int32} (hx : x < 0 ∨ nI s ≤ x) (h : post 0) : wpY_is post (nI s, K, A, B, N, Mk, P, F, G) x :=
  br_c (fun _ => h) (fun z => br_t (hx.resolve_left z) h)
theorem xq_is1 {post : Int32 → Prop} {fm : Int32} {p : Nat} (hs : s ≤ 12) (hp : p < s) (h : post 1) : wpX_isStep post (nI s, fm, K, A, B, N, P, F, G, Mk) (nI p) :=
  br_f (nI_pos (by omega)) (br_f (nI_ge hp (by omega)) h)
theorem xq_is0 {post : Int32 → Prop} {fm : Int32} {x : Int32} (hx : x < 0 ∨ nI s ≤ x) (h : post 0) : wpX_isStep post (nI s, fm, K, A, B, N, P, F, G, Mk) x :=
  br_c (fun _ => h) (fun z => br_t (hx.resolve_left z) h)
theorem ie_gt {x : Int32} {n : Nat} (hn : n + 1 < 2 ^ 31) (h : nI (n + 1) ≤ x) : nI n < x := by
  rw [Int32.le_iff_toInt_le, nI_toInt hn] at h
  rw [Int32.lt_iff_toInt_lt, nI_toInt (by omega)]
  omega
theorem yq_in1 {post : Int32 → Prop} {p : Nat} {sz : Int32} (hp : p < 256) (h : post 1) : wpY_isInput post (sz, K, A, B, N, Mk, P, F, G) (nI p) :=
  br_f (nI_pos (by omega)) (br_f (nI_nlt (a := 255) (by omega) (by decide)) h)
theorem yq_in0 {post : Int32 → Prop} {x sz : Int32} (hx : x < 0 ∨ nI 256 ≤ x) (h : post 0) : wpY_isInput post (sz, K, A, B, N, Mk, P, F, G) x :=
  br_c (fun _ => h) (fun z => br_t (ie_gt (n := 255) (by decide) (hx.resolve_left z)) h)
theorem xq_in1 {post : Int32 → Prop} {p : Nat} (hp : p < 256) (h : post 1) : wpX_isInput post (nI p) :=
  br_f (nI_pos (by omega)) (br_f (nI_ge (b := 256) hp (by decide)) h)
theorem xq_in0 {post : Int32 → Prop} {x : Int32} (hx : x < 0 ∨ nI 256 ≤ x) (h : post 0) : wpX_isInput post x :=
  br_c (fun _ => h) (fun z => br_t (hx.resolve_left z) h)
theorem xq_rg1 {post : Int32 → Prop} {p : Nat} (hp : p < 4) (h : post 1) : wpX_isRegister post (nI p) :=
  br_f (nI_pos (by omega)) (br_f (nI_ge (b := 4) hp (by decide)) h)
theorem xq_rg0 {post : Int32 → Prop} {x : Int32} (hx : x < 0 ∨ nI 4 ≤ x) (h : post 0) : wpX_isRegister post x :=
  br_c (fun _ => h) (fun z => br_t (hx.resolve_left z) h)
theorem yq_bit (hs : s ≤ 12) (T : ie_T s K A B N P F G 256) {i p : Nat} (hi : i < 256) (hp : p < 12) : (P (nI i).toNatClampNeg >>> (nI p &&& 31)) &&& 1 = nI (ie_b s K A B N p i) := by
  have hr := ie_runP12 hs K A B N i
  rw [nI_clamp (by omega), (T i hi).1]
  exact ie_bit (by omega) (by omega)
theorem yq_reach {post : Int32 → SY → Prop} {p : Nat} (hs : s ≤ 12) (T : ie_T s K A B N P F G 256) (hp : p < s) (h : post (nI (ie_cnt (ie_b s K A B N p) 256)) (nI s, K, A, B, N, Mk, P, F, G)) : ∃ n, wY_reach_8 post (nI p) (nI s) K A B N Mk P F G n 0 0 := by
  refine loop_0 (fun n i (c : Int32) => wY_reach_8 post (nI p) (nI s) K A B N Mk P F G n c (nI i)) (fun i c => c = nI (ie_cnt (ie_b s K A B N p) i)) 256 0 rfl ?_ ?_
  · rintro n c rfl
    exact br_t (nI_le (a := 256) (by omega) (by decide)) (yq_is1 hs hp (br_f (by decide) h))
  · rintro n i c hi rfl hk
    refine br_f (nI_ge (b := 256) hi (by decide)) (yq_is1 hs hp (br_f (by decide) ⟨vp_in_nI hi (by decide), ?_⟩))
    rw [yq_bit hs T hi (by omega)]
    exact nm_r (nI_add _ _) (nm_r (nI_1 i) (hk _ rfl))
theorem yq_reach0 {post : Int32 → SY → Prop} {x : Int32} (hx : x < 0 ∨ nI s ≤ x) (h : post (-1) (nI s, K, A, B, N, Mk, P, F, G)) : ∃ n, wY_reach_8 post x (nI s) K A B N Mk P F G n 0 0 :=
  ⟨1, br_f (by decide) (yq_is0 hx (br_t rfl (yq_is0 hx (br_t rfl h))))⟩
theorem yq_firstAt {post : Int32 → SY → Prop} {p : Nat} {x r : Int32} (hs : s ≤ 12) (T : ie_T s K A B N P F G 256) (hp : p < s) (h : post r (nI s, K, A, B, N, Mk, P, F, G)) : ∀ d i : Nat, i + d = 256 → ie_fs (fun j => ¬ nI j < x ∧ ie_b s K A B N p j = 1) 256 i r → wY_firstAt_6 post (nI p) x (nI s) K A B N Mk P F G (d + 1) (nI i) := by
  intro d
  induction d with
  | zero =>
    intro i hi hr
    rw [ie_fsZ hr (by omega)] at h
    exact br_t (nI_le (a := 256) (by omega) (by omega)) h
  | succ d ih =>
    intro i hi hr
    have hb := ie_b2 s K A B N p i
    refine br_f (nI_ge (b := 256) (by omega) (by decide)) (yq_is1 hs hp (br_f (by decide) (br_c (fun z => nm_r (nI_1 i) (ih (i + 1) (by omega) (ie_fsM hr (fun y => y.1 z)))) (fun z => ⟨vp_in_nI (by omega) (by decide), ?_⟩))))
    rw [yq_bit hs T (by omega) (by omega)]
    refine pk_eq (ie_b s K A B N p i) 1 (fun e => ?_) (fun e => nm_r (nI_1 i) (ih (i + 1) (by omega) (ie_fsM hr (fun y => e y.2))))
    rw [ie_fsH hr (by omega) ⟨z, e⟩] at h
    exact h
theorem yq_firstAt0 {post : Int32 → SY → Prop} {x y : Int32} (hx : x < 0 ∨ nI s ≤ x) (h : post (-1) (nI s, K, A, B, N, Mk, P, F, G)) : ∃ n, wY_firstAt_6 post x y (nI s) K A B N Mk P F G n 0 :=
  ⟨1, br_f (by decide) (yq_is0 hx (br_t rfl h))⟩
theorem yq_failing {post : Int32 → SY → Prop} (T : ie_T s K A B N P F G 256) (h : post (nI (ie_cnt (ie_mk (ie_f s K A B N)) 256)) (nI s, K, A, B, N, Mk, P, F, G)) : ∃ n, wY_failing_8 post (nI s) K A B N Mk P F G n 0 0 := by
  refine loop_0 (fun n i (c : Int32) => wY_failing_8 post (nI s) K A B N Mk P F G n c (nI i)) (fun i c => c = nI (ie_cnt (ie_mk (ie_f s K A B N)) i)) 256 0 rfl ?_ ?_
  · rintro n c rfl
    exact br_t (nI_le (a := 256) (by omega) (by decide)) h
  · rintro n i c hi rfl hk
    have e : F (nI i).toNatClampNeg = ie_f s K A B N i := by rw [nI_clamp (by omega)]; exact (T i hi).2.1
    refine br_f (nI_ge (b := 256) hi (by decide)) ⟨vp_in_nI hi (by decide), ?_⟩
    rw [e]
    exact br_c (fun z => nm_r (nI_1 i) (hk _ (ie_c0 (by rw [ie_mk, if_pos z])))) (fun z => nm_r (nI_1 _) (nm_r (nI_1 i) (hk _ (ie_c1 (by rw [ie_mk, if_neg z])))))
theorem yq_firstFailing {post : Int32 → SY → Prop} {x r : Int32} (T : ie_T s K A B N P F G 256) (h : post r (nI s, K, A, B, N, Mk, P, F, G)) : ∀ d i : Nat, i + d = 256 → ie_fs (fun j => ¬ nI j < x ∧ ¬ ie_f s K A B N j = 0) 256 i r → wY_firstFailing_6 post x (nI s) K A B N Mk P F G (d + 1) (nI i) := by
  intro d
  induction d with
  | zero =>
    intro i hi hr
    rw [ie_fsZ hr (by omega)] at h
    exact br_t (nI_le (a := 256) (by omega) (by omega)) h
  | succ d ih =>
    intro i hi hr
    have e : F (nI i).toNatClampNeg = ie_f s K A B N i := by rw [nI_clamp (by omega)]; exact (T i (by omega)).2.1
    refine br_f (nI_ge (b := 256) (by omega) (by decide)) (br_c (fun z => nm_r (nI_1 i) (ih (i + 1) (by omega) (ie_fsM hr (fun y => y.1 z)))) (fun z => ⟨vp_in_nI (by omega) (by decide), ?_⟩))
    rw [e]
    refine br_c (fun y => nm_r (nI_1 i) (ih (i + 1) (by omega) (ie_fsM hr (fun w => w.2 y)))) (fun y => ?_)
    rw [ie_fsH hr (by omega) ⟨z, y⟩] at h
    exact h
theorem yq_least {post : Int32 → Prop} {i : Nat} (hs : s ≤ 12) (T : ie_T s K A B N P F G 256) (hi : i < 256) (h : post (nI (ie_l (ie_p s K A B N) i))) : wpY_least post (nI s, K, A, B, N, Mk, P, F, G) (nI i) := by
  obtain ⟨h1, h2, h3⟩ := ie_lp (ie_p s K A B N) i
  have ci : (nI i).toNatClampNeg = i := nI_clamp (by omega)
  have main : ∀ d j : Nat, j + d = ie_l (ie_p s K A B N) i → wY_least_2 post (nI i) (nI s) K A B N Mk P F G (d + 1) (nI j) := by
    intro d
    induction d with
    | zero =>
      intro j hj
      rw [← hj, Nat.add_zero] at h h1 h2
      refine ⟨vp_in_nI (by omega) (by decide), vp_in_nI hi (by decide), ?_⟩
      rw [ci, nI_clamp (n := j) (by omega), (T i hi).1, (T j (by omega)).1]
      exact br_t ((ie_pi hs j i).mpr h2) h
    | succ d ih =>
      intro j hj
      refine ⟨vp_in_nI (by omega) (by decide), vp_in_nI hi (by decide), ?_⟩
      rw [ci, nI_clamp (n := j) (by omega), (T i hi).1, (T j (by omega)).1]
      exact br_f (fun y => h3 j (by omega) ((ie_pi hs j i).mp y)) (nm_r (nI_1 j) (ih (j + 1) (by omega)))
  exact ⟨_, main _ 0 (Nat.zero_add _)⟩
theorem yq_paths {post : Int32 → SY → Prop} (hs : s ≤ 12) (T : ie_T s K A B N P F G 256) (h : post (nI (ie_cnt (fun i => if ie_l (ie_p s K A B N) i = i then 1 else 0) 256)) (nI s, K, A, B, N, Mk, P, F, G)) : ∃ n, wY_paths_8 post (nI s) K A B N Mk P F G n 0 0 := by
  refine loop_0 (fun n i (c : Int32) => wY_paths_8 post (nI s) K A B N Mk P F G n c (nI i)) (fun i c => c = nI (ie_cnt (fun i => if ie_l (ie_p s K A B N) i = i then 1 else 0) i)) 256 0 rfl ?_ ?_
  · rintro n c rfl
    exact br_t (nI_le (a := 256) (by omega) (by decide)) h
  · rintro n i c hi rfl hk
    have hl := (ie_lp (ie_p s K A B N) i).1
    exact br_f (nI_ge (b := 256) hi (by decide)) (yq_least hs T hi (pk_eq (ie_l (ie_p s K A B N) i) i (fun z => nm_r (nI_1 _) (nm_r (nI_1 i) (hk _ (ie_c1 (if_pos z))))) (fun z => nm_r (nI_1 i) (hk _ (ie_c0 (if_neg z))))))
theorem yq_alike {post : Int32 → SY → Prop} {q : Nat} (hs : s ≤ 12) (T : ie_T s K A B N P F G 256) (hq : q < 256) (h : post (nI (ie_cnt (fun i => if ie_p s K A B N i = ie_p s K A B N q then 1 else 0) 256)) (nI s, K, A, B, N, Mk, P, F, G)) : ∃ n, wY_alike_8 post (nI q) (nI s) K A B N Mk P F G n 0 0 := by
  have cq : (nI q).toNatClampNeg = q := nI_clamp (by omega)
  refine loop_0 (fun n i (c : Int32) => wY_alike_8 post (nI q) (nI s) K A B N Mk P F G n c (nI i)) (fun i c => c = nI (ie_cnt (fun i => if ie_p s K A B N i = ie_p s K A B N q then 1 else 0) i)) 256 0 rfl ?_ ?_
  · rintro n c rfl
    exact br_t (nI_le (a := 256) (by omega) (by decide)) (yq_in1 hq (br_f (by decide) h))
  · rintro n i c hi rfl hk
    refine br_f (nI_ge (b := 256) hi (by decide)) (yq_in1 hq (br_f (by decide) ⟨vp_in_nI hi (by decide), vp_in_nI hq (by decide), ?_⟩))
    rw [cq, nI_clamp (n := i) (by omega), (T i hi).1, (T q hq).1]
    exact br_c (fun z => nm_r (nI_1 _) (nm_r (nI_1 i) (hk _ (ie_c1 (if_pos ((ie_pi hs i q).mp z)))))) (fun z => nm_r (nI_1 i) (hk _ (ie_c0 (if_neg (fun y => z ((ie_pi hs i q).mpr y))))))
theorem yq_alike0 {post : Int32 → SY → Prop} {x : Int32} (hx : x < 0 ∨ nI 256 ≤ x) (h : post (-1) (nI s, K, A, B, N, Mk, P, F, G)) : ∃ n, wY_alike_8 post x (nI s) K A B N Mk P F G n 0 0 :=
  ⟨1, br_f (by decide) (yq_in0 hx (br_t rfl (yq_in0 hx (br_t rfl h))))⟩
theorem yq_mark {post : Int32 → SY → Prop} {sz : Int32} (h : post (nI (ie_cnt (ie_mk Mk) 4096)) (sz, K, A, B, N, Mk, P, F, G)) : ∃ n, wY_mark_30 post sz K A B N Mk P F G n 0 0 := by
  refine loop_0 (fun n i (c : Int32) => wY_mark_30 post sz K A B N Mk P F G n c (nI i)) (fun i c => c = nI (ie_cnt (ie_mk Mk) i)) 4096 0 rfl ?_ ?_
  · rintro n c rfl
    exact br_t (nI_le (a := 4096) (by omega) (by decide)) h
  · rintro n i c hi rfl hk
    refine br_f (nI_ge (b := 4096) hi (by decide)) ⟨vp_in_nI hi (by decide), ?_⟩
    rw [nI_clamp (n := i) (by omega)]
    exact br_c (fun z => nm_r (nI_1 i) (hk _ (ie_c0 (by rw [ie_mk, if_pos z])))) (fun z => nm_r (nI_1 _) (nm_r (nI_1 i) (hk _ (ie_c1 (by rw [ie_mk, if_neg z])))))
theorem yq_unmarked {post : Int32 → SY → Prop} {r : Int32} (hs : s ≤ 12) (T : ie_T s K A B N P F G 256) (h : post r (nI s, K, A, B, N, Mk, P, F, G)) : ∀ d i : Nat, i + d = 256 → ie_fs (fun j => Mk (ie_p s K A B N j) = 0) 256 i r → wY_unmarked_6 post (nI s) K A B N Mk P F G (d + 1) (nI i) := by
  intro d
  induction d with
  | zero =>
    intro i hi hr
    rw [ie_fsZ hr (by omega)] at h
    exact br_t (nI_le (a := 256) (by omega) (by omega)) h
  | succ d ih =>
    intro i hi hr
    have hp := ie_runP12 hs K A B N i
    refine br_f (nI_ge (b := 256) (by omega) (by decide)) ⟨vp_in_nI (by omega) (by decide), ?_⟩
    rw [nI_clamp (n := i) (by omega), (T i (by omega)).1, nI_clamp (n := (ie_run s K A B N i).1) (by omega)]
    refine ⟨vp_in_nI hp (by decide), br_c (fun z => ?_) (fun z => nm_r (nI_1 i) (ih (i + 1) (by omega) (ie_fsM hr z)))⟩
    rw [ie_fsH hr (by omega) z] at h
    exact h
theorem yq_ending {post : Int32 → SY → Prop} {r : Nat} {v : Int32} (T : ie_T s K A B N P F G 256) (hr : r < 4) (h : post (nI (ie_cnt (fun i => if ie_f s K A B N i = 0 ∧ ie_v s K A B N r i = v then 1 else 0) 256)) (nI s, K, A, B, N, Mk, P, F, G)) : ∃ n, wY_ending_9 post (nI r) v (nI s) K A B N Mk P F G n 0 0 := by
  refine loop_0 (fun n i (c : Int32) => wY_ending_9 post (nI r) v (nI s) K A B N Mk P F G n c (nI i)) (fun i c => c = nI (ie_cnt (fun i => if ie_f s K A B N i = 0 ∧ ie_v s K A B N r i = v then 1 else 0) i)) 256 0 rfl ?_ ?_
  · rintro n c rfl
    exact br_t (nI_le (a := 256) (by omega) (by decide)) h
  · rintro n i c hi rfl hk
    have e4 : (4 : Int32) * nI i + nI r = nI (4 * i + r) := by rw [show (4 : Int32) * nI i = nI (4 * i) from pk_mul 4 i, nI_add]
    have ef : F (nI i).toNatClampNeg = ie_f s K A B N i := by rw [nI_clamp (by omega)]; exact (T i hi).2.1
    have eg : G (nI (4 * i + r)).toNatClampNeg = ie_v s K A B N r i := by rw [nI_clamp (by omega)]; exact (T i hi).2.2 r hr
    refine br_f (nI_ge (b := 256) hi (by decide)) (br_f (nI_pos (by omega)) (br_f (nI_nlt (a := 3) (by omega) (by decide)) ⟨vp_in_nI hi (by decide), ?_⟩))
    rw [e4, ef, eg]
    exact br_c (fun z => ⟨vp_in_nI (by omega) (by decide), br_c (fun y => nm_r (nI_1 _) (nm_r (nI_1 i) (hk _ (ie_c1 (if_pos ⟨z, y⟩))))) (fun y => nm_r (nI_1 i) (hk _ (ie_c0 (if_neg (fun w => y w.2)))))⟩) (fun z => nm_r (nI_1 i) (hk _ (ie_c0 (if_neg (fun w => z w.1)))))
theorem yq_ending0 {post : Int32 → SY → Prop} {x v : Int32} (hx : x < 0 ∨ nI 4 ≤ x) (h : post 0 (nI s, K, A, B, N, Mk, P, F, G)) : ∃ n, wY_ending_9 post x v (nI s) K A B N Mk P F G n 0 0 :=
  ⟨1, br_f (by decide) (br_c (fun _ => h) (fun z => br_t (ie_gt (n := 3) (by decide) (hx.resolve_left z)) h))⟩
theorem yq_steps {post : Int32 → SY → Prop} {q : Nat} (hs : s ≤ 12) (T : ie_T s K A B N P F G 256) (hq : q < 256) (h : post (nI (ie_cnt (fun p => ie_b s K A B N p q) s)) (nI s, K, A, B, N, Mk, P, F, G)) : ∃ n, wY_steps_8 post (nI q) (nI s) K A B N Mk P F G n 0 0 := by
  have e12 : ie_cnt (fun p => ie_b s K A B N p q) 12 = ie_cnt (fun p => ie_b s K A B N p q) s := by
    have := ie_cnt0 (f := fun p => ie_b s K A B N p q) (s := s) (12 - s) (fun i h1 _ => ie_b0 h1)
    rwa [show s + (12 - s) = 12 by omega] at this
  rw [← e12] at h
  refine loop_0 (fun n i (c : Int32) => wY_steps_8 post (nI q) (nI s) K A B N Mk P F G n c (nI i)) (fun i c => c = nI (ie_cnt (fun p => ie_b s K A B N p q) i)) 12 0 rfl ?_ ?_
  · rintro n c rfl
    exact br_t (nI_le (a := 12) (by omega) (by decide)) (yq_in1 hq (br_f (by decide) h))
  · rintro n i c hi rfl hk
    refine br_f (nI_ge (b := 12) hi (by decide)) (yq_in1 hq (br_f (by decide) ⟨vp_in_nI hq (by decide), ?_⟩))
    rw [yq_bit hs T hq (by omega)]
    exact nm_r (nI_add _ _) (nm_r (nI_1 i) (hk _ rfl))
theorem yq_steps0 {post : Int32 → SY → Prop} {x : Int32} (hx : x < 0 ∨ nI 256 ≤ x) (h : post (-1) (nI s, K, A, B, N, Mk, P, F, G)) : ∃ n, wY_steps_8 post x (nI s) K A B N Mk P F G n 0 0 :=
  ⟨1, br_f (by decide) (yq_in0 hx (br_t rfl (yq_in0 hx (br_t rfl h))))⟩
theorem yq_extreme {post : Int32 → SY → Prop} {r : Nat} {w : Int32} (hs : s ≤ 12) (ok : ie_Ok s K A B N) (T : ie_T s K A B N P F G 256) (hr : r < 4) (hw : w = 0 ∨ w = 1) (h : post (ie_e w (ie_f s K A B N) (ie_v s K A B N r) 256).1 (nI s, K, A, B, N, Mk, P, F, G)) : ∃ n, wY_extreme_13 post (nI r) w (nI s) K A B N Mk P F G n (-1000000000) 0 0 := by
  refine loop_0 (fun n i (c : Int32 × Int32) => wY_extreme_13 post (nI r) w (nI s) K A B N Mk P F G n c.1 c.2 (nI i)) (fun i c => c = ie_e w (ie_f s K A B N) (ie_v s K A B N r) i) 256 (-1000000000, 0) rfl ?_ ?_
  · rintro n c rfl
    exact br_t (nI_le (a := 256) (by omega) (by decide)) h
  · rintro n i c hi rfl hk
    have e4 : (4 : Int32) * nI i + nI r = nI (4 * i + r) := by rw [show (4 : Int32) * nI i = nI (4 * i) from pk_mul 4 i, nI_add]
    have ef : F (nI i).toNatClampNeg = ie_f s K A B N i := by rw [nI_clamp (by omega)]; exact (T i hi).2.1
    have eg : G (nI (4 * i + r)).toNatClampNeg = ie_v s K A B N r i := by rw [nI_clamp (by omega)]; exact (T i hi).2.2 r hr
    have h01 := ie_e01 w (ie_f s K A B N) (ie_v s K A B N r) i (fun j hj => ie_runB ok hs (by omega) hr)
    have hp : ie_f s K A B N i = 0 → ((ie_e w (ie_f s K A B N) (ie_v s K A B N r) i).2 = 0 ∨ (w = 0 ∧ ie_v s K A B N r i < (ie_e w (ie_f s K A B N) (ie_v s K A B N r) i).1) ∨ (¬ w = 0 ∧ (ie_e w (ie_f s K A B N) (ie_v s K A B N r) i).1 < ie_v s K A B N r i)) → wY_extreme_13 post (nI r) w (nI s) K A B N Mk P F G n (ie_v s K A B N r i) 1 (nI (i + 1)) := fun z c => hk (ie_v s K A B N r i, 1) (by
        show _ = ie_e w (ie_f s K A B N) (ie_v s K A B N r) (i + 1)
        rw [ie_e, if_pos z, if_pos c])
    have hq : ie_f s K A B N i = 0 → ¬ ((ie_e w (ie_f s K A B N) (ie_v s K A B N r) i).2 = 0 ∨ (w = 0 ∧ ie_v s K A B N r i < (ie_e w (ie_f s K A B N) (ie_v s K A B N r) i).1) ∨ (¬ w = 0 ∧ (ie_e w (ie_f s K A B N) (ie_v s K A B N r) i).1 < ie_v s K A B N r i)) → wY_extreme_13 post (nI r) w (nI s) K A B N Mk P F G n (ie_e w (ie_f s K A B N) (ie_v s K A B N r) i).1 1 (nI (i + 1)) := fun z c => hk ((ie_e w (ie_f s K A B N) (ie_v s K A B N r) i).1, 1) (by
        show _ = ie_e w (ie_f s K A B N) (ie_v s K A B N r) (i + 1)
        rw [ie_e, if_pos z, if_neg c])
    have hn : ¬ ie_f s K A B N i = 0 → wY_extreme_13 post (nI r) w (nI s) K A B N Mk P F G n (ie_e w (ie_f s K A B N) (ie_v s K A B N r) i).1 (ie_e w (ie_f s K A B N) (ie_v s K A B N r) i).2 (nI (i + 1)) := fun z => hk (ie_e w (ie_f s K A B N) (ie_v s K A B N r) i) (by
        show _ = ie_e w (ie_f s K A B N) (ie_v s K A B N r) (i + 1)
        rw [ie_e, if_neg z])
    generalize ie_e w (ie_f s K A B N) (ie_v s K A B N r) i = t at *
    obtain ⟨t1, t2⟩ := t
    dsimp only at h01 hp hq hn ⊢
    have t01 : t2 = 0 ∨ t2 = 1 := by
      rcases h01 with h01 | h01
      · exact Or.inl h01.1
      · exact Or.inr h01.1
    -- the tail: the flag 'some' behind the choice
    have g104 : ∀ z0 : Int32, (ie_f s K A B N i = 0 → wY_extreme_13 post (nI r) w (nI s) K A B N Mk P F G n z0 1 (nI (i + 1))) → (¬ ie_f s K A B N i = 0 → wY_extreme_13 post (nI r) w (nI s) K A B N Mk P F G n z0 t2 (nI (i + 1))) → wY_extreme_104 post (wY_extreme_13 post (nI r) w (nI s) K A B N Mk P F G n) (nI r) w t2 (nI i) z0 (nI s) K A B N Mk P F G := fun z0 c1 c2 => by
      unfold wY_extreme_104
      rw [ef]
      refine br_c (fun y => ⟨vp_in_nI hi (by decide), br_c (fun z => nm_r (nI_1 i) (c1 z)) (fun z => nm_r (nI_1 i) ?_)⟩) (fun y => nm_r (nI_1 i) ?_)
      · have := c2 z
        rw [y] at this
        exact this
      · have e1 : t2 = 1 := t01.resolve_left y
        by_cases z : ie_f s K A B N i = 0
        · exact c1 z
        · have := c2 z
          rw [e1] at this
          exact this
    have g0 : (ie_f s K A B N i = 0 → ¬ (t2 = 0 ∨ (w = 0 ∧ ie_v s K A B N r i < t1) ∨ (¬ w = 0 ∧ t1 < ie_v s K A B N r i))) → wY_extreme_90 post (wY_extreme_13 post (nI r) w (nI s) K A B N Mk P F G n) (nI r) w t1 t2 (nI i) (ie_v s K A B N r i) (nI s) K A B N Mk P F G := fun c => by
      unfold wY_extreme_90
      exact br_t rfl (g104 t1 (fun z => hq z (c z)) hn)
    have g1 : ie_f s K A B N i = 0 → (t2 = 0 ∨ (w = 0 ∧ ie_v s K A B N r i < t1) ∨ (¬ w = 0 ∧ t1 < ie_v s K A B N r i)) → wY_extreme_86 post (wY_extreme_13 post (nI r) w (nI s) K A B N Mk P F G n) (nI r) w t1 t2 (nI i) (ie_v s K A B N r i) (nI s) K A B N Mk P F G := fun z c => by
      unfold wY_extreme_86
      exact br_f (by decide) (g104 _ (fun _ => hp z c) (fun y => absurd z y))
    have g39 : wY_extreme_39 post (wY_extreme_13 post (nI r) w (nI s) K A B N Mk P F G n) (nI r) w t1 t2 (nI i) (nI s) K A B N Mk P F G := by
      unfold wY_extreme_39
      rw [e4, ef, eg]
      refine ⟨vp_in_nI (by omega) (by decide), nm_e ⟨vp_in_nI hi (by decide), br_c (fun z => br_c (fun y => g1 z (Or.inl y)) (fun y => br_c (fun w0 => br_c (fun l => g0 (fun _ => ?_)) (fun l => g1 z (Or.inr (Or.inl ⟨w0, Int32.not_le.mp l⟩)))) (fun w0 => br_c (fun l => g0 (fun _ => ?_)) (fun l => g1 z (Or.inr (Or.inr ⟨w0, Int32.not_le.mp l⟩)))))) (fun z => g0 (fun q => absurd q z))⟩⟩
      · rintro (c | c | c)
        · exact y c
        · exact Int32.not_lt.mpr l c.2
        · exact c.1 w0
      · rintro (c | c | c)
        · exact y c
        · exact w0 c.1
        · exact Int32.not_lt.mpr l c.2
    exact br_f (nI_ge (b := 256) hi (by decide)) (br_f (nI_pos (by omega)) (br_f (nI_nlt (a := 3) (by omega) (by decide)) (br_c (fun _ => g39) (fun w0 => br_t (hw.resolve_left w0) g39))))
theorem yq_extreme0 {post : Int32 → SY → Prop} {x w : Int32} (hx : (x < 0 ∨ nI 4 ≤ x) ∨ ¬ (w = 0 ∨ w = 1)) (h : post (-1000000000) (nI s, K, A, B, N, Mk, P, F, G)) : ∃ n, wY_extreme_13 post x w (nI s) K A B N Mk P F G n (-1000000000) 0 0 := by
  refine ⟨1, br_f (by decide) (br_c (fun _ => h) (fun z => br_c (fun _ => h) (fun y => ?_)))⟩
  have hw : ¬ (w = 0 ∨ w = 1) := hx.resolve_left (fun q => q.elim z (fun l => y (ie_gt (n := 3) (by decide) l)))
  exact br_f (fun e => hw (Or.inl e)) (br_f (fun e => hw (Or.inr e)) h)
end
end
section
/-! the relation, and what is owed -/
/-- both hold the same program s, K, A, B, N; the component's tables P, F, G are the runs' results, the reference's P', F', G' are free (it makes them anew for each question); the same paths are marked, and the component has counted them -/
def i_Rel (k : Nat) (u : SX) (v : SY) : Prop := ∃ (s : Nat) (K A B N P F G Mk M' P' F' G' : Nat → Int32), s ≤ 12 ∧ ie_Ok s K A B N ∧ ie_T s K A B N P F G 256 ∧ (∀ j, j < 4096 → (M' j = 0 ↔ Mk j = 0)) ∧ u = (nI s, nI (ie_cnt (ie_mk Mk) 4096), K, A, B, N, P, F, G, Mk) ∧ v = (nI s, K, A, B, N, M', P', F', G')
theorem i_up {k : Nat} {u : SX} {v : SY} (h : i_Rel k u v) : i_Rel (k + 4) u v := h
theorem ie_R {k s : Nat} {K A B N P F G Mk M' P' F' G' : Nat → Int32} (hs : s ≤ 12) (ok : ie_Ok s K A B N) (T : ie_T s K A B N P F G 256) (hM : ∀ j, j < 4096 → (M' j = 0 ↔ Mk j = 0)) : i_Rel k (nI s, nI (ie_cnt (ie_mk Mk) 4096), K, A, B, N, P, F, G, Mk) (nI s, K, A, B, N, M', P', F', G') :=
  ⟨s, K, A, B, N, P, F, G, Mk, M', P', F', G', hs, ok, T, hM, rfl, rfl⟩
/-- fresh marks on both sides -/
theorem ie_Rz {k s : Nat} {K A B N P F G Mk M' P' F' G' : Nat → Int32} (hs : s ≤ 12) (ok : ie_Ok s K A B N) (T : ie_T s K A B N P F G 256) (h1 : ∀ j, j < 4096 → Mk j = 0) (h2 : ∀ j, j < 4096 → M' j = 0) : i_Rel k (nI s, 0, K, A, B, N, P, F, G, Mk) (nI s, K, A, B, N, M', P', F', G') := by
  have e : (0 : Int32) = nI (ie_cnt (ie_mk Mk) 4096) := by rw [ie_cz h1]; rfl
  rw [e]
  exact ie_R hs ok T (fun j hj => ⟨fun _ => h1 j hj, fun _ => h2 j hj⟩)
theorem i_vc0 : wpX_init (fun u => wpY_init (fun v => i_Rel 0 u v)) := by
  unfold wpX_init
  exact xr_all (s := 0) (by omega) (fun p hp => absurd hp (Nat.not_lt_zero p)) (fun P' F' G' M' T hM => ie_Rz (k := 0) (by omega) (fun p hp => absurd hp (Nat.not_lt_zero p)) T hM (fun _ _ => rfl))
/-! step: the number that fits -/
def ie_fit (s : Nat) (k n : Int32) : Prop := (k = 0 → ¬ n < -20 ∧ ¬ 20 < n) ∧ (k = 3 → ¬ n < -3 ∧ ¬ 3 < n) ∧ (k = 6 ∨ k = 4 ∨ k = 5 → ¬ n ≤ nI s ∧ ¬ 12 < n)
theorem ie_fitX {s : Nat} {k n : Int32} {post : Int32 → Prop} {fm : Int32} {K A B N P F G Mk : Nat → Int32} (h0 : ¬ k < 0) (h1 : ie_fit s k n → post 1) (h2 : ¬ ie_fit s k n → post 0) : wpX_isNumberFor post (nI s, fm, K, A, B, N, P, F, G, Mk) k n := by
  have free : ¬ k = 0 → ¬ k = 3 → ¬ k = 4 → ¬ k = 5 → ¬ k = 6 → post 1 := fun n0 n3 n4 n5 n6 => h1 ⟨fun e => absurd e n0, fun e => absurd e n3, fun e => e.elim (fun e => absurd e n6) (fun e => e.elim (fun e => absurd e n4) (fun e => absurd e n5))⟩
  have jump : k = 6 ∨ k = 4 ∨ k = 5 → ¬ k = 0 → ¬ k = 3 → wX_isNumberFor_79 post n (nI s) fm K A B N P F G Mk := fun e n0 n3 =>
    br_c (fun l => h2 (fun f => (f.2.2 e).1 l)) (fun l => br_c (fun g => h2 (fun f => (f.2.2 e).2 g)) (fun g => h1 ⟨fun e => absurd e n0, fun e => absurd e n3, fun _ => ⟨l, g⟩⟩))
  refine br_f h0 (br_c (fun l => free ?_ ?_ ?_ ?_ ?_) (fun _ => br_c (fun k0 => br_c (fun l => h2 (fun f => (f.1 k0).1 l)) (fun l => br_c (fun g => h2 (fun f => (f.1 k0).2 g)) (fun g => h1 ⟨fun _ => ⟨l, g⟩, fun e => ?_, fun e => ?_⟩))) (fun n0 => br_c (fun k1 => free n0 ?_ ?_ ?_ ?_) (fun n1 => br_c (fun k2 => free n0 ?_ ?_ ?_ ?_) (fun n2 => br_c (fun k3 => br_c (fun l => h2 (fun f => (f.2.1 k3).1 l)) (fun l => br_c (fun g => h2 (fun f => (f.2.1 k3).2 g)) (fun g => h1 ⟨fun e => absurd e n0, fun _ => ⟨l, g⟩, fun e => ?_⟩))) (fun n3 => br_c (fun k4 => jump (Or.inr (Or.inl k4)) n0 n3) (fun n4 => br_c (fun k5 => jump (Or.inr (Or.inr k5)) n0 n3) (fun n5 => br_c (fun k6 => jump (Or.inl k6) n0 n3) (fun n6 => trivial)))))))))
  · intro e; rw [e] at l; exact absurd l (by decide)
  · intro e; rw [e] at l; exact absurd l (by decide)
  · intro e; rw [e] at l; exact absurd l (by decide)
  · intro e; rw [e] at l; exact absurd l (by decide)
  · intro e; rw [e] at l; exact absurd l (by decide)
  · rw [k0] at e; exact absurd e (by decide)
  · rw [k0] at e; exact absurd e (by decide)
  · rw [k1]; decide
  · rw [k1]; decide
  · rw [k1]; decide
  · rw [k1]; decide
  · rw [k2]; decide
  · rw [k2]; decide
  · rw [k2]; decide
  · rw [k2]; decide
  · rw [k3] at e; exact absurd e (by decide)
theorem ie_456 {k : Int32} (h0 : ¬ k < 0) (h7 : ¬ 7 < k) (h4 : ¬ k < 4) (n7 : ¬ k = 7) : k = 6 ∨ k = 4 ∨ k = 5 := by
  obtain ⟨j, hj, rfl⟩ := nI_of2 (M := 7) (n := 7) (by decide) h0 (Int32.not_lt.mp h7)
  have hj : j = 0 ∨ j = 1 ∨ j = 2 ∨ j = 3 ∨ j = 4 ∨ j = 5 ∨ j = 6 ∨ j = 7 := by omega
  rcases hj with rfl | rfl | rfl | rfl | rfl | rfl | rfl | rfl
  · exact absurd (by decide) h4
  · exact absurd (by decide) h4
  · exact absurd (by decide) h4
  · exact absurd (by decide) h4
  · exact Or.inr (Or.inl rfl)
  · exact Or.inr (Or.inr rfl)
  · exact Or.inl rfl
  · exact absurd rfl n7
theorem ie_fitY {s : Nat} {k n : Int32} {post : Int32 → Prop} {K A B N Mk P F G : Nat → Int32} (h0 : ¬ k < 0) (h7 : ¬ 7 < k) (h1 : ie_fit s k n → post 1) (h2 : ¬ ie_fit s k n → post 0) : wpY_fits post (nI s, K, A, B, N, Mk, P, F, G) k n := by
  have free : ¬ k = 0 → ¬ k = 3 → ¬ k = 4 → ¬ k = 5 → ¬ k = 6 → post 1 := fun n0 n3 n4 n5 n6 => h1 ⟨fun e => absurd e n0, fun e => absurd e n3, fun e => e.elim (fun e => absurd e n6) (fun e => e.elim (fun e => absurd e n4) (fun e => absurd e n5))⟩
  refine br_c (fun k0 => br_c (fun l => h2 (fun f => (f.1 k0).1 l)) (fun l => br_c (fun g => h2 (fun f => (f.1 k0).2 g)) (fun g => h1 ⟨fun _ => ⟨l, g⟩, fun e => ?_, fun e => ?_⟩))) (fun n0 => br_c (fun k3 => br_c (fun l => h2 (fun f => (f.2.1 k3).1 l)) (fun l => br_c (fun g => h2 (fun f => (f.2.1 k3).2 g)) (fun g => h1 ⟨fun e => absurd e n0, fun _ => ⟨l, g⟩, fun e => ?_⟩))) (fun n3 => br_c (fun l => free n0 n3 ?_ ?_ ?_) (fun h4 => br_c (fun k7 => free n0 n3 ?_ ?_ ?_) (fun n7 => ?_))))
  · rw [k0] at e; exact absurd e (by decide)
  · rw [k0] at e; exact absurd e (by decide)
  · rw [k3] at e; exact absurd e (by decide)
  · intro e; rw [e] at l; exact absurd l (by decide)
  · intro e; rw [e] at l; exact absurd l (by decide)
  · intro e; rw [e] at l; exact absurd l (by decide)
  · rw [k7]; decide
  · rw [k7]; decide
  · rw [k7]; decide
  · have e := ie_456 h0 h7 h4 n7
    exact br_c (fun l => h2 (fun f => (f.2.2 e).1 l)) (fun l => br_c (fun g => h2 (fun f => (f.2.2 e).2 g)) (fun g => h1 ⟨fun e => absurd e n0, fun e => absurd e n3, fun _ => ⟨l, g⟩⟩))
theorem ie_upLt {f : Nat → Int32} {s p : Nat} {x : Int32} (h : p < s) : upd f s x p = f p := pk_un (by omega)
/-- the program with one step more -/
theorem ie_OkS {s a b : Nat} {k n : Int32} {K A B N : Nat → Int32} (ok : ie_Ok s K A B N) (ha : a < 4) (hb : b < 4) (hf : ie_fit s k n) (hs : s < 12) : ie_Ok (s + 1) (upd K s k) (upd A s (nI a)) (upd B s (nI b)) (upd N s n) := by
  intro p hp
  by_cases e : p = s
  · subst e
    rw [pk_us, pk_us, pk_us, pk_us]
    refine ⟨⟨a, ha, rfl⟩, ⟨b, hb, rfl⟩, fun e => ?_, fun e => ?_, fun e => ?_⟩
    · obtain ⟨h1, h2⟩ := hf.1 e
      rw [Int32.lt_iff_toInt_lt] at h1 h2
      have c1 : (-20 : Int32).toInt = -20 := by decide
      have c2 : (20 : Int32).toInt = 20 := by decide
      omega
    · obtain ⟨h1, h2⟩ := hf.2.1 e
      rw [Int32.lt_iff_toInt_lt] at h1 h2
      have c1 : (-3 : Int32).toInt = -3 := by decide
      have c2 : (3 : Int32).toInt = 3 := by decide
      omega
    · obtain ⟨h1, h2⟩ := hf.2.2 e
      have hn : ¬ n < 0 := fun z => by
        rw [Int32.le_iff_toInt_le, nI_toInt (by omega)] at h1
        rw [Int32.lt_iff_toInt_lt] at z
        have c0 : (0 : Int32).toInt = 0 := by decide
        omega
      obtain ⟨t, ht, rfl⟩ := nI_of2 (M := 12) (n := 12) (by decide) hn (Int32.not_lt.mp h2)
      rw [nI_leI (by omega) (by omega)] at h1
      exact ⟨t, by omega, ht, rfl⟩
  · have hp : p < s := by omega
    rw [ie_upLt hp, ie_upLt hp, ie_upLt hp, ie_upLt hp]
    exact ok p hp
theorem i_vc_step {k : Nat} {u : SX} {v : SY} (I : i_Rel k u v) (hk : k + 4 ≤ 2048) (v1 : Int32) (v2 : Int32) (v3 : Int32) : wpX_step (fun r u' => wpY_step (fun r' v' => r' = r ∧ i_Rel (k + 4) u' v') v v1 v2 v3) u v1 v2 v3 := by
  have I' := i_up I
  obtain ⟨s, K, A, B, N, P, F, G, Mk, M', P', F', G', hs, ok, T, hM, rfl, rfl⟩ := I
  by_cases a0 : v1 < 0
  · exact br_t a0 (br_t a0 ⟨rfl, I'⟩)
  by_cases a7 : 7 < v1
  · exact br_f a0 (br_t a7 (br_f a0 (br_t a7 ⟨rfl, I'⟩)))
  by_cases b0 : v2 < 0
  · exact br_f a0 (br_f a7 (br_t b0 (br_f a0 (br_f a7 (br_t b0 ⟨rfl, I'⟩)))))
  by_cases b15 : 15 < v2
  · exact br_f a0 (br_f a7 (br_f b0 (br_t b15 (br_f a0 (br_f a7 (br_f b0 (br_t b15 ⟨rfl, I'⟩)))))))
  refine br_f a0 (br_f a7 (br_f b0 (br_f b15 (ie_fitX a0 (fun f => br_f (by decide) ?_) (fun f => br_t rfl ?_)))))
  · by_cases h12 : s < 12
    · obtain ⟨c, hc, rfl⟩ := nI_of2 (M := 15) (n := 15) (by decide) b0 (Int32.not_lt.mp b15)
      have ea : nI c - nI c / 4 * 4 = nI (c % 4) := pk_rem (d := 4) (by omega) (by decide) (by decide)
      have eb : nI c / 4 = nI (c / 4) := pk_div (d := 4) (by omega) (by decide) (by decide)
      have ya : nI c &&& 3 = nI (c % 4) := pk_andN (by omega) 2 (by decide)
      have yb : nI c >>> ((2 : Int32) &&& 31) = nI (c / 4) := pk_shrN (by omega) _ 2 (by decide)
      have cs : (nI s).toNatClampNeg = s := nI_clamp (by omega)
      have vs : vp_in (nI s) 12 := vp_in_nI h12 (by decide)
      have ok' : ie_Ok (s + 1) (upd K s v1) (upd A s (nI (c % 4))) (upd B s (nI (c / 4))) (upd N s v3) := ie_OkS ok (by omega) (by omega) f h12
      have hlt : nI s < 12 := nI_lt (b := 12) h12 (by decide)
      refine br_t hlt ?_
      rw [cs, ea, eb]
      refine ⟨vs, nm_e ⟨by decide, vs, nm_e ⟨by decide, vs, nm_e ⟨vs, nm_e (nm_r (nI_1 s) ?_)⟩⟩⟩⟩
      refine xr_all (by omega) ok' (fun P2 F2 G2 M2 T2 hM2 => ?_)
      refine br_f a0 (br_f a7 (br_f b0 (br_f b15 (ie_fitY a0 a7 (fun _ => br_f (by decide) (br_t hlt (yr_forget (fun M3 hM3 => ?_)))) (fun nf => absurd f nf)))))
      dsimp only
      rw [cs, ya, yb]
      refine ⟨vs, nm_e ⟨vs, nm_e ⟨vs, nm_e ⟨vs, nm_e (nm_r (nI_1 s) ⟨nI_pred s, ie_Rz (by omega) ok' T2 hM2 hM3⟩)⟩⟩⟩⟩
    · have hlt : ¬ nI s < 12 := nI_nlt (b := 12) (by omega) (by omega)
      exact br_f hlt (br_f a0 (br_f a7 (br_f b0 (br_f b15 (ie_fitY a0 a7 (fun _ => br_f (by decide) (br_f hlt ⟨rfl, I'⟩)) (fun nf => absurd f nf))))))
  · exact br_f a0 (br_f a7 (br_f b0 (br_f b15 (ie_fitY a0 a7 (fun yf => absurd yf f) (fun _ => br_t rfl ⟨rfl, I'⟩)))))
theorem i_vc_drop {k : Nat} {u : SX} {v : SY} (I : i_Rel k u v) (hk : k + 4 ≤ 2048) : wpX_drop (fun r u' => wpY_drop (fun r' v' => r' = r ∧ i_Rel (k + 4) u' v') v) u := by
  have I' := i_up I
  obtain ⟨s, K, A, B, N, P, F, G, Mk, M', P', F', G', hs, ok, T, hM, rfl, rfl⟩ := I
  by_cases h0 : s = 0
  · subst h0
    exact br_f (by decide) (br_t rfl ⟨rfl, I'⟩)
  obtain ⟨t, rfl⟩ : ∃ t, s = t + 1 := ⟨s - 1, by omega⟩
  have ok' : ie_Ok t K A B N := fun p hp => ok p (by omega)
  refine br_t (nI_lt (a := 0) (by omega) (by omega)) (nm_r (nI_pred t) ?_)
  refine xr_all (by omega) ok' (fun P2 F2 G2 M2 T2 hM2 => ?_)
  refine br_f (nI_ne0 (by omega) (by omega)) (yr_forget (fun M3 hM3 => ?_))
  exact nm_r (nI_pred t) ⟨rfl, ie_Rz (by omega) ok' T2 hM2 hM3⟩
theorem i_vc_length {k : Nat} {u : SX} {v : SY} (I : i_Rel k u v) (hk : k + 4 ≤ 2048) : wpX_length (fun r => wpY_length (fun r' => r' = r ∧ i_Rel (k + 4) u v) v) u := by
  have I' := i_up I
  obtain ⟨s, K, A, B, N, P, F, G, Mk, M', P', F', G', hs, ok, T, hM, rfl, rfl⟩ := I
  exact ⟨rfl, I'⟩
theorem ie_ix (x : Int32) {n : Nat} (hn : n < 2 ^ 31) : (x < 0 ∨ nI n ≤ x) ∨ ∃ j : Nat, j < n ∧ x = nI j := by
  rcases pk_ix x hn with h | h | h
  · exact Or.inl (Or.inl h)
  · exact Or.inl (Or.inr h)
  · exact Or.inr h
theorem i_vc_reach {k : Nat} {u : SX} {v : SY} (I : i_Rel k u v) (hk : k + 4 ≤ 2048) (v1 : Int32) : wpX_reach (fun r => wpY_reach (fun r' v' => r' = r ∧ i_Rel (k + 4) u v') v v1) u v1 := by
  obtain ⟨s, K, A, B, N, P, F, G, Mk, M', P', F', G', hs, ok, T, hM, rfl, rfl⟩ := I
  unfold wpX_reach
  dsimp only
  rcases ie_ix v1 (n := s) (by omega) with hx | ⟨p, hp, rfl⟩
  · exact xq_is0 hx (br_t rfl (yr_work hs ok (fun P2 F2 G2 T2 => yq_reach0 hx ⟨rfl, ie_R hs ok T hM⟩)))
  · exact xq_is1 hs hp (br_f (by decide) (xq_reach hs T hp (yr_work hs ok (fun P2 F2 G2 T2 => yq_reach hs T2 hp ⟨rfl, ie_R hs ok T hM⟩))))
/-- where a search from x begins -/
theorem ie_from {f : Nat → Prop} (x : Int32) : ∃ r : Int32, ie_fs (fun j => ¬ nI j < x ∧ f j) 256 0 r ∧ ((0 ≤ x → (∃ i : Nat, i < 256 ∧ x = nI i ∧ ie_fs f 256 i r) ∨ (256 ≤ x ∧ r = -1)) ∧ (¬ 0 ≤ x → ie_fs f 256 0 r)) := by
  rcases pk_ix x (n := 256) (by decide) with h | h | ⟨i, hi, rfl⟩
  · obtain ⟨r, hr⟩ := ie_fsE f 256 0
    refine ⟨r, ie_fsF hr (fun j hj => ⟨fun z => ⟨Nat.zero_le j, z.2⟩, fun z => ⟨fun l => ?_, z.2⟩⟩), fun z => absurd h (Int32.not_lt.mpr z), fun _ => hr⟩
    exact nI_pos (n := j) (by omega) (Int32.lt_trans l h)
  · refine ⟨-1, Or.inr ⟨fun j _ hj z => z.1 ?_, rfl⟩, fun _ => Or.inr ⟨h, rfl⟩, fun z => absurd (Int32.le_trans (by decide) h) z⟩
    exact Int32.lt_of_lt_of_le (nI_lt hj (by decide)) h
  · obtain ⟨r, hr⟩ := ie_fsE f 256 i
    refine ⟨r, ie_fsF hr (fun j hj => ?_), fun _ => Or.inl ⟨i, hi, rfl, hr⟩, fun z => absurd (nI_pos' (by omega)) z⟩
    rw [nI_ltI (by omega) (by omega), Nat.not_lt]
theorem i_vc_firstAt {k : Nat} {u : SX} {v : SY} (I : i_Rel k u v) (hk : k + 4 ≤ 2048) (v1 : Int32) (v2 : Int32) : wpX_firstAt (fun r => wpY_firstAt (fun r' v' => r' = r ∧ i_Rel (k + 4) u v') v v1 v2) u v1 v2 := by
  obtain ⟨s, K, A, B, N, P, F, G, Mk, M', P', F', G', hs, ok, T, hM, rfl, rfl⟩ := I
  unfold wpX_firstAt
  dsimp only
  rcases ie_ix v1 (n := s) (by omega) with hx | ⟨p, hp, rfl⟩
  · exact xq_is0 hx (br_t rfl (yr_work hs ok (fun P2 F2 G2 T2 => yq_firstAt0 hx ⟨rfl, ie_R hs ok T hM⟩)))
  · obtain ⟨r, hr, h1, h2⟩ := ie_from (f := fun j => ie_b s K A B N p j = 1) v2
    have hY : wpY_firstAt (fun r' v' => r' = r ∧ i_Rel (k + 4) (nI s, nI (ie_cnt (ie_mk Mk) 4096), K, A, B, N, P, F, G, Mk) v') (nI s, K, A, B, N, M', P', F', G') (nI p) v2 :=
      yr_work hs ok (fun P2 F2 G2 T2 => ⟨257, yq_firstAt (r := r) hs T2 hp ⟨rfl, ie_R hs ok T hM⟩ 256 0 rfl hr⟩)
    refine xq_is1 hs hp (br_f (by decide) (br_c (fun z => ?_) (fun z => ⟨257, xq_firstAt (r := r) hs T hp hY 256 0 rfl (h2 z)⟩)))
    rcases h1 z with ⟨i, hi, rfl, hf⟩ | ⟨hg, rfl⟩
    · exact ⟨256 - i + 1, xq_firstAt (r := r) hs T hp hY (256 - i) i (by omega) hf⟩
    · exact ⟨1, br_t hg hY⟩
theorem i_vc_failing {k : Nat} {u : SX} {v : SY} (I : i_Rel k u v) (hk : k + 4 ≤ 2048) : wpX_failing (fun r => wpY_failing (fun r' v' => r' = r ∧ i_Rel (k + 4) u v') v) u := by
  obtain ⟨s, K, A, B, N, P, F, G, Mk, M', P', F', G', hs, ok, T, hM, rfl, rfl⟩ := I
  exact xq_failing T (yr_work hs ok (fun P2 F2 G2 T2 => yq_failing T2 ⟨rfl, ie_R hs ok T hM⟩))
theorem i_vc_firstFailing {k : Nat} {u : SX} {v : SY} (I : i_Rel k u v) (hk : k + 4 ≤ 2048) (v1 : Int32) : wpX_firstFailing (fun r => wpY_firstFailing (fun r' v' => r' = r ∧ i_Rel (k + 4) u v') v v1) u v1 := by
  obtain ⟨s, K, A, B, N, P, F, G, Mk, M', P', F', G', hs, ok, T, hM, rfl, rfl⟩ := I
  obtain ⟨r, hr, h1, h2⟩ := ie_from (f := fun j => ¬ ie_f s K A B N j = 0) v1
  have hY : wpY_firstFailing (fun r' v' => r' = r ∧ i_Rel (k + 4) (nI s, nI (ie_cnt (ie_mk Mk) 4096), K, A, B, N, P, F, G, Mk) v') (nI s, K, A, B, N, M', P', F', G') v1 :=
    yr_work hs ok (fun P2 F2 G2 T2 => ⟨257, yq_firstFailing (r := r) T2 ⟨rfl, ie_R hs ok T hM⟩ 256 0 rfl hr⟩)
  refine br_c (fun z => ?_) (fun z => ⟨257, xq_firstFailing (r := r) T hY 256 0 rfl (h2 z)⟩)
  rcases h1 z with ⟨i, hi, rfl, hf⟩ | ⟨hg, rfl⟩
  · exact ⟨256 - i + 1, xq_firstFailing (r := r) T hY (256 - i) i (by omega) hf⟩
  · exact ⟨1, br_t hg hY⟩
theorem i_vc_paths {k : Nat} {u : SX} {v : SY} (I : i_Rel k u v) (hk : k + 4 ≤ 2048) : wpX_paths (fun r => wpY_paths (fun r' v' => r' = r ∧ i_Rel (k + 4) u v') v) u := by
  obtain ⟨s, K, A, B, N, P, F, G, Mk, M', P', F', G', hs, ok, T, hM, rfl, rfl⟩ := I
  exact xq_paths hs T (yr_work hs ok (fun P2 F2 G2 T2 => yq_paths hs T2 ⟨rfl, ie_R hs ok T hM⟩))
theorem i_vc_alike {k : Nat} {u : SX} {v : SY} (I : i_Rel k u v) (hk : k + 4 ≤ 2048) (v1 : Int32) : wpX_alike (fun r => wpY_alike (fun r' v' => r' = r ∧ i_Rel (k + 4) u v') v v1) u v1 := by
  obtain ⟨s, K, A, B, N, P, F, G, Mk, M', P', F', G', hs, ok, T, hM, rfl, rfl⟩ := I
  unfold wpX_alike
  dsimp only
  rcases ie_ix v1 (n := 256) (by decide) with hx | ⟨q, hq, rfl⟩
  · exact xq_in0 hx (br_t rfl (yr_work hs ok (fun P2 F2 G2 T2 => yq_alike0 hx ⟨rfl, ie_R hs ok T hM⟩)))
  · exact xq_in1 hq (br_f (by decide) (xq_alike hs T hq (yr_work hs ok (fun P2 F2 G2 T2 => yq_alike hs T2 hq ⟨rfl, ie_R hs ok T hM⟩))))
theorem i_vc_first {k : Nat} {u : SX} {v : SY} (I : i_Rel k u v) (hk : k + 4 ≤ 2048) (v1 : Int32) : wpX_first (fun r => wpY_first (fun r' v' => r' = r ∧ i_Rel (k + 4) u v') v v1) u v1 := by
  obtain ⟨s, K, A, B, N, P, F, G, Mk, M', P', F', G', hs, ok, T, hM, rfl, rfl⟩ := I
  unfold wpX_first
  dsimp only
  rcases ie_ix v1 (n := 256) (by decide) with hx | ⟨q, hq, rfl⟩
  · exact xq_in0 hx (br_t rfl (yr_work hs ok (fun P2 F2 G2 T2 => yq_in0 hx (br_t rfl ⟨rfl, ie_R hs ok T hM⟩))))
  · exact xq_in1 hq (br_f (by decide) (xq_least hs T hq (yr_work hs ok (fun P2 F2 G2 T2 => yq_in1 hq (br_f (by decide) (yq_least hs T2 hq ⟨rfl, ie_R hs ok T hM⟩))))))
theorem i_vc_mark {k : Nat} {u : SX} {v : SY} (I : i_Rel k u v) (hk : k + 4 ≤ 2048) (v1 : Int32) : wpX_mark (fun r u' => wpY_mark (fun r' v' => r' = r ∧ i_Rel (k + 4) u' v') v v1) u v1 := by
  have I' := i_up I
  obtain ⟨s, K, A, B, N, P, F, G, Mk, M', P', F', G', hs, ok, T, hM, rfl, rfl⟩ := I
  unfold wpX_mark
  dsimp only
  rcases ie_ix v1 (n := 256) (by decide) with hx | ⟨q, hq, rfl⟩
  · refine xq_in0 hx (br_t rfl ?_)
    unfold wpY_mark
    exact yq_in0 hx (br_t rfl ⟨rfl, I'⟩)
  have cq : (nI q).toNatClampNeg = q := nI_clamp (by omega)
  have hp := ie_runP12 hs K A B N q
  have cp : (nI (ie_run s K A B N q).1).toNatClampNeg = (ie_run s K A B N q).1 := nI_clamp (by omega)
  have vq : vp_in (nI q) 256 := vp_in_nI hq (by decide)
  have vp : vp_in (nI (ie_run s K A B N q).1) 4096 := vp_in_nI hp (by decide)
  -- the reference, with the marks that the component then has
  have hY : ∀ M2 : Nat → Int32, (∀ j, j < 4096 → (upd M' (ie_run s K A B N q).1 1 j = 0 ↔ M2 j = 0)) → wpY_mark (fun r' v' => r' = nI (ie_cnt (ie_mk M2) 4096) ∧ i_Rel (k + 4) (nI s, nI (ie_cnt (ie_mk M2) 4096), K, A, B, N, P, F, G, M2) v') (nI s, K, A, B, N, M', P', F', G') (nI q) := fun M2 h2 => by
    unfold wpY_mark
    refine yq_in1 hq (br_f (by decide) (yr_work hs ok (fun P2 F2 G2 T2 => ?_)))
    dsimp only
    rw [cq, (T2 q hq).1, cp, ie_nb1]
    refine ⟨vq, vp, nm_e (yq_mark ⟨congrArg nI (ie_cntC 4096 (fun i hi => ?_)), ie_R hs ok T h2⟩)⟩
    unfold ie_mk
    by_cases z : M2 i = 0
    · rw [if_pos z, if_pos ((h2 i hi).mpr z)]
    · rw [if_neg z, if_neg (fun y => z ((h2 i hi).mp y))]
  refine xq_in1 hq (br_f (by decide) ?_)
  rw [cq, (T q hq).1]
  refine ⟨vq, nm_e ⟨vp, ?_⟩⟩
  rw [cp, ie_nb1]
  refine br_c (fun z => ⟨vp, nm_e (nm_r (nI_1 _) ?_)⟩) (fun z => ?_)
  · have e : ie_cnt (ie_mk (upd Mk (ie_run s K A B N q).1 1)) 4096 = ie_cnt (ie_mk Mk) 4096 + 1 := by
      refine ie_cntU (c := (ie_run s K A B N q).1) 4096 hp (fun i hi => ?_) ?_
      · unfold ie_mk
        rw [pk_un hi]
      · unfold ie_mk
        rw [pk_us, if_pos z]
        rfl
    rw [← e]
    refine hY _ (fun j hj => ?_)
    by_cases ej : j = (ie_run s K A B N q).1
    · subst ej
      rw [pk_us, pk_us]
    · rw [pk_un ej, pk_un ej]
      exact hM j hj
  · refine hY _ (fun j hj => ?_)
    by_cases ej : j = (ie_run s K A B N q).1
    · subst ej
      rw [pk_us]
      exact ⟨fun y => absurd y (by decide), fun y => absurd y z⟩
    · rw [pk_un ej]
      exact hM j hj
theorem i_vc_unmarked {k : Nat} {u : SX} {v : SY} (I : i_Rel k u v) (hk : k + 4 ≤ 2048) : wpX_unmarked (fun r => wpY_unmarked (fun r' v' => r' = r ∧ i_Rel (k + 4) u v') v) u := by
  obtain ⟨s, K, A, B, N, P, F, G, Mk, M', P', F', G', hs, ok, T, hM, rfl, rfl⟩ := I
  obtain ⟨r, hr⟩ := ie_fsE (fun j => Mk (ie_p s K A B N j) = 0) 256 0
  have hr2 : ie_fs (fun j => M' (ie_p s K A B N j) = 0) 256 0 r := ie_fsF hr (fun j _ => ⟨fun z => ⟨Nat.zero_le j, (hM _ (ie_runP12 hs K A B N j)).mp z⟩, fun z => (hM _ (ie_runP12 hs K A B N j)).mpr z.2⟩)
  exact ⟨257, xq_unmarked hs T (yr_work hs ok (fun P2 F2 G2 T2 => ⟨257, yq_unmarked hs T2 ⟨rfl, ie_R hs ok T hM⟩ 256 0 rfl hr2⟩)) 256 0 rfl hr⟩
theorem i_vc_extreme {k : Nat} {u : SX} {v : SY} (I : i_Rel k u v) (hk : k + 4 ≤ 2048) (v1 : Int32) (v2 : Int32) : wpX_extreme (fun r => wpY_extreme (fun r' v' => r' = r ∧ i_Rel (k + 4) u v') v v1 v2) u v1 v2 := by
  obtain ⟨s, K, A, B, N, P, F, G, Mk, M', P', F', G', hs, ok, T, hM, rfl, rfl⟩ := I
  unfold wpX_extreme
  dsimp only
  have hY : (v1 < 0 ∨ nI 4 ≤ v1) ∨ ¬ (v2 = 0 ∨ v2 = 1) → wpY_extreme (fun r' v' => r' = -1000000000 ∧ i_Rel (k + 4) (nI s, nI (ie_cnt (ie_mk Mk) 4096), K, A, B, N, P, F, G, Mk) v') (nI s, K, A, B, N, M', P', F', G') v1 v2 := fun hx =>
    yr_work hs ok (fun P2 F2 G2 T2 => yq_extreme0 hx ⟨rfl, ie_R hs ok T hM⟩)
  rcases ie_ix v1 (n := 4) (by decide) with hx | ⟨q, hq, rfl⟩
  · exact xq_rg0 hx (br_t rfl (hY (Or.inl hx)))
  refine xq_rg1 hq (br_f (by decide) (br_c (fun z => hY (Or.inr ?_)) (fun z => br_c (fun y => ?_) (fun y => hY (Or.inr ?_)))))
  · rintro (e | e)
    · rw [e] at z; exact absurd z (by decide)
    · rw [e] at z; exact absurd z (by decide)
  · have hw : v2 = 0 ∨ v2 = 1 := by
      obtain ⟨j, hj, rfl⟩ := nI_of2 (M := 1) (n := 1) (by decide) z y
      have hj : j = 0 ∨ j = 1 := by omega
      rcases hj with rfl | rfl
      · exact Or.inl rfl
      · exact Or.inr rfl
    exact xq_extreme hs ok T hq (yr_work hs ok (fun P2 F2 G2 T2 => yq_extreme hs ok T2 hq hw ⟨rfl, ie_R hs ok T hM⟩))
  · rintro (e | e)
    · rw [e] at y; exact absurd (by decide) y
    · rw [e] at y; exact absurd (by decide) y
theorem i_vc_ending {k : Nat} {u : SX} {v : SY} (I : i_Rel k u v) (hk : k + 4 ≤ 2048) (v1 : Int32) (v2 : Int32) : wpX_ending (fun r => wpY_ending (fun r' v' => r' = r ∧ i_Rel (k + 4) u v') v v1 v2) u v1 v2 := by
  obtain ⟨s, K, A, B, N, P, F, G, Mk, M', P', F', G', hs, ok, T, hM, rfl, rfl⟩ := I
  unfold wpX_ending
  dsimp only
  rcases ie_ix v1 (n := 4) (by decide) with hx | ⟨q, hq, rfl⟩
  · exact xq_rg0 hx (br_t rfl (yr_work hs ok (fun P2 F2 G2 T2 => yq_ending0 hx ⟨rfl, ie_R hs ok T hM⟩)))
  · exact xq_rg1 hq (br_f (by decide) (xq_ending T hq (yr_work hs ok (fun P2 F2 G2 T2 => yq_ending T2 hq ⟨rfl, ie_R hs ok T hM⟩))))
theorem i_vc_steps {k : Nat} {u : SX} {v : SY} (I : i_Rel k u v) (hk : k + 4 ≤ 2048) (v1 : Int32) : wpX_steps (fun r => wpY_steps (fun r' v' => r' = r ∧ i_Rel (k + 4) u v') v v1) u v1 := by
  obtain ⟨s, K, A, B, N, P, F, G, Mk, M', P', F', G', hs, ok, T, hM, rfl, rfl⟩ := I
  unfold wpX_steps
  dsimp only
  rcases ie_ix v1 (n := 256) (by decide) with hx | ⟨q, hq, rfl⟩
  · exact xq_in0 hx (br_t rfl (yr_work hs ok (fun P2 F2 G2 T2 => yq_steps0 hx ⟨rfl, ie_R hs ok T hM⟩)))
  · exact xq_in1 hq (br_f (by decide) (xq_steps hs T hq (yr_work hs ok (fun P2 F2 G2 T2 => yq_steps hs T2 hq ⟨rfl, ie_R hs ok T hM⟩))))
end
