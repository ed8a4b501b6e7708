section
/-! rows of kit/rows, pasted -/
theorem pk_us {f : Nat → Int32} {k : Nat} {x : Int32} : upd f k x k = x := if_pos rfl
theorem pk_un {f : Nat → Int32} {k j : Nat} {x : Int32} (h : j ≠ k) : upd f k x j = f j := if_neg h
theorem pk_sub {a b : Nat} (h : b ≤ a) : nI a - nI b = nI (a - b) := by
  obtain ⟨c, rfl⟩ : ∃ c, a = c + b := ⟨a - b, by omega⟩
  rw [← nI_add, Int32.add_sub_cancel, Nat.add_sub_cancel]
theorem pk_m1 (n : Nat) : nI (n + 1) + (-1) = nI n := by
  rw [← nI_1, Int32.add_assoc, show (1 : Int32) + (-1) = 0 from rfl, Int32.add_zero]
theorem pk_mul (a b : Nat) : nI a * nI b = nI (a * b) := (Int32.ofNat_mul a b).symm
theorem pk_div {a d : Nat} (ha : a < 2 ^ 31) (h0 : 0 < d) (hd : d < 2 ^ 31) : nI a / nI d = nI (a / d) := by
  apply Int32.toInt_inj.mp
  rw [lg_idiv_nonneg (by rw [nI_toInt ha]; omega) (by rw [nI_toInt hd]; omega), nI_toInt ha, nI_toInt hd, nI_toInt (Nat.lt_of_le_of_lt (Nat.div_le_self a d) ha)]
  first | rfl | exact (Int.natCast_ediv _ _).symm
theorem pk_rem {a d : Nat} (ha : a < 2 ^ 31) (h0 : 0 < d) (hd : d < 2 ^ 31) : nI a - nI a / nI d * nI d = nI (a % d) := by
  rw [pk_div ha h0 hd, pk_mul, pk_sub (Nat.div_mul_le_self a d)]
  exact congrArg nI (by have := Nat.div_add_mod' a d; omega)
theorem pk_ix (x : Int32) {n : Nat} (hn : n < 2 ^ 31) : x < 0 ∨ nI n ≤ x ∨ ∃ j : Nat, j < n ∧ x = nI j := by
  by_cases h : x < 0
  · exact Or.inl h
  · obtain ⟨j, hj, rfl⟩ := nI_of h
    by_cases h2 : j < n
    · exact Or.inr (Or.inr ⟨j, h2, rfl⟩)
    · exact Or.inr (Or.inl (nI_le (by omega) hj))
theorem pk_le {x y : Int32} {A B : Prop} (a b : Nat) (f : a ≤ b → A) (g : b < a → B) (hx : x = nI a := by rfl) (hy : y = nI b := by rfl) (ha : a < 2 ^ 31 := by omega) (hb : b < 2 ^ 31 := by omega) : (x ≤ y → A) ∧ (¬ x ≤ y → B) := by
  subst hx hy
  rw [nI_leI ha hb]
  exact ⟨f, fun z => g (by omega)⟩
theorem pk_lt {x y : Int32} {A B : Prop} (a b : Nat) (f : a < b → A) (g : b ≤ a → B) (hx : x = nI a := by rfl) (hy : y = nI b := by rfl) (ha : a < 2 ^ 31 := by omega) (hb : b < 2 ^ 31 := by omega) : (x < y → A) ∧ (¬ x < y → B) := by
  subst hx hy
  rw [nI_ltI ha hb]
  exact ⟨f, fun z => g (by omega)⟩
theorem pk_eq {x y : Int32} {A B : Prop} (a b : Nat) (f : a = b → A) (g : a ≠ b → B) (hx : x = nI a := by rfl) (hy : y = nI b := by rfl) (ha : a < 2 ^ 31 := by omega) (hb : b < 2 ^ 31 := by omega) : (x = y → A) ∧ (¬ x = y → B) := by
  subst hx hy
  rw [nI_eq ha hb]
  exact ⟨f, g⟩
theorem pk_in {x : Int32} (n N : Nat) (h : n < N) (hx : x = nI n := by rfl) (hN : N < 2 ^ 31 := by omega) : vp_in x N := by
  subst hx
  exact vp_in_nI h hN
theorem pk_cl {x : Int32} (n : Nat) (hx : x = nI n := by rfl) (h : n < 2 ^ 31 := by omega) : x.toNatClampNeg = n := by
  subst hx
  exact nI_clamp h
theorem pk_tn {n : Nat} (h : n < 2 ^ 32) : (nI n).toBitVec.toNat = n := Nat.mod_eq_of_lt h
theorem pk_and (x : Int32) {m : Int32} (k : Nat) (hm : m.toBitVec.toNat = 2 ^ k - 1) : x &&& m = nI (x.toBitVec.toNat % 2 ^ k) := by
  apply Int32.toBitVec_inj.mp
  apply BitVec.eq_of_toNat_eq
  rw [Int32.toBitVec_and, BitVec.toNat_and, hm, Nat.and_two_pow_sub_one_eq_mod]
  show _ = (BitVec.ofNat 32 _).toNat
  rw [BitVec.toNat_ofNat]
  exact (Nat.mod_eq_of_lt (Nat.lt_of_le_of_lt (Nat.mod_le _ _) x.toBitVec.isLt)).symm
theorem pk_andN {n : Nat} (h : n < 2 ^ 32) {m : Int32} (k : Nat) (hm : m.toBitVec.toNat = 2 ^ k - 1) : nI n &&& m = nI (n % 2 ^ k) := by
  rw [pk_and _ k hm, pk_tn h]
theorem pk_shl (a s : Int32) (k : Nat) (hs : (s.toBitVec.smod 32).toNat = k) : (a <<< s).toBitVec.toNat = a.toBitVec.toNat * 2 ^ k % 2 ^ 32 := by
  show (a.toBitVec <<< (s.toBitVec.smod 32).toNat).toNat = _
  rw [hs, BitVec.toNat_shiftLeft, Nat.shiftLeft_eq]
theorem pk_shlN {n : Nat} (s : Int32) (k : Nat) (hs : (s.toBitVec.smod 32).toNat = k) (h : n * 2 ^ k < 2 ^ 32) : nI n <<< s = nI (n * 2 ^ k) := by
  apply Int32.toBitVec_inj.mp
  apply BitVec.eq_of_toNat_eq
  have hn : n < 2 ^ 32 := Nat.lt_of_le_of_lt (Nat.le_mul_of_pos_right n (Nat.two_pow_pos k)) h
  rw [pk_shl _ _ k hs, pk_tn hn, pk_tn h, Nat.mod_eq_of_lt h]
theorem pk_shr (a s : Int32) (k : Nat) (hs : (s.toBitVec.smod 32).toNat = k) : (a >>> s).toInt = a.toInt >>> k := by
  show (a.toBitVec.sshiftRight (s.toBitVec.smod 32).toNat).toInt = _
  rw [hs, BitVec.toInt_sshiftRight]
  rfl
theorem pk_shrN {n : Nat} (h : n < 2 ^ 31) (s : Int32) (k : Nat) (hs : (s.toBitVec.smod 32).toNat = k) : nI n >>> s = nI (n / 2 ^ k) := by
  apply Int32.toInt_inj.mp
  have h2 : n / 2 ^ k ≤ n := Nat.div_le_self _ _
  rw [pk_shr _ _ k hs, nI_toInt h, nI_toInt (by omega), Int.shiftRight_eq_div_pow]
  rfl
theorem pk_loop {σ : Type} (W : Nat → Nat → σ → Prop) (I : Nat → σ → Prop) (e i0 : Nat) (s : σ) (hi : i0 ≤ e) (h0 : I i0 s) (hx : ∀ n s, I e s → W (n + 1) e s)
    (hs : ∀ n i s, i < e → I i s → (∀ s', I (i + 1) s' → W n (i + 1) s') → W (n + 1) i s) : ∃ n, W n i0 s :=
  ⟨e + 1, loop_i W I e hx hs (e + 1) i0 s hi (by omega) h0⟩
theorem ek_if {c d A B : Prop} (e : c ↔ d) (f : d → A) (g : ¬ d → B) : (c → A) ∧ (¬ c → B) :=
  ⟨fun z => f (e.mp z), fun z => g (fun y => z (e.mpr y))⟩
theorem ek_v {α : Sort _} {P : α → Prop} {a b : α} (e : a = b) (h : P b) : P a := e ▸ h
def bt (x : Int32) (i : Nat) : Bool := x.toBitVec.getLsbD i
theorem b_ext {x y : Int32} (h : ∀ i, i < 32 → bt x i = bt y i) : x = y := Int32.toBitVec_inj.mp (BitVec.eq_of_getLsbD_eq (fun i hi => h i hi))
theorem b_or (x y : Int32) (i : Nat) : bt (x ||| y) i = (bt x i || bt y i) := by unfold bt; rw [Int32.toBitVec_or, BitVec.getLsbD_or]
theorem b_and (x y : Int32) (i : Nat) : bt (x &&& y) i = (bt x i && bt y i) := by unfold bt; rw [Int32.toBitVec_and, BitVec.getLsbD_and]
theorem b_xor (x y : Int32) (i : Nat) : bt (x ^^^ y) i = (bt x i ^^ bt y i) := by unfold bt; rw [Int32.toBitVec_xor, BitVec.getLsbD_xor]
theorem b_m1 : ∀ i, i < 32 → bt (-1) i = true := by decide +kernel
theorem s_l : ∀ n, n < 32 → ((nI n &&& 31).toBitVec.smod 32).toNat = n := by decide +kernel
theorem nx_and (a b : Nat) : nI a &&& nI b = nI (a &&& b) := by
  apply Int32.toBitVec_inj.1
  show BitVec.ofNat 32 a &&& BitVec.ofNat 32 b = BitVec.ofNat 32 (a &&& b)
  apply BitVec.eq_of_getLsbD_eq
  intro i hi
  simp [hi]
theorem nx_xor (a b : Nat) : nI a ^^^ nI b = nI (a ^^^ b) := by
  apply Int32.toBitVec_inj.1
  show BitVec.ofNat 32 a ^^^ BitVec.ofNat 32 b = BitVec.ofNat 32 (a ^^^ b)
  apply BitVec.eq_of_getLsbD_eq
  intro i hi
  simp [hi]
/-! ===== bits of a set ===== -/
theorem cf_btn (n : Nat) {i : Nat} (hi : i < 32) : bt (nI n) i = n.testBit i := by
  show (BitVec.ofNat 32 n).getLsbD i = n.testBit i
  rw [BitVec.getLsbD_ofNat, decide_eq_true hi, Bool.true_and]
theorem cf_or (a b : Nat) : nI a ||| nI b = nI (a ||| b) := by
  apply b_ext
  intro i hi
  rw [b_or, cf_btn a hi, cf_btn b hi, cf_btn _ hi, Nat.testBit_or]
theorem cf_bit {s e : Nat} (hs : s < 2 ^ 31) (he : e < 32) : (nI s >>> (nI e &&& 31)) &&& 1 = nI (s / 2 ^ e % 2) := by
  rw [pk_shrN hs _ e (s_l e he)]
  exact pk_andN (Nat.lt_of_le_of_lt (Nat.div_le_self _ _) (by omega)) 1 (by decide)
theorem cf_bit_t {s e : Nat} (hs : s < 2 ^ 31) (he : e < 32) (h : s.testBit e = true) : (nI s >>> (nI e &&& 31)) &&& 1 = 1 := by
  rw [cf_bit hs he]
  rw [Nat.testBit_eq_decide_div_mod_eq] at h
  rw [of_decide_eq_true h]
  rfl
theorem cf_bit_f {s e : Nat} (hs : s < 2 ^ 31) (he : e < 32) (h : ¬ s.testBit e = true) : (nI s >>> (nI e &&& 31)) &&& 1 = 0 := by
  rw [cf_bit hs he]
  rw [Nat.testBit_eq_decide_div_mod_eq, decide_eq_true_iff] at h
  have h2 : s / 2 ^ e % 2 = 0 := by
    generalize s / 2 ^ e = z at h
    omega
  rw [h2]
  rfl
theorem cf_shl1 : ∀ e, e < 31 → (1 : Int32) <<< (nI e &&& 31) = nI (2 ^ e) := by decide +kernel
theorem cf_m1b : ∀ e, e < 32 → ((-1 : Int32) >>> (nI e &&& 31)) &&& 1 = 1 := by decide +kernel
theorem cf_swp {s f : Nat} (h : s.testBit f = true) : nI s &&& (nI (2 ^ f) ^^^ (-1)) = nI (s ^^^ 2 ^ f) := by
  apply b_ext
  intro i hi
  rw [b_and, b_xor, b_m1 i hi, cf_btn s hi, cf_btn _ hi, cf_btn _ hi, Nat.testBit_xor, Nat.testBit_two_pow]
  by_cases e : f = i
  · subst e
    rw [h]
    simp
  · rw [decide_eq_false e]
    simp
theorem cf_vp {x : Int32} {N : Nat} (h : vp_in x N) (hN : N < 2 ^ 31) : x.toNatClampNeg < N ∧ x = nI x.toNatClampNeg := by
  obtain ⟨j, hj, rfl⟩ := vp_in_of h hN
  rw [nI_clamp (by omega)]
  exact ⟨hj, rfl⟩
theorem cf_p12 {m : Nat} (h : m ≤ 12) : 2 ^ m ≤ 4096 := by
  have h2 : 2 ^ m ≤ 2 ^ 12 := Nat.pow_le_pow_right (by decide) h
  omega
end
section
/-! ===== sets as numbers: size, weight, made from a predicate ===== -/
def cf_sz (s : Nat) : Nat → Nat
  | 0 => 0
  | e + 1 => cf_sz s e + (if s.testBit e = true then 1 else 0)
theorem cf_sz_le (s : Nat) : ∀ m, cf_sz s m ≤ m := by
  intro m
  induction m with
  | zero => exact Nat.le_refl 0
  | succ m ih => simp only [cf_sz]; split <;> omega
theorem cf_sz_ge {s m : Nat} (h : s < 2 ^ m) : ∀ d, cf_sz s (m + d) = cf_sz s m := by
  intro d
  induction d with
  | zero => rfl
  | succ d ih =>
    have hb : s.testBit (m + d) = false := Nat.testBit_lt_two_pow (Nat.lt_of_lt_of_le h (Nat.pow_le_pow_right (by decide) (by omega)))
    show cf_sz s (m + d) + (if s.testBit (m + d) = true then 1 else 0) = _
    rw [ih, hb]
    rfl
theorem cf_sz12 {s m : Nat} (h : s < 2 ^ m) (hm : m ≤ 12) : cf_sz s 12 = cf_sz s m := by
  have h2 := cf_sz_ge h (12 - m)
  rw [show m + (12 - m) = 12 by omega] at h2
  exact h2
def cf_tot (W : Nat → Int32) (s : Nat) : Nat → Int32
  | 0 => 0
  | e + 1 => if s.testBit e = true then cf_tot W s e + W e else cf_tot W s e
theorem cf_tot_bd (W : Nat → Int32) (s m : Nat) (hm : m ≤ 12) (hW : ∀ e, e < m → -20 ≤ (W e).toInt ∧ (W e).toInt ≤ 50) : ∀ e, e ≤ m → -20 * (e : Int) ≤ (cf_tot W s e).toInt ∧ (cf_tot W s e).toInt ≤ 50 * (e : Int) := by
  intro e
  induction e with
  | zero =>
    intro _
    have h0 : (cf_tot W s 0).toInt = 0 := by show (0 : Int32).toInt = 0; decide
    omega
  | succ e ih =>
    intro he
    have h1 := ih (by omega)
    have h2 := hW e (by omega)
    simp only [cf_tot]
    split
    · rw [Int32.toInt_add, Int.bmod_eq_of_le (by omega) (by omega)]
      omega
    · omega
theorem cf_tot_ge (W : Nat → Int32) (s m : Nat) (hm : m ≤ 12) (hW : ∀ e, e < m → -20 ≤ (W e).toInt ∧ (W e).toInt ≤ 50) : (-10000 : Int32) ≤ cf_tot W s m := by
  have h := cf_tot_bd W s m hm hW m (Nat.le_refl m)
  have h0 : (-10000 : Int32).toInt = -10000 := by decide
  rw [Int32.le_iff_toInt_le, h0]
  omega
def cf_mk (p : Nat → Bool) : Nat → Nat
  | 0 => 0
  | e + 1 => if p e = true then cf_mk p e ||| 2 ^ e else cf_mk p e
theorem cf_mk_bit (p : Nat → Bool) : ∀ m i, (cf_mk p m).testBit i = (decide (i < m) && p i) := by
  intro m
  induction m with
  | zero => intro i; simp [cf_mk]
  | succ m ih =>
    intro i
    by_cases hp : p m = true
    · show (if p m = true then cf_mk p m ||| 2 ^ m else cf_mk p m).testBit i = _
      rw [if_pos hp, Nat.testBit_or, ih, Nat.testBit_two_pow]
      by_cases e : i = m
      · subst e; simp [hp]
      · have e' : m ≠ i := fun z => e z.symm
        have e2 : (i < m + 1) ↔ i < m := by omega
        simp [e', e2]
    · show (if p m = true then cf_mk p m ||| 2 ^ m else cf_mk p m).testBit i = _
      rw [if_neg hp, ih]
      by_cases e : i = m
      · subst e; simp [hp]
      · have e2 : (i < m + 1) ↔ i < m := by omega
        simp [e2]
theorem cf_mk_lt (p : Nat → Bool) (m : Nat) : cf_mk p m < 2 ^ m :=
  Nat.lt_pow_two_of_testBit _ (fun i hi => by rw [cf_mk_bit, decide_eq_false (by omega)]; rfl)
/-! ===== counting ===== -/
def cf_cnt (p : Nat → Bool) : Nat → Nat
  | 0 => 0
  | v + 1 => cf_cnt p v + (if p v = true then 1 else 0)
theorem cf_cnt_eq {p q : Nat → Bool} : ∀ n, (∀ v, v < n → p v = q v) → cf_cnt p n = cf_cnt q n := by
  intro n
  induction n with
  | zero => intro _; rfl
  | succ n ih =>
    intro h
    simp only [cf_cnt]
    rw [ih (fun v hv => h v (by omega)), h n (by omega)]
theorem cf_cnt_rm (p : Nat → Bool) (w : Nat) : ∀ n, w < n → p w = true → cf_cnt p n = cf_cnt (fun v => p v && decide (v ≠ w)) n + 1 := by
  intro n
  induction n with
  | zero => intro h _; omega
  | succ n ih =>
    intro h hp
    by_cases e : w = n
    · subst e
      have e1 : cf_cnt p w = cf_cnt (fun v => p v && decide (v ≠ w)) w := cf_cnt_eq w (fun v hv => by
        have : v ≠ w := by omega
        simp [this])
      simp only [cf_cnt]
      rw [← e1]
      simp [hp]
    · have e1 := ih (by omega) hp
      have e2 : n ≠ w := fun z => e z.symm
      simp only [cf_cnt]
      rw [e1]
      simp only [e2, ne_eq, not_false_eq_true, decide_true, Bool.and_true]
      omega
theorem cf_inj (f : Nat → Nat) (N : Nat) : ∀ (k : Nat) (p q : Nat → Bool), (∀ v, v < k → p v = true → f v < N ∧ q (f v) = true) → (∀ u v, u < k → v < k → p u = true → p v = true → f u = f v → u = v) → cf_cnt p k ≤ cf_cnt q N := by
  intro k
  induction k with
  | zero => intro p q _ _; exact Nat.zero_le _
  | succ k ih =>
    intro p q hm hi
    by_cases hp : p k = true
    · obtain ⟨h1, h2⟩ := hm k (by omega) hp
      have h3 := ih p (fun v => q v && decide (v ≠ f k)) (fun v hv pv => by
        refine ⟨(hm v (by omega) pv).1, ?_⟩
        have z : f v ≠ f k := fun z => by
          have := hi v k (by omega) (by omega) pv hp z
          omega
        show (q (f v) && decide (f v ≠ f k)) = true
        rw [(hm v (by omega) pv).2, decide_eq_true z]
        rfl) (fun u v hu hv => hi u v (by omega) (by omega))
      have e := cf_cnt_rm q (f k) N h1 h2
      simp only [cf_cnt, hp, if_true]
      omega
    · have h3 := ih p q (fun v hv => hm v (by omega)) (fun u v hu hv => hi u v (by omega) (by omega))
      simp only [cf_cnt, if_neg hp]
      omega
/-! ===== labels of trees ===== -/
def cf_ren (L : Nat → Nat) (g k : Nat) : Nat → Nat := fun v => if L v = g then k else L v
theorem cf_ren_self (L : Nat → Nat) (g : Nat) : cf_ren L g g = L := by
  funext v
  unfold cf_ren
  split
  · rename_i h; exact h.symm
  · rfl
def cf_L (A B : Nat → Nat) (s : Nat) : Nat → Nat → Nat
  | 0 => fun v => v
  | e + 1 => if s.testBit e = true then cf_ren (cf_L A B s e) (cf_L A B s e (B e)) (cf_L A B s e (A e)) else cf_L A B s e
def cf_J (A B : Nat → Nat) (s : Nat) : Nat → Nat
  | 0 => 0
  | e + 1 => if s.testBit e = true ∧ cf_L A B s e (A e) ≠ cf_L A B s e (B e) then cf_J A B s e + 1 else cf_J A B s e
def cf_Fp (A B : Nat → Nat) (s m : Nat) : Prop := ∀ e, e < m → s.testBit e = true → cf_L A B s e (A e) ≠ cf_L A B s e (B e)
theorem cf_L_t {A B : Nat → Nat} {s e : Nat} (h : s.testBit e = true) : cf_L A B s (e + 1) = cf_ren (cf_L A B s e) (cf_L A B s e (B e)) (cf_L A B s e (A e)) := if_pos h
theorem cf_L_f {A B : Nat → Nat} {s e : Nat} (h : ¬ s.testBit e = true) : cf_L A B s (e + 1) = cf_L A B s e := if_neg h
theorem cf_L_q {A B : Nat → Nat} {s e : Nat} (h : cf_L A B s e (A e) = cf_L A B s e (B e)) : cf_L A B s (e + 1) = cf_L A B s e := by
  by_cases hb : s.testBit e = true
  · rw [cf_L_t hb, h, cf_ren_self]
  · exact cf_L_f hb
theorem cf_L_id (A B : Nat → Nat) (s : Nat) : ∀ e v, cf_L A B s e (cf_L A B s e v) = cf_L A B s e v := by
  intro e
  induction e with
  | zero => intro v; rfl
  | succ e ih =>
    by_cases hb : s.testBit e = true
    · rw [cf_L_t hb]
      generalize cf_L A B s e = L at ih ⊢
      intro v
      unfold cf_ren
      by_cases h1 : L v = L (B e)
      · rw [if_pos h1]
        by_cases h2 : L (L (A e)) = L (B e)
        · rw [if_pos h2]
        · rw [if_neg h2, ih]
      · rw [if_neg h1, ih, if_neg h1]
    · rw [cf_L_f hb]
      exact ih
theorem cf_L_lt (A B : Nat → Nat) (s m : Nat) (hA : ∀ e, e < m → A e < 7) : ∀ e, e ≤ m → ∀ v, v < 7 → cf_L A B s e v < 7 := by
  intro e
  induction e with
  | zero => intro _ v hv; exact hv
  | succ e ih =>
    intro he v hv
    by_cases hb : s.testBit e = true
    · rw [cf_L_t hb]
      unfold cf_ren
      split
      · exact ih (by omega) _ (hA e (by omega))
      · exact ih (by omega) v hv
    · rw [cf_L_f hb]
      exact ih (by omega) v hv
theorem cf_L_8 (A B : Nat → Nat) (s m : Nat) (hA : ∀ e, e < m → A e < 7) : ∀ e, e ≤ m → ∀ v, v < 8 → cf_L A B s e v < 8 := by
  intro e
  induction e with
  | zero => intro _ v hv; exact hv
  | succ e ih =>
    intro he v hv
    by_cases hb : s.testBit e = true
    · rw [cf_L_t hb]
      unfold cf_ren
      split
      · have h7 := hA e (by omega)
        exact ih (by omega) _ (by omega)
      · exact ih (by omega) v hv
    · rw [cf_L_f hb]
      exact ih (by omega) v hv
def cf_fp (L : Nat → Nat) : Nat := cf_cnt (fun v => decide (L v = v)) 7
theorem cf_J_fp (A B : Nat → Nat) (s m : Nat) (hA : ∀ e, e < m → A e < 7) (hB : ∀ e, e < m → B e < 7) : ∀ e, e ≤ m → cf_J A B s e + cf_fp (cf_L A B s e) = 7 := by
  intro e
  induction e with
  | zero =>
    intro _
    show 0 + cf_cnt (fun v => decide (v = v)) 7 = 7
    decide
  | succ e ih =>
    intro he
    have h1 := ih (by omega)
    by_cases hb : s.testBit e = true ∧ cf_L A B s e (A e) ≠ cf_L A B s e (B e)
    · have hJ : cf_J A B s (e + 1) = cf_J A B s e + 1 := if_pos hb
      have hlt := cf_L_lt A B s m hA e (by omega) (B e) (hB e (by omega))
      have hid := cf_L_id A B s e
      rw [hJ, cf_L_t hb.1]
      obtain ⟨_, hne⟩ := hb
      generalize cf_L A B s e = L at h1 hlt hid hne ⊢
      have hc : cf_cnt (fun v => decide (L v = v)) 7 = cf_cnt (fun v => decide (L v = v) && decide (v ≠ L (B e))) 7 + 1 := cf_cnt_rm (fun v => decide (L v = v)) (L (B e)) 7 hlt (decide_eq_true (hid (B e)))
      have hq : cf_cnt (fun v => decide (cf_ren L (L (B e)) (L (A e)) v = v)) 7 = cf_cnt (fun v => decide (L v = v) && decide (v ≠ L (B e))) 7 := by
        refine cf_cnt_eq 7 (fun v _ => ?_)
        show decide (cf_ren L (L (B e)) (L (A e)) v = v) = (decide (L v = v) && decide (v ≠ L (B e)))
        rw [Bool.eq_iff_iff, Bool.and_eq_true, decide_eq_true_iff, decide_eq_true_iff, decide_eq_true_iff]
        unfold cf_ren
        by_cases h2 : L v = L (B e)
        · rw [if_pos h2]
          constructor
          · intro z
            have h3 := hid (A e)
            rw [z, h2] at h3
            exact absurd (z.trans h3.symm) hne
          · rintro ⟨z1, z2⟩
            exact absurd (z1.symm.trans h2) z2
        · rw [if_neg h2]
          constructor
          · intro z
            exact ⟨z, fun y => h2 (z.trans y)⟩
          · exact fun z => z.1
      unfold cf_fp at h1 ⊢
      omega
    · have hJ : cf_J A B s (e + 1) = cf_J A B s e := if_neg hb
      have hL : cf_L A B s (e + 1) = cf_L A B s e := by
        by_cases h2 : s.testBit e = true
        · exact cf_L_q (Classical.not_not.mp (fun z => hb ⟨h2, z⟩))
        · exact cf_L_f h2
      rw [hJ, hL]
      exact h1
theorem cf_J_le (A B : Nat → Nat) (s : Nat) : ∀ m, cf_J A B s m ≤ cf_sz s m := by
  intro m
  induction m with
  | zero => exact Nat.le_refl 0
  | succ m ih =>
    simp only [cf_J, cf_sz]
    by_cases hb : s.testBit m = true
    · rw [if_pos hb]; split <;> omega
    · have hb2 : ¬ (s.testBit m = true ∧ cf_L A B s m (A m) ≠ cf_L A B s m (B m)) := fun z => hb z.1
      rw [if_neg hb, if_neg hb2]; omega
theorem cf_J_F (A B : Nat → Nat) (s : Nat) : ∀ m, cf_J A B s m = cf_sz s m ↔ cf_Fp A B s m := by
  intro m
  induction m with
  | zero => exact ⟨fun _ e he => absurd he (Nat.not_lt_zero e), fun _ => rfl⟩
  | succ m ih =>
    have hle := cf_J_le A B s m
    simp only [cf_J, cf_sz]
    by_cases hb : s.testBit m = true
    · by_cases hn : cf_L A B s m (A m) ≠ cf_L A B s m (B m)
      · rw [if_pos hb, if_pos ⟨hb, hn⟩]
        constructor
        · intro z e he te
          by_cases q : e = m
          · subst q; exact hn
          · exact ih.mp (by omega) e (by omega) te
        · intro z
          have := ih.mpr (fun e he te => z e (by omega) te)
          omega
      · have hb2 : ¬ (s.testBit m = true ∧ cf_L A B s m (A m) ≠ cf_L A B s m (B m)) := fun z => hn z.2
        rw [if_pos hb, if_neg hb2]
        constructor
        · intro z; omega
        · intro z; exact absurd (z m (by omega) hb) hn
    · have hb2 : ¬ (s.testBit m = true ∧ cf_L A B s m (A m) ≠ cf_L A B s m (B m)) := fun z => hb z.1
      rw [if_neg hb, if_neg hb2]
      constructor
      · intro z e he te
        by_cases q : e = m
        · subst q; exact absurd te hb
        · exact ih.mp (by omega) e (by omega) te
      · intro z
        have := ih.mpr (fun e he te => z e (by omega) te)
        omega
/-! ===== the rank: the greedy count is the size of the greatest forest ===== -/
theorem cf_cr (A B : Nat → Nat) (s t : Nat) : ∀ m, (∀ e, e < m → s.testBit e = true → t.testBit e = true) → ∀ u v, cf_L A B s m u = cf_L A B s m v → cf_L A B t m u = cf_L A B t m v := by
  intro m
  induction m with
  | zero => intro _ u v h; exact h
  | succ m ih =>
    intro hst u v
    have ih' := ih (fun e he => hst e (by omega))
    by_cases hs : s.testBit m = true
    · rw [cf_L_t hs, cf_L_t (hst m (by omega) hs)]
      generalize cf_L A B s m = L at ih' ⊢
      generalize cf_L A B t m = M at ih' ⊢
      unfold cf_ren
      by_cases h1 : L u = L (B m)
      · have k1 := ih' _ _ h1
        rw [if_pos h1, if_pos k1]
        by_cases h2 : L v = L (B m)
        · rw [if_pos h2, if_pos (ih' _ _ h2)]; exact fun _ => rfl
        · rw [if_neg h2]
          intro z
          have k2 := ih' _ _ z
          split
          · rfl
          · exact k2
      · rw [if_neg h1]
        by_cases h2 : L v = L (B m)
        · rw [if_pos h2, if_pos (ih' _ _ h2)]
          intro z
          have k2 := ih' _ _ z
          split
          · rfl
          · exact k2
        · rw [if_neg h2]
          intro z
          rw [ih' _ _ z]
    · rw [cf_L_f hs]
      intro z
      have k := ih' _ _ z
      by_cases ht : t.testBit m = true
      · rw [cf_L_t ht]
        unfold cf_ren
        rw [k]
      · rw [cf_L_f ht]
        exact k
theorem cf_all (m e : Nat) (h : e < m) : (2 ^ m - 1).testBit e = true := by
  rw [Nat.testBit_two_pow_sub_one]
  exact decide_eq_true h
theorem cf_rk_ub (A B : Nat → Nat) (s m : Nat) (hA : ∀ e, e < m → A e < 7) (hB : ∀ e, e < m → B e < 7) (hF : cf_Fp A B s m) : cf_sz s m ≤ cf_J A B (2 ^ m - 1) m := by
  have h1 := cf_J_fp A B s m hA hB m (Nat.le_refl m)
  have h2 := cf_J_fp A B (2 ^ m - 1) m hA hB m (Nat.le_refl m)
  have h3 := (cf_J_F A B s m).mpr hF
  have hc := cf_cr A B s (2 ^ m - 1) m (fun e he _ => cf_all m e he)
  have hk : cf_fp (cf_L A B (2 ^ m - 1) m) ≤ cf_fp (cf_L A B s m) := by
    unfold cf_fp
    refine cf_inj (cf_L A B s m) 7 7 _ _ (fun v hv _ => ⟨cf_L_lt A B s m hA m (Nat.le_refl m) v hv, decide_eq_true (cf_L_id A B s m v)⟩) ?_
    intro u v _ _ pu pv e
    have k := hc u v e
    have pu' : cf_L A B (2 ^ m - 1) m u = u := of_decide_eq_true pu
    have pv' : cf_L A B (2 ^ m - 1) m v = v := of_decide_eq_true pv
    rw [pu', pv'] at k
    exact k
  omega
def cf_gr (A B : Nat → Nat) (m : Nat) : Nat := cf_mk (fun e => decide (cf_L A B (2 ^ m - 1) e (A e) ≠ cf_L A B (2 ^ m - 1) e (B e))) m
theorem cf_gr_bit (A B : Nat → Nat) (m e : Nat) (h : e < m) : (cf_gr A B m).testBit e = decide (cf_L A B (2 ^ m - 1) e (A e) ≠ cf_L A B (2 ^ m - 1) e (B e)) := by
  unfold cf_gr
  rw [cf_mk_bit, decide_eq_true h, Bool.true_and]
theorem cf_gr_L (A B : Nat → Nat) (m : Nat) : ∀ e, e ≤ m → cf_L A B (cf_gr A B m) e = cf_L A B (2 ^ m - 1) e ∧ cf_sz (cf_gr A B m) e = cf_J A B (2 ^ m - 1) e := by
  intro e
  induction e with
  | zero => intro _; exact ⟨rfl, rfl⟩
  | succ e ih =>
    intro he
    obtain ⟨h1, h2⟩ := ih (by omega)
    have hb := cf_gr_bit A B m e (by omega)
    have ha := cf_all m e (by omega)
    by_cases hn : cf_L A B (2 ^ m - 1) e (A e) ≠ cf_L A B (2 ^ m - 1) e (B e)
    · have hb' : (cf_gr A B m).testBit e = true := by rw [hb]; exact decide_eq_true hn
      constructor
      · rw [cf_L_t hb', cf_L_t ha, h1]
      · simp only [cf_sz, cf_J]
        rw [if_pos hb', if_pos ⟨ha, hn⟩, h2]
    · have hb' : ¬ (cf_gr A B m).testBit e = true := by rw [hb, decide_eq_false hn]; decide
      constructor
      · rw [cf_L_f hb', cf_L_q (Classical.not_not.mp hn), h1]
      · simp only [cf_sz, cf_J]
        have hb2 : ¬ ((2 ^ m - 1).testBit e = true ∧ cf_L A B (2 ^ m - 1) e (A e) ≠ cf_L A B (2 ^ m - 1) e (B e)) := fun z => hn z.2
        rw [if_neg hb', if_neg hb2, h2]
        rfl
theorem cf_gr_F (A B : Nat → Nat) (m : Nat) : cf_Fp A B (cf_gr A B m) m := by
  intro e he te
  rw [cf_gr_bit A B m e he] at te
  rw [(cf_gr_L A B m e (by omega)).1]
  exact of_decide_eq_true te
def cf_mx (Z : Nat → Nat) (P : Nat → Bool) : Nat → Nat
  | 0 => 0
  | s + 1 => if cf_mx Z P s < Z s ∧ P s = true then Z s else cf_mx Z P s
theorem cf_mx_ub (Z : Nat → Nat) (P : Nat → Bool) (r : Nat) : ∀ k, (∀ s, s < k → P s = true → Z s ≤ r) → cf_mx Z P k ≤ r := by
  intro k
  induction k with
  | zero => intro _; exact Nat.zero_le _
  | succ k ih =>
    intro h
    simp only [cf_mx]
    split
    · rename_i z; exact h k (by omega) z.2
    · exact ih (fun s hs => h s (by omega))
theorem cf_mx_lb (Z : Nat → Nat) (P : Nat → Bool) : ∀ k s, s < k → P s = true → Z s ≤ cf_mx Z P k := by
  intro k
  induction k with
  | zero => intro s hs; omega
  | succ k ih =>
    intro s hs hp
    simp only [cf_mx]
    by_cases e : s = k
    · subst e
      split
      · exact Nat.le_refl _
      · rename_i z
        exact Nat.not_lt.mp (fun y => z ⟨y, hp⟩)
    · have h1 := ih s (by omega) hp
      split
      · rename_i z; omega
      · exact h1
theorem cf_mx_eq {Z Z' : Nat → Nat} {P P' : Nat → Bool} : ∀ k, (∀ s, s < k → Z s = Z' s ∧ P s = P' s) → cf_mx Z P k = cf_mx Z' P' k := by
  intro k
  induction k with
  | zero => intro _; rfl
  | succ k ih =>
    intro h
    simp only [cf_mx]
    rw [ih (fun s hs => h s (by omega)), (h k (by omega)).1, (h k (by omega)).2]
def cf_F (A B : Nat → Nat) (s m : Nat) : Bool := decide (cf_J A B s m = cf_sz s m)
theorem cf_F_t {A B : Nat → Nat} {s m : Nat} : cf_F A B s m = true ↔ cf_Fp A B s m := by
  unfold cf_F
  rw [decide_eq_true_iff]
  exact cf_J_F A B s m
theorem cf_rank (A B : Nat → Nat) (m : Nat) (hA : ∀ e, e < m → A e < 7) (hB : ∀ e, e < m → B e < 7) : cf_mx (fun s => cf_sz s m) (fun s => cf_F A B s m) (2 ^ m) = cf_J A B (2 ^ m - 1) m := by
  apply Nat.le_antisymm
  · exact cf_mx_ub _ _ _ _ (fun s _ hp => cf_rk_ub A B s m hA hB (cf_F_t.mp hp))
  · have h : cf_sz (cf_gr A B m) m ≤ cf_mx (fun s => cf_sz s m) (fun s => cf_F A B s m) (2 ^ m) := cf_mx_lb (fun s => cf_sz s m) (fun s => cf_F A B s m) (2 ^ m) (cf_gr A B m) (cf_mk_lt _ m) (cf_F_t.mpr (cf_gr_F A B m))
    rw [(cf_gr_L A B m m (Nat.le_refl m)).2] at h
    exact h
/-! ===== the best set ===== -/
def cf_best (T : Nat → Int32) (P : Nat → Bool) : Nat → Option Nat
  | 0 => none
  | s + 1 => match cf_best T P s with
    | none => if P s = true then some s else none
    | some b => if P s = true ∧ T b ≤ T s then some s else some b
theorem cf_best_eq {T : Nat → Int32} {P P' : Nat → Bool} : ∀ k, (∀ s, s < k → P s = P' s) → cf_best T P k = cf_best T P' k := by
  intro k
  induction k with
  | zero => intro _; rfl
  | succ k ih =>
    intro h
    simp only [cf_best]
    rw [ih (fun s hs => h s (by omega)), h k (by omega)]
theorem cf_best_lt {T : Nat → Int32} {P : Nat → Bool} : ∀ k b, cf_best T P k = some b → b < k := by
  intro k
  induction k with
  | zero => intro b h; cases h
  | succ k ih =>
    intro b h
    simp only [cf_best] at h
    cases hq : cf_best T P k with
    | none =>
      rw [hq] at h
      dsimp only at h
      split at h
      · cases h; omega
      · cases h
    | some c =>
      rw [hq] at h
      have := ih c hq
      dsimp only at h
      split at h
      · cases h; omega
      · cases h; omega
theorem cf_best_none {T : Nat → Int32} {P : Nat → Bool} : ∀ k, (∀ s, s < k → P s = false) → cf_best T P k = none := by
  intro k
  induction k with
  | zero => intro _; rfl
  | succ k ih =>
    intro h
    simp only [cf_best]
    rw [ih (fun s hs => h s (by omega))]
    dsimp only
    rw [h k (by omega)]
    rfl
theorem cf_best_some {T : Nat → Int32} {P : Nat → Bool} (h0 : P 0 = true) : ∀ k, ∃ b, cf_best T P (k + 1) = some b := by
  intro k
  induction k with
  | zero => exact ⟨0, by simp only [cf_best]; rw [if_pos h0]⟩
  | succ k ih =>
    obtain ⟨b, hb⟩ := ih
    have e : cf_best T P (k + 1 + 1) = if P (k + 1) = true ∧ T b ≤ T (k + 1) then some (k + 1) else some b := by
      show (match cf_best T P (k + 1) with
        | none => if P (k + 1) = true then some (k + 1) else none
        | some b => if P (k + 1) = true ∧ T b ≤ T (k + 1) then some (k + 1) else some b) = _
      rw [hb]
    rw [e]
    split
    · exact ⟨_, rfl⟩
    · exact ⟨_, rfl⟩
def cf_enc : Option Nat → Int32
  | none => -1
  | some b => nI b
/-! ===== quotas ===== -/
def cf_U (C : Nat → Nat) (s c : Nat) : Nat → Nat
  | 0 => 0
  | e + 1 => if s.testBit e = true ∧ C e = c then cf_U C s c e + 1 else cf_U C s c e
theorem cf_U_le (C : Nat → Nat) (s c : Nat) : ∀ e, cf_U C s c e ≤ e := by
  intro e
  induction e with
  | zero => exact Nat.le_refl 0
  | succ e ih => simp only [cf_U]; split <;> omega
def cf_q4 (C : Nat → Nat) (Q : Nat → Int32) (s m : Nat) : Nat → Bool
  | 0 => true
  | c + 1 => cf_q4 C Q s m c && decide (¬ Q c < nI (cf_U C s c m))
def cf_W (C : Nat → Nat) (Q : Nat → Int32) (s m : Nat) : Bool := cf_q4 C Q s m 4
def cf_G (A B C : Nat → Nat) (Q : Nat → Int32) (s m : Nat) : Bool := cf_F A B s m && cf_W C Q s m
def cf_b (b : Bool) : Int32 := if b = true then 1 else 0
end
section
/-! ===== pictures of the scratch arrays ===== -/
def cf_low (v : Nat) (a f : Nat → Int32) : Prop := ∀ w, w < v → a w = f w
theorem cf_low_0 (a f : Nat → Int32) : cf_low 0 a f := fun w h => absurd h (Nat.not_lt_zero w)
theorem cf_low_u {v : Nat} {a f : Nat → Int32} (h : cf_low v a f) {x : Int32} (hx : x = f v) : cf_low (v + 1) (upd a v x) f := by
  intro w hw
  by_cases e : w = v
  · subst e; rw [pk_us, hx]
  · rw [pk_un e]; exact h w (by omega)
def cf_pic (N : Nat) (tr : Nat → Int32) (L : Nat → Nat) : Prop := ∀ w, w < N → tr w = nI (L w)
def cf_mid (N v : Nat) (tr : Nat → Int32) (L M : Nat → Nat) : Prop := ∀ w, w < N → tr w = nI (if w < v then M w else L w)
theorem cf_mid_0 {N : Nat} {tr : Nat → Int32} {L : Nat → Nat} (M : Nat → Nat) (h : cf_pic N tr L) : cf_mid N 0 tr L M := by
  intro w hw
  rw [h w hw, if_neg (Nat.not_lt_zero w)]
theorem cf_mid_N {N : Nat} {tr : Nat → Int32} {L M : Nat → Nat} (h : cf_mid N N tr L M) : cf_pic N tr M := by
  intro w hw
  rw [h w hw, if_pos hw]
theorem cf_mid_v {N v : Nat} {tr : Nat → Int32} {L M : Nat → Nat} (h : cf_mid N v tr L M) (hv : v < N) : tr v = nI (L v) := by
  rw [h v hv, if_neg (Nat.lt_irrefl v)]
theorem cf_mid_k {N v : Nat} {tr : Nat → Int32} {L M : Nat → Nat} (h : cf_mid N v tr L M) (hv : M v = L v) : cf_mid N (v + 1) tr L M := by
  intro w hw
  rw [h w hw]
  by_cases e : w = v
  · subst e; rw [if_neg (Nat.lt_irrefl w), if_pos (Nat.lt_succ_self w), hv]
  · by_cases q : w < v
    · rw [if_pos q, if_pos (by omega)]
    · rw [if_neg q, if_neg (by omega)]
theorem cf_mid_u {N v : Nat} {tr : Nat → Int32} {L M : Nat → Nat} (h : cf_mid N v tr L M) {x : Int32} (hx : x = nI (M v)) : cf_mid N (v + 1) (upd tr v x) L M := by
  intro w hw
  by_cases e : w = v
  · subst e; rw [pk_us, hx, if_pos (Nat.lt_succ_self w)]
  · rw [pk_un e, h w hw]
    by_cases q : w < v
    · rw [if_pos q, if_pos (by omega)]
    · rw [if_neg q, if_neg (by omega)]
theorem cf_ren_t {L : Nat → Nat} {g k v : Nat} (h : L v = g) : cf_ren L g k v = k := if_pos h
theorem cf_ren_f {L : Nat → Nat} {g k v : Nat} (h : ¬ L v = g) : cf_ren L g k v = L v := if_neg h
def cf_usd (us : Nat → Int32) (C : Nat → Nat) (s e : Nat) : Prop := ∀ c, c < 4 → us c = nI (cf_U C s c e)
theorem cf_usd_0 {us : Nat → Int32} (C : Nat → Nat) (s : Nat) (h : cf_low 4 us (fun _ => 0)) : cf_usd us C s 0 := fun c hc => h c hc
theorem cf_usd_f {us : Nat → Int32} {C : Nat → Nat} {s e : Nat} (h : cf_usd us C s e) (hb : ¬ s.testBit e = true) : cf_usd us C s (e + 1) := by
  intro c hc
  have hn : ¬ (s.testBit e = true ∧ C e = c) := fun z => hb z.1
  rw [h c hc]
  simp only [cf_U]
  rw [if_neg hn]
theorem cf_usd_t {us : Nat → Int32} {C : Nat → Nat} {s e : Nat} (h : cf_usd us C s e) (hb : s.testBit e = true) (hC : C e < 4) {x : Int32} (hx : x = us (C e) + 1) : cf_usd (upd us (C e) x) C s (e + 1) := by
  intro c hc
  simp only [cf_U]
  by_cases q : C e = c
  · subst q
    rw [pk_us, hx, if_pos ⟨hb, rfl⟩, h _ hC, nI_1]
  · have hn : ¬ (s.testBit e = true ∧ C e = c) := fun z => q z.2
    rw [pk_un (fun z => q z.symm), if_neg hn]
    exact h c hc
theorem cf_F_0 (A B : Nat → Nat) (m : Nat) : cf_F A B 0 m = true := by
  rw [cf_F_t]
  intro e _ te
  rw [Nat.zero_testBit] at te
  cases te
theorem cf_U_0 (C : Nat → Nat) (c : Nat) : ∀ m, cf_U C 0 c m = 0 := by
  intro m
  induction m with
  | zero => rfl
  | succ m ih =>
    have hn : ¬ ((0 : Nat).testBit m = true ∧ C m = c) := fun z => by
      have := z.1
      rw [Nat.zero_testBit] at this
      cases this
    simp only [cf_U]
    rw [if_neg hn, ih]
theorem cf_q4_0 (C : Nat → Nat) (Q : Nat → Int32) (m : Nat) : ∀ k, (∀ c, c < k → ¬ Q c < 0) → cf_q4 C Q 0 m k = true := by
  intro k
  induction k with
  | zero => intro _; rfl
  | succ k ih =>
    intro h
    have h1 : ¬ Q k < nI (cf_U C 0 k m) := by rw [cf_U_0]; exact h k (by omega)
    simp only [cf_q4]
    rw [ih (fun c hc => h c (by omega)), decide_eq_true h1]
    rfl
theorem cf_q4_f (C : Nat → Nat) (Q : Nat → Int32) (s m c : Nat) (h : Q c < nI (cf_U C s c m)) : ∀ k, c < k → cf_q4 C Q s m k = false := by
  intro k
  induction k with
  | zero => intro hc; omega
  | succ k ih =>
    intro hc
    simp only [cf_q4]
    by_cases e : c = k
    · subst e
      rw [decide_eq_false (fun z => z h), Bool.and_false]
    · rw [ih (by omega), Bool.false_and]
theorem cf_q4_t {C : Nat → Nat} {Q : Nat → Int32} {s m c : Nat} (h : ¬ Q c < nI (cf_U C s c m)) (hq : cf_q4 C Q s m c = true) : cf_q4 C Q s m (c + 1) = true := by
  simp only [cf_q4]
  rw [hq, decide_eq_true h]
  rfl
theorem cf_q4_eq {C : Nat → Nat} {Q Q' : Nat → Int32} {s m : Nat} : ∀ k, (∀ c, c < k → Q c = Q' c) → cf_q4 C Q s m k = cf_q4 C Q' s m k := by
  intro k
  induction k with
  | zero => intro _; rfl
  | succ k ih =>
    intro h
    simp only [cf_q4]
    rw [ih (fun c hc => h c (by omega)), h k (by omega)]
theorem cf_G_0 (A B C : Nat → Nat) (Q : Nat → Int32) (m : Nat) (hQ : ∀ c, c < 4 → ¬ Q c < 0) : cf_G A B C Q 0 m = true := by
  unfold cf_G cf_W
  rw [cf_F_0, cf_q4_0 C Q m 4 hQ]
  rfl
theorem cf_swl {s f e m : Nat} (hs : s < 2 ^ m) (hf : f < m) (he : e < m) : (s ^^^ 2 ^ f) ||| 2 ^ e < 2 ^ m :=
  Nat.or_lt_two_pow (Nat.xor_lt_two_pow hs (Nat.pow_lt_pow_right (by decide) hf)) (Nat.pow_lt_pow_right (by decide) he)
/-! ===== which sets are asked for; replacing; spares ===== -/
def cf_PX (G : Nat → Bool) (m : Nat) (nd br lo hi : Int32) (s : Nat) : Bool := decide (nI s &&& nd = nd) && (decide (nI s &&& br = 0) && (decide (lo ≤ nI (cf_sz s m)) && (decide (nI (cf_sz s m) ≤ hi) && G s)))
def cf_PY (G : Nat → Bool) (k nd br : Int32) (s : Nat) : Bool := decide (nI s &&& nd = nd) && (decide (nI s &&& br = 0) && (decide (k < 0 ∨ nI (cf_sz s 12) = k) && G s))
theorem cf_PXY_a (G : Nat → Bool) {m : Nat} (hm : m ≤ 12) (nd br : Int32) {s : Nat} : cf_PX G m nd br 0 12 s = cf_PY G (-1) nd br s := by
  have hle := cf_sz_le s m
  have h1 : (0 : Int32) ≤ nI (cf_sz s m) := nI_pos' (by omega)
  have h2 : nI (cf_sz s m) ≤ 12 := nI_le (b := 12) (by omega) (by decide)
  have h3 : (-1 : Int32) < 0 ∨ nI (cf_sz s 12) = -1 := Or.inl (by decide)
  unfold cf_PX cf_PY
  rw [decide_eq_true h1, decide_eq_true h2, decide_eq_true h3, Bool.true_and, Bool.true_and]
theorem cf_PXY_k (G : Nat → Bool) {m : Nat} (hm : m ≤ 12) {k : Int32} (hk : ¬ k < 0) (nd br : Int32) {s : Nat} (hs : s < 2 ^ m) : cf_PX G m nd br k k s = cf_PY G k nd br s := by
  unfold cf_PX cf_PY
  rw [cf_sz12 hs hm]
  by_cases e : nI (cf_sz s m) = k
  · rw [decide_eq_true (show k ≤ nI (cf_sz s m) by rw [e]; exact Int32.le_refl k), decide_eq_true (show nI (cf_sz s m) ≤ k by rw [e]; exact Int32.le_refl k), decide_eq_true (show k < 0 ∨ nI (cf_sz s m) = k from Or.inr e), Bool.true_and, Bool.true_and]
  · rw [decide_eq_false (show ¬ (k < 0 ∨ nI (cf_sz s m) = k) from fun z => z.elim hk e), Bool.false_and]
    by_cases h1 : k ≤ nI (cf_sz s m)
    · have h2 : ¬ nI (cf_sz s m) ≤ k := fun h2 => e (Int32.le_antisymm h2 h1)
      rw [decide_eq_false h2, Bool.false_and, Bool.and_false]
    · rw [decide_eq_false h1, Bool.false_and]
theorem cf_PX_n (G : Nat → Bool) {m : Nat} (hm : m ≤ 12) {k : Int32} (hk : k < 0) (nd br : Int32) (s : Nat) : cf_PX G m nd br k k s = false := by
  have hle := cf_sz_le s m
  have h1 : (0 : Int32) ≤ nI (cf_sz s m) := nI_pos' (by omega)
  have h2 : ¬ nI (cf_sz s m) ≤ k := fun z => Int32.not_le.mpr hk (Int32.le_trans h1 z)
  unfold cf_PX
  rw [decide_eq_false h2, Bool.false_and, Bool.and_false, Bool.and_false, Bool.and_false]
def cf_rep (G : Nat → Bool) (s e : Nat) : Nat → Bool
  | 0 => false
  | f + 1 => cf_rep G s e f || (s.testBit f && G ((s ^^^ 2 ^ f) ||| 2 ^ e))
theorem cf_rep_t (G : Nat → Bool) (s e f : Nat) (h1 : s.testBit f = true) (h2 : G ((s ^^^ 2 ^ f) ||| 2 ^ e) = true) : ∀ k, f < k → cf_rep G s e k = true := by
  intro k
  induction k with
  | zero => intro h; omega
  | succ k ih =>
    intro h
    simp only [cf_rep]
    by_cases q : f = k
    · subst q; rw [h1, h2]; simp
    · rw [ih (by omega)]; rfl
theorem cf_rep_f {G : Nat → Bool} {s e f : Nat} (h : cf_rep G s e f = false) (h2 : ¬ (s.testBit f = true ∧ G ((s ^^^ 2 ^ f) ||| 2 ^ e) = true)) : cf_rep G s e (f + 1) = false := by
  simp only [cf_rep]
  rw [h, Bool.false_or]
  cases h3 : s.testBit f with
  | false => rfl
  | true =>
    cases h4 : G ((s ^^^ 2 ^ f) ||| 2 ^ e) with
    | false => rfl
    | true => exact absurd ⟨h3, h4⟩ h2
def cf_spc (G : Nat → Bool) (s m : Nat) : Nat → Nat
  | 0 => 0
  | e + 1 => if ¬ s.testBit e = true ∧ cf_rep G s e m = true then cf_spc G s m e + 1 else cf_spc G s m e
theorem cf_spc_le (G : Nat → Bool) (s m : Nat) : ∀ e, cf_spc G s m e ≤ e := by
  intro e
  induction e with
  | zero => exact Nat.le_refl 0
  | succ e ih => simp only [cf_spc]; split <;> omega
def cf_sp (G : Nat → Bool) (m : Nat) : Option Nat → Nat
  | none => 0
  | some s => cf_spc G s m m
/-! ===== what holds of the shared state ===== -/
def cf_OK (n m : Nat) (fr ft co we qs : Nat → Int32) : Prop := (2 ≤ n ∧ n ≤ 7) ∧ m ≤ 12 ∧ (∀ e, e < m → vp_in (fr e) 7) ∧ (∀ e, e < m → vp_in (ft e) 7) ∧ (∀ e, e < m → vp_in (co e) 4) ∧ (∀ e, e < m → -20 ≤ (we e).toInt ∧ (we e).toInt ≤ 50) ∧ (∀ c, c < 4 → ¬ qs c < 0)
def cf_at (a : Nat → Int32) : Nat → Nat := fun e => (a e).toNatClampNeg
theorem cf_at_lt {a : Nat → Int32} {n m : Nat} (hn : n ≤ 7) (h : ∀ e, e < m → vp_in (a e) n) : ∀ e, e < m → cf_at a e < 7 := by
  intro e he
  have := (cf_vp (h e he) (by omega)).1
  unfold cf_at
  omega
theorem cf_at_eq {a : Nat → Int32} {n e : Nat} (hn : n ≤ 7) (h : vp_in (a e) n) : a e = nI (cf_at a e) := (cf_vp h (by omega)).2
theorem cf_vp_le {x : Int32} {n N : Nat} (h : vp_in x n) (hn : n ≤ N) : vp_in x N := by
  rw [vp_in_iff] at h ⊢
  omega
theorem cf_pw0 (m : Nat) : 0 < 2 ^ m := Nat.two_pow_pos m
theorem cf_allI : ∀ m, m < 13 → ((1 : Int32) <<< (nI m &&& 31)) - 1 = nI (2 ^ m - 1) := by decide +kernel
/-! ===== steps of the pure functions ===== -/
theorem cf_sz_t {s e : Nat} (h : s.testBit e = true) : cf_sz s (e + 1) = cf_sz s e + 1 := by simp only [cf_sz]; rw [if_pos h]
theorem cf_sz_f {s e : Nat} (h : ¬ s.testBit e = true) : cf_sz s (e + 1) = cf_sz s e := by simp only [cf_sz]; rw [if_neg h]; rfl
theorem cf_tot_t {W : Nat → Int32} {s e : Nat} (h : s.testBit e = true) : cf_tot W s (e + 1) = cf_tot W s e + W e := by simp only [cf_tot]; rw [if_pos h]
theorem cf_tot_f {W : Nat → Int32} {s e : Nat} (h : ¬ s.testBit e = true) : cf_tot W s (e + 1) = cf_tot W s e := by simp only [cf_tot]; rw [if_neg h]
theorem cf_J_t {A B : Nat → Nat} {s e : Nat} (h : s.testBit e = true) (hn : ¬ cf_L A B s e (A e) = cf_L A B s e (B e)) : cf_J A B s (e + 1) = cf_J A B s e + 1 := by
  simp only [cf_J]
  rw [if_pos ⟨h, hn⟩]
theorem cf_J_f {A B : Nat → Nat} {s e : Nat} (h : ¬ s.testBit e = true) : cf_J A B s (e + 1) = cf_J A B s e := by
  have hn : ¬ (s.testBit e = true ∧ cf_L A B s e (A e) ≠ cf_L A B s e (B e)) := fun z => h z.1
  simp only [cf_J]
  rw [if_neg hn]
theorem cf_J_q {A B : Nat → Nat} {s e : Nat} (h : cf_L A B s e (A e) = cf_L A B s e (B e)) : cf_J A B s (e + 1) = cf_J A B s e := by
  have hn : ¬ (s.testBit e = true ∧ cf_L A B s e (A e) ≠ cf_L A B s e (B e)) := fun z => z.2 h
  simp only [cf_J]
  rw [if_neg hn]
theorem cf_bb {A B : Prop} (b : Bool) (ht : b = true → B) (hf : b = false → A) : (cf_b b = 0 → A) ∧ (¬ cf_b b = 0 → B) := by
  cases b with
  | false => exact br_t rfl (hf rfl)
  | true => exact br_f (by decide) (ht rfl)
def cf_bw (T : Nat → Int32) : Option Nat → Int32
  | none => -10000
  | some s => T s
theorem cf_best_take {T : Nat → Int32} {P : Nat → Bool} {k : Nat} (hp : P k = true) (ht : ¬ T k < cf_bw T (cf_best T P k)) : cf_best T P (k + 1) = some k := by
  simp only [cf_best]
  cases hq : cf_best T P k with
  | none => dsimp only; rw [if_pos hp]
  | some b =>
    rw [hq] at ht
    dsimp only
    rw [if_pos ⟨hp, Int32.not_lt.mp ht⟩]
theorem cf_best_skip {T : Nat → Int32} {P : Nat → Bool} {k : Nat} (hl : (-10000 : Int32) ≤ T k) (h : P k = true → T k < cf_bw T (cf_best T P k)) : cf_best T P (k + 1) = cf_best T P k := by
  simp only [cf_best]
  cases hq : cf_best T P k with
  | none =>
    dsimp only
    rw [if_neg]
    intro hp
    have := h hp
    rw [hq] at this
    exact Int32.not_lt.mpr hl this
  | some b =>
    dsimp only
    rw [if_neg]
    rintro ⟨hp, ht⟩
    have := h hp
    rw [hq] at this
    exact Int32.not_lt.mpr ht this
theorem cf_mx_t {Z : Nat → Nat} {P : Nat → Bool} {k : Nat} (h : cf_mx Z P k < Z k) (hp : P k = true) : cf_mx Z P (k + 1) = Z k := by
  simp only [cf_mx]
  rw [if_pos ⟨h, hp⟩]
theorem cf_mx_f {Z : Nat → Nat} {P : Nat → Bool} {k : Nat} (h : ¬ (cf_mx Z P k < Z k ∧ P k = true)) : cf_mx Z P (k + 1) = cf_mx Z P k := by
  simp only [cf_mx]
  rw [if_neg h]
theorem cf_spc_t {G : Nat → Bool} {s m e : Nat} (h : ¬ s.testBit e = true) (hr : cf_rep G s e m = true) : cf_spc G s m (e + 1) = cf_spc G s m e + 1 := by
  simp only [cf_spc]
  rw [if_pos ⟨h, hr⟩]
theorem cf_spc_f {G : Nat → Bool} {s m e : Nat} (h : ¬ (¬ s.testBit e = true ∧ cf_rep G s e m = true)) : cf_spc G s m (e + 1) = cf_spc G s m e := by
  simp only [cf_spc]
  rw [if_neg h]
end
section
/-! ===== X: contains, sizeOf, weightOf ===== -/
theorem xw_con_t {post : Int32 → Prop} {u : SX} {s e : Nat} (hs : s < 4096) (he : e < 12) (hb : s.testBit e = true) (hp : post 1) : wpX_contains post u (nI s) (nI e) := by
  obtain ⟨a1, a2, a3, a4, a5, a6, a7, a8, a9⟩ := u
  exact br_t (cf_bit_t (by omega) (by omega) hb) hp
theorem xw_con_f {post : Int32 → Prop} {u : SX} {s e : Nat} (hs : s < 4096) (he : e < 12) (hb : ¬ s.testBit e = true) (hp : post 0) : wpX_contains post u (nI s) (nI e) := by
  obtain ⟨a1, a2, a3, a4, a5, a6, a7, a8, a9⟩ := u
  exact br_f (by rw [cf_bit_f (by omega) (by omega) hb]; decide) hp
theorem xw_con_m {post : Int32 → Prop} {u : SX} {e : Nat} (he : e < 12) (hp : post 1) : wpX_contains post u (-1) (nI e) := by
  obtain ⟨a1, a2, a3, a4, a5, a6, a7, a8, a9⟩ := u
  exact br_t (cf_m1b e (by omega)) hp
theorem xw_sz_l {post : Int32 → Prop} {s m : Nat} (hs : s < 4096) (hm : m ≤ 12) (vn : Int32) (fr ft co we qs tr us : Nat → Int32) (hp : post (nI (cf_sz s m))) : ∀ d e n, e + d = m → d < n → wX_sizeOf_4 post (nI s) vn (nI m) fr ft co we qs tr us n (nI (cf_sz s e)) (nI e) := by
  intro d
  induction d with
  | zero =>
    intro e n he hn
    obtain ⟨n, rfl⟩ : ∃ k, n = k + 1 := ⟨n - 1, by omega⟩
    have e1 : e = m := by omega
    rw [e1]
    exact br_t (nI_le (Nat.le_refl _) (by omega)) hp
  | succ d ih =>
    intro e n he hn
    obtain ⟨n, rfl⟩ : ∃ k, n = k + 1 := ⟨n - 1, by omega⟩
    have h := ih (e + 1) n (by omega) (by omega)
    refine br_f (nI_ge (by omega) (by omega)) ?_
    by_cases hb : s.testBit e = true
    · rw [cf_sz_t hb] at h
      refine xw_con_t hs (by omega) hb ?_
      refine br_f (by decide) ?_
      exact nm_r (nI_1 _) (nm_r (nI_1 _) h)
    · rw [cf_sz_f hb] at h
      refine xw_con_f hs (by omega) hb ?_
      refine br_t rfl ?_
      exact nm_r (nI_1 _) h
theorem xw_size {post : Int32 → Prop} {s m : Nat} (hs : s < 4096) (hm : m ≤ 12) {vn : Int32} {fr ft co we qs tr us : Nat → Int32} (hp : post (nI (cf_sz s m))) : wpX_sizeOf post (vn, nI m, fr, ft, co, we, qs, tr, us) (nI s) :=
  ⟨m + 1, xw_sz_l hs hm vn fr ft co we qs tr us hp m 0 (m + 1) (by omega) (by omega)⟩
theorem xw_wt_l {post : Int32 → Prop} {s m : Nat} (hs : s < 4096) (hm : m ≤ 12) (vn : Int32) (fr ft co we qs tr us : Nat → Int32) (hp : post (cf_tot we s m)) : ∀ d e n, e + d = m → d < n → wX_weightOf_4 post (nI s) vn (nI m) fr ft co we qs tr us n (cf_tot we s e) (nI e) := by
  intro d
  induction d with
  | zero =>
    intro e n he hn
    obtain ⟨n, rfl⟩ : ∃ k, n = k + 1 := ⟨n - 1, by omega⟩
    have e1 : e = m := by omega
    rw [e1]
    exact br_t (nI_le (Nat.le_refl _) (by omega)) hp
  | succ d ih =>
    intro e n he hn
    obtain ⟨n, rfl⟩ : ∃ k, n = k + 1 := ⟨n - 1, by omega⟩
    have h := ih (e + 1) n (by omega) (by omega)
    have hc : (nI e).toNatClampNeg = e := nI_clamp (by omega)
    refine br_f (nI_ge (by omega) (by omega)) ?_
    by_cases hb : s.testBit e = true
    · rw [cf_tot_t hb] at h
      refine xw_con_t hs (by omega) hb ?_
      refine br_f (by decide) ?_
      exact ⟨vp_in_nI (by omega) (by decide), nm_r (e' := cf_tot we s e + we e) (by rw [hc]) (nm_r (nI_1 _) h)⟩
    · rw [cf_tot_f hb] at h
      refine xw_con_f hs (by omega) hb ?_
      refine br_t rfl ?_
      exact nm_r (nI_1 _) h
theorem xw_wt {post : Int32 → Prop} {s m : Nat} (hs : s < 4096) (hm : m ≤ 12) {vn : Int32} {fr ft co we qs tr us : Nat → Int32} (hp : post (cf_tot we s m)) : wpX_weightOf post (vn, nI m, fr, ft, co, we, qs, tr, us) (nI s) :=
  ⟨m + 1, xw_wt_l hs hm vn fr ft co we qs tr us hp m 0 (m + 1) (by omega) (by omega)⟩
theorem xw_won {post : Int32 → Prop} {s m : Nat} (hs : s < 4096) (hm : m ≤ 12) {vn : Int32} {fr ft co we qs tr us : Nat → Int32} (hp : post (cf_tot we s m)) : wpX_weightOrNone post (vn, nI m, fr, ft, co, we, qs, tr, us) (nI s) := by
  refine br_f ?_ ?_
  · intro z
    have h1 := nI_pos (n := s) (by omega)
    rw [z] at h1
    exact h1 (by decide)
  · exact xw_wt hs hm hp
/-! ===== X: renameTree, treesJoined ===== -/
theorem xw_ren_l {post : SX → Prop} {vn mm : Int32} {fr ft co we qs us : Nat → Int32} {L : Nat → Nat} {g k : Nat} (hL : ∀ v, v < 7 → L v < 7) (hg : g < 7) (hp : ∀ tr, cf_pic 7 tr (cf_ren L g k) → post (vn, mm, fr, ft, co, we, qs, tr, us)) : ∀ d v n tr, v + d = 7 → d < n → cf_mid 7 v tr L (cf_ren L g k) → wX_renameTree_2 post (nI g) (nI k) vn mm n (nI v) fr ft co we qs tr us := by
  intro d
  induction d with
  | zero =>
    intro v n tr he hn h
    obtain ⟨n, rfl⟩ : ∃ k, n = k + 1 := ⟨n - 1, by omega⟩
    have e1 : v = 7 := by omega
    subst e1
    exact br_t (nI_le (a := 7) (b := 7) (Nat.le_refl _) (by decide)) (hp tr (cf_mid_N h))
  | succ d ih =>
    intro v n tr he hn h
    obtain ⟨n, rfl⟩ : ∃ k, n = k + 1 := ⟨n - 1, by omega⟩
    have hc : (nI v).toNatClampNeg = v := nI_clamp (by omega)
    have hv : tr (nI v).toNatClampNeg = nI (L v) := by rw [hc]; exact cf_mid_v h (by omega)
    have hi : vp_in (nI v) 7 := vp_in_nI (by omega) (by decide)
    have hl := hL v (by omega)
    refine br_f (nI_ge (b := 7) (by omega) (by decide)) ⟨hi, ?_⟩
    by_cases q : L v = g
    · refine br_t (by rw [hv, q]) ⟨hi, ?_⟩
      exact nm_r (e' := upd tr v (nI k)) (by rw [hc]) (nm_r (nI_1 v) (ih (v + 1) n _ (by omega) (by omega) (cf_mid_u h (by rw [cf_ren_t q]))))
    · refine br_f (by rw [hv, nI_eq (by omega) (by omega)]; exact q) ?_
      exact nm_r (nI_1 v) (ih (v + 1) n _ (by omega) (by omega) (cf_mid_k h (cf_ren_f q)))
theorem xw_ren {post : SX → Prop} {vn mm : Int32} {fr ft co we qs tr us : Nat → Int32} {L : Nat → Nat} {g k : Nat} (hL : ∀ v, v < 7 → L v < 7) (hg : g < 7) (h : cf_pic 7 tr L) (hp : ∀ tr, cf_pic 7 tr (cf_ren L g k) → post (vn, mm, fr, ft, co, we, qs, tr, us)) : wpX_renameTree post (vn, mm, fr, ft, co, we, qs, tr, us) (nI g) (nI k) :=
  ⟨8, xw_ren_l hL hg hp 7 0 8 tr (by omega) (by omega) (cf_mid_0 _ h)⟩
theorem xw_tj_l {post : Int32 → SX → Prop} {s m : Nat} {vn : Int32} {fr ft co we qs us : Nat → Int32} (hs : s < 4096) (hm : m ≤ 12) (hfr : ∀ e, e < m → vp_in (fr e) 7) (hft : ∀ e, e < m → vp_in (ft e) 7) (hp : ∀ tr, post (nI (cf_J (cf_at fr) (cf_at ft) s m)) (vn, nI m, fr, ft, co, we, qs, tr, us)) : ∀ d e n tr, e + d = m → d < n → cf_pic 7 tr (cf_L (cf_at fr) (cf_at ft) s e) → wX_treesJoined_25 post (nI s) n (nI (cf_J (cf_at fr) (cf_at ft) s e)) (nI e) vn (nI m) fr ft co we qs tr us := by
  intro d
  induction d with
  | zero =>
    intro e n tr he hn h
    obtain ⟨n, rfl⟩ : ∃ k, n = k + 1 := ⟨n - 1, by omega⟩
    have e1 : e = m := by omega
    rw [e1]
    exact br_t (nI_le (Nat.le_refl _) (by omega)) (hp tr)
  | succ d ih =>
    intro e n tr he hn h
    obtain ⟨n, rfl⟩ : ∃ k, n = k + 1 := ⟨n - 1, by omega⟩
    have hc : (nI e).toNatClampNeg = e := nI_clamp (by omega)
    have hi : vp_in (nI e) 12 := vp_in_nI (by omega) (by decide)
    have hA := cf_at_lt (Nat.le_refl 7) hfr
    have hB := cf_at_lt (Nat.le_refl 7) hft
    have hLa := cf_L_lt (cf_at fr) (cf_at ft) s m hA e (by omega)
    have ih' := fun tr' => ih (e + 1) n tr' (by omega) (by omega)
    refine br_f (nI_ge (by omega) (by omega)) ⟨hi, by rw [hc]; exact hfr e (by omega), ?_⟩
    refine nm_r (e' := nI (cf_L (cf_at fr) (cf_at ft) s e (cf_at fr e))) (by rw [hc]; exact h _ (hA e (by omega))) ?_
    refine ⟨hi, by rw [hc]; exact hft e (by omega), ?_⟩
    refine nm_r (e' := nI (cf_L (cf_at fr) (cf_at ft) s e (cf_at ft e))) (by rw [hc]; exact h _ (hB e (by omega))) ?_
    by_cases hb : s.testBit e = true
    · refine xw_con_t hs (by omega) hb ?_
      refine br_f (by decide) ?_
      by_cases q : cf_L (cf_at fr) (cf_at ft) s e (cf_at fr e) = cf_L (cf_at fr) (cf_at ft) s e (cf_at ft e)
      · rw [cf_J_q q, cf_L_q q] at ih'
        exact br_t (congrArg nI q) (nm_r (nI_1 _) (ih' tr h))
      · have h1 := hLa _ (hA e (by omega))
        have h2 := hLa _ (hB e (by omega))
        rw [cf_J_t hb q, cf_L_t hb] at ih'
        refine br_f (by rw [nI_eq (by omega) (by omega)]; exact q) ?_
        refine xw_ren hLa h2 h (fun tr' h' => ?_)
        exact nm_r (nI_1 _) (nm_r (nI_1 _) (ih' tr' h'))
    · rw [cf_J_f hb, cf_L_f hb] at ih'
      refine xw_con_f hs (by omega) hb ?_
      exact br_t rfl (nm_r (nI_1 _) (ih' tr h))
theorem xw_tj_0 {post : Int32 → SX → Prop} {s m : Nat} {vn : Int32} {fr ft co we qs us : Nat → Int32} (hs : s < 4096) (hm : m ≤ 12) (hfr : ∀ e, e < m → vp_in (fr e) 7) (hft : ∀ e, e < m → vp_in (ft e) 7) (hp : ∀ tr, post (nI (cf_J (cf_at fr) (cf_at ft) s m)) (vn, nI m, fr, ft, co, we, qs, tr, us)) : ∀ d v n tr, v + d = 7 → d < n → cf_low v tr nI → wX_treesJoined_2 post (nI s) vn (nI m) n (nI v) fr ft co we qs tr us := by
  intro d
  induction d with
  | zero =>
    intro v n tr he hn h
    obtain ⟨n, rfl⟩ : ∃ k, n = k + 1 := ⟨n - 1, by omega⟩
    have e1 : v = 7 := by omega
    subst e1
    exact br_t (nI_le (a := 7) (b := 7) (Nat.le_refl _) (by decide)) ⟨m + 1, xw_tj_l hs hm hfr hft hp m 0 (m + 1) tr (by omega) (by omega) h⟩
  | succ d ih =>
    intro v n tr he hn h
    obtain ⟨n, rfl⟩ : ∃ k, n = k + 1 := ⟨n - 1, by omega⟩
    have hc : (nI v).toNatClampNeg = v := nI_clamp (by omega)
    have hi : vp_in (nI v) 7 := vp_in_nI (by omega) (by decide)
    refine br_f (nI_ge (b := 7) (by omega) (by decide)) ⟨hi, ?_⟩
    exact nm_r (e' := upd tr v (nI v)) (by rw [hc]) (nm_r (nI_1 v) (ih (v + 1) n _ (by omega) (by omega) (cf_low_u h rfl)))
theorem xw_tj {post : Int32 → SX → Prop} {s m : Nat} {vn : Int32} {fr ft co we qs tr us : Nat → Int32} (hs : s < 4096) (hm : m ≤ 12) (hfr : ∀ e, e < m → vp_in (fr e) 7) (hft : ∀ e, e < m → vp_in (ft e) 7) (hp : ∀ tr, post (nI (cf_J (cf_at fr) (cf_at ft) s m)) (vn, nI m, fr, ft, co, we, qs, tr, us)) : wpX_treesJoined post (vn, nI m, fr, ft, co, we, qs, tr, us) (nI s) :=
  ⟨8, xw_tj_0 hs hm hfr hft hp 7 0 8 tr (by omega) (by omega) (cf_low_0 _ _)⟩
/-! ===== X: keepsQuotas, isGoodSet ===== -/
theorem xw_kq3 {post : Int32 → SX → Prop} {s m : Nat} {vn : Int32} {fr ft co we qs tr us : Nat → Int32} (hu : cf_usd us (cf_at co) s m) (hp : post (cf_b (cf_W (cf_at co) qs s m)) (vn, nI m, fr, ft, co, we, qs, tr, us)) : ∀ d c n, c + d = 4 → d < n → cf_q4 (cf_at co) qs s m c = true → wX_keepsQuotas_62 post vn (nI m) fr ft co we qs tr us n (nI c) := by
  intro d
  induction d with
  | zero =>
    intro c n he hn h
    obtain ⟨n, rfl⟩ : ∃ k, n = k + 1 := ⟨n - 1, by omega⟩
    have e1 : c = 4 := by omega
    subst e1
    have e2 : cf_W (cf_at co) qs s m = true := h
    rw [e2] at hp
    exact br_t (nI_le (a := 4) (b := 4) (Nat.le_refl _) (by decide)) hp
  | succ d ih =>
    intro c n he hn h
    obtain ⟨n, rfl⟩ : ∃ k, n = k + 1 := ⟨n - 1, by omega⟩
    have hc : (nI c).toNatClampNeg = c := nI_clamp (by omega)
    have hi : vp_in (nI c) 4 := vp_in_nI (by omega) (by decide)
    refine br_f (nI_ge (b := 4) (by omega) (by decide)) ⟨hi, hi, ?_⟩
    by_cases q : qs c < nI (cf_U (cf_at co) s c m)
    · have e2 : cf_W (cf_at co) qs s m = false := cf_q4_f _ _ _ _ c q 4 (by omega)
      rw [e2] at hp
      exact br_f (by rw [hc, hu c (by omega)]; exact Int32.not_le.mpr q) hp
    · exact br_t (by rw [hc, hu c (by omega)]; exact Int32.not_lt.mp q) (nm_r (nI_1 c) (ih (c + 1) n (by omega) (by omega) (cf_q4_t q h)))
theorem xw_kq2 {post : Int32 → SX → Prop} {s m : Nat} {vn : Int32} {fr ft co we qs tr : Nat → Int32} (hs : s < 4096) (hm : m ≤ 12) (hco : ∀ e, e < m → vp_in (co e) 4) (hp : ∀ us, post (cf_b (cf_W (cf_at co) qs s m)) (vn, nI m, fr, ft, co, we, qs, tr, us)) : ∀ d e n us, e + d = m → d < n → cf_usd us (cf_at co) s e → wX_keepsQuotas_22 post (nI s) vn (nI m) n (nI e) fr ft co we qs tr us := by
  intro d
  induction d with
  | zero =>
    intro e n us he hn h
    obtain ⟨n, rfl⟩ : ∃ k, n = k + 1 := ⟨n - 1, by omega⟩
    have e1 : e = m := by omega
    rw [e1] at h ⊢
    exact br_t (nI_le (Nat.le_refl _) (by omega)) ⟨5, xw_kq3 h (hp us) 4 0 5 (by omega) (by omega) rfl⟩
  | succ d ih =>
    intro e n us he hn h
    obtain ⟨n, rfl⟩ : ∃ k, n = k + 1 := ⟨n - 1, by omega⟩
    have hc : (nI e).toNatClampNeg = e := nI_clamp (by omega)
    have hi : vp_in (nI e) 12 := vp_in_nI (by omega) (by decide)
    have h4 := hco e (by omega)
    refine br_f (nI_ge (by omega) (by omega)) ?_
    by_cases hb : s.testBit e = true
    · refine xw_con_t hs (by omega) hb ?_
      refine br_f (by decide) ⟨hi, by rw [hc]; exact h4, by rw [hc]; exact h4, ?_⟩
      exact nm_r (e' := upd us (cf_at co e) (us (cf_at co e) + 1)) (by rw [hc]; rfl) (nm_r (nI_1 e) (ih (e + 1) n _ (by omega) (by omega) (cf_usd_t h hb (cf_vp h4 (by decide)).1 rfl)))
    · refine xw_con_f hs (by omega) hb ?_
      exact br_t rfl (nm_r (nI_1 e) (ih (e + 1) n _ (by omega) (by omega) (cf_usd_f h hb)))
theorem xw_kq1 {post : Int32 → SX → Prop} {s m : Nat} {vn : Int32} {fr ft co we qs tr : Nat → Int32} (hs : s < 4096) (hm : m ≤ 12) (hco : ∀ e, e < m → vp_in (co e) 4) (hp : ∀ us, post (cf_b (cf_W (cf_at co) qs s m)) (vn, nI m, fr, ft, co, we, qs, tr, us)) : ∀ d c n us, c + d = 4 → d < n → cf_low c us (fun _ => 0) → wX_keepsQuotas_2 post (nI s) vn (nI m) n (nI c) fr ft co we qs tr us := by
  intro d
  induction d with
  | zero =>
    intro c n us he hn h
    obtain ⟨n, rfl⟩ : ∃ k, n = k + 1 := ⟨n - 1, by omega⟩
    have e1 : c = 4 := by omega
    subst e1
    exact br_t (nI_le (a := 4) (b := 4) (Nat.le_refl _) (by decide)) ⟨m + 1, xw_kq2 hs hm hco hp m 0 (m + 1) us (by omega) (by omega) (cf_usd_0 _ _ h)⟩
  | succ d ih =>
    intro c n us he hn h
    obtain ⟨n, rfl⟩ : ∃ k, n = k + 1 := ⟨n - 1, by omega⟩
    have hc : (nI c).toNatClampNeg = c := nI_clamp (by omega)
    have hi : vp_in (nI c) 4 := vp_in_nI (by omega) (by decide)
    refine br_f (nI_ge (b := 4) (by omega) (by decide)) ⟨hi, ?_⟩
    exact nm_r (e' := upd us c 0) (by rw [hc]) (nm_r (nI_1 c) (ih (c + 1) n _ (by omega) (by omega) (cf_low_u h rfl)))
theorem xw_kq {post : Int32 → SX → Prop} {s m : Nat} {vn : Int32} {fr ft co we qs tr us : Nat → Int32} (hs : s < 4096) (hm : m ≤ 12) (hco : ∀ e, e < m → vp_in (co e) 4) (hp : ∀ us, post (cf_b (cf_W (cf_at co) qs s m)) (vn, nI m, fr, ft, co, we, qs, tr, us)) : wpX_keepsQuotas post (vn, nI m, fr, ft, co, we, qs, tr, us) (nI s) :=
  ⟨5, xw_kq1 hs hm hco hp 4 0 5 us (by omega) (by omega) (cf_low_0 _ _)⟩
theorem xw_good {post : Int32 → SX → Prop} {s m : Nat} {vn : Int32} {fr ft co we qs tr us : Nat → Int32} (hs : s < 4096) (hm : m ≤ 12) (hfr : ∀ e, e < m → vp_in (fr e) 7) (hft : ∀ e, e < m → vp_in (ft e) 7) (hco : ∀ e, e < m → vp_in (co e) 4) (hp : ∀ tr us, post (cf_b (cf_G (cf_at fr) (cf_at ft) (cf_at co) qs s m)) (vn, nI m, fr, ft, co, we, qs, tr, us)) : wpX_isGoodSet post (vn, nI m, fr, ft, co, we, qs, tr, us) (nI s) := by
  refine xw_tj hs hm hfr hft (fun tr' => ?_)
  refine xw_size hs hm ?_
  have hz := cf_sz_le s m
  have hj := cf_J_le (cf_at fr) (cf_at ft) s m
  by_cases q : cf_J (cf_at fr) (cf_at ft) s m = cf_sz s m
  · have hF : cf_F (cf_at fr) (cf_at ft) s m = true := decide_eq_true q
    refine br_t (congrArg nI q) ?_
    refine xw_kq hs hm hco (fun us' => ?_)
    have h := hp tr' us'
    unfold cf_G at h
    rw [hF, Bool.true_and] at h
    refine cf_bb _ (fun hw => ?_) (fun hw => ?_)
    · rw [hw] at h; exact h
    · rw [hw] at h; exact h
  · have hF : cf_F (cf_at fr) (cf_at ft) s m = false := decide_eq_false q
    have h := hp tr' us
    unfold cf_G at h
    rw [hF, Bool.false_and] at h
    exact br_f (by rw [nI_eq (by omega) (by omega)]; exact q) h
end
section
/-! ===== X: bestAmong ===== -/
theorem xw_ba0 {post : Int32 → SX → Prop} {J : Int32 → Int32 → Int32 → Int32 → Int32 → (Nat → Int32) → (Nat → Int32) → (Nat → Int32) → (Nat → Int32) → (Nat → Int32) → (Nat → Int32) → (Nat → Int32) → Prop} {k m : Nat} {x1 x2 x3 x4 x5 x6 x7 vn : Int32} {fr ft co we qs tr us : Nat → Int32} (hk : k < 4096) (hm : m ≤ 12) (h : J x5 x6 (nI (k + 1)) vn (nI m) fr ft co we qs tr us) : wX_bestAmong_44 post J x1 x2 x3 x4 x5 x6 x7 (nI k) 0 vn (nI m) fr ft co we qs tr us := by
  refine xw_size hk hm ?_
  refine xw_wt hk hm ?_
  exact br_t rfl (nm_r (nI_1 k) h)
theorem xw_ba1 {post : Int32 → SX → Prop} {J : Int32 → Int32 → Int32 → Int32 → Int32 → (Nat → Int32) → (Nat → Int32) → (Nat → Int32) → (Nat → Int32) → (Nat → Int32) → (Nat → Int32) → (Nat → Int32) → Prop} {k m : Nat} {x1 x2 x3 x4 x5 x6 x7 vn : Int32} {fr ft co we qs tr us : Nat → Int32} (hk : k < 4096) (hm : m ≤ 12) (hfr : ∀ e, e < m → vp_in (fr e) 7) (hft : ∀ e, e < m → vp_in (ft e) 7) (hco : ∀ e, e < m → vp_in (co e) 4)
    (hs : (x3 ≤ nI (cf_sz k m) → nI (cf_sz k m) ≤ x4 → cf_G (cf_at fr) (cf_at ft) (cf_at co) qs k m = true → cf_tot we k m < x6) → ∀ tr us, J x5 x6 (nI (k + 1)) vn (nI m) fr ft co we qs tr us)
    (ht : x3 ≤ nI (cf_sz k m) → nI (cf_sz k m) ≤ x4 → cf_G (cf_at fr) (cf_at ft) (cf_at co) qs k m = true → ¬ cf_tot we k m < x6 → ∀ tr us, J (nI k) (cf_tot we k m) (nI (k + 1)) vn (nI m) fr ft co we qs tr us) : wX_bestAmong_44 post J x1 x2 x3 x4 x5 x6 x7 (nI k) 1 vn (nI m) fr ft co we qs tr us := by
  refine xw_size hk hm ?_
  refine xw_wt hk hm ?_
  refine br_f (by decide) ?_
  by_cases h1 : nI (cf_sz k m) < x3
  · exact br_t h1 (nm_r (nI_1 k) (hs (fun z => absurd h1 (Int32.not_lt.mpr z)) tr us))
  · have h1' := Int32.not_lt.mp h1
    refine br_f h1 ?_
    by_cases h2 : x4 < nI (cf_sz k m)
    · exact br_t h2 (nm_r (nI_1 k) (hs (fun _ z => absurd h2 (Int32.not_lt.mpr z)) tr us))
    · have h2' := Int32.not_lt.mp h2
      refine br_f h2 ?_
      by_cases h3 : cf_tot we k m < x6
      · exact br_t h3 (nm_r (nI_1 k) (hs (fun _ _ _ => h3) tr us))
      · refine br_f h3 ?_
        refine xw_good hk hm hfr hft hco (fun tr' us' => ?_)
        refine cf_bb _ (fun hg => ?_) (fun hg => ?_)
        · exact nm_r (nI_1 k) (ht h1' h2' hg h3 tr' us')
        · exact nm_r (nI_1 k) (hs (fun _ _ z => by rw [hg] at z; cases z) tr' us')
theorem xw_ba_l {post : Int32 → SX → Prop} {m : Nat} {nd br lo hi vn : Int32} {fr ft co we qs : Nat → Int32} (hm : m ≤ 12) (hfr : ∀ e, e < m → vp_in (fr e) 7) (hft : ∀ e, e < m → vp_in (ft e) 7) (hco : ∀ e, e < m → vp_in (co e) 4) (hwe : ∀ e, e < m → -20 ≤ (we e).toInt ∧ (we e).toInt ≤ 50) (T : Nat → Int32) (P : Nat → Bool) (hT : T = fun s => cf_tot we s m) (hP : P = cf_PX (fun s => cf_G (cf_at fr) (cf_at ft) (cf_at co) qs s m) m nd br lo hi)
    (hp : ∀ tr us, post (cf_enc (cf_best T P (2 ^ m))) (vn, nI m, fr, ft, co, we, qs, tr, us)) : ∀ d k n tr us, k + d = 2 ^ m → d < n → wX_bestAmong_17 post nd br lo hi (nI (2 ^ m - 1)) n (cf_enc (cf_best T P k)) (cf_bw T (cf_best T P k)) (nI k) vn (nI m) fr ft co we qs tr us := by
  have h12 := cf_p12 hm
  have hpw := cf_pw0 m
  intro d
  induction d with
  | zero =>
    intro k n tr us he hn
    obtain ⟨n, rfl⟩ : ∃ k, n = k + 1 := ⟨n - 1, by omega⟩
    have e1 : k = 2 ^ m := by omega
    subst e1
    exact br_t (nI_lt (by omega) (by omega)) (hp tr us)
  | succ d ih =>
    intro k n tr us he hn
    obtain ⟨n, rfl⟩ : ∃ k, n = k + 1 := ⟨n - 1, by omega⟩
    have ih' := fun tr us => ih (k + 1) n tr us (by omega) (by omega)
    have hk : k < 4096 := by omega
    have hlow : (-10000 : Int32) ≤ T k := by rw [hT]; exact cf_tot_ge we k m hm hwe
    have hskip : (P k = true → T k < cf_bw T (cf_best T P k)) → ∀ tr us, wX_bestAmong_17 post nd br lo hi (nI (2 ^ m - 1)) n (cf_enc (cf_best T P k)) (cf_bw T (cf_best T P k)) (nI (k + 1)) vn (nI m) fr ft co we qs tr us := by
      intro h
      rw [cf_best_skip hlow h] at ih'
      exact ih'
    refine br_f (nI_nlt (by omega) (by omega)) ?_
    by_cases h1 : nI k &&& nd = nd
    · refine br_t h1 ?_
      by_cases h2 : nI k &&& br = 0
      · refine br_t h2 ?_
        refine xw_ba1 hk hm hfr hft hco (fun h => hskip (fun hpk => ?_)) (fun a b c e => ?_)
        · rw [hP] at hpk
          unfold cf_PX at hpk
          rw [Bool.and_eq_true, Bool.and_eq_true, Bool.and_eq_true, Bool.and_eq_true] at hpk
          obtain ⟨_, _, q1, q2, q3⟩ := hpk
          have h3 := h (of_decide_eq_true q1) (of_decide_eq_true q2) q3
          rw [hT] at h3 ⊢
          exact h3
        · have hpk : P k = true := by
            rw [hP]
            unfold cf_PX
            rw [decide_eq_true h1, decide_eq_true h2, decide_eq_true a, decide_eq_true b]
            exact c
          have e' : ¬ T k < cf_bw T (cf_best T P k) := by rw [hT] at e ⊢; exact e
          rw [cf_best_take hpk e'] at ih'
          have e3 : cf_bw T (some k) = cf_tot we k m := by rw [hT]; rfl
          rw [e3] at ih'
          exact ih'
      · refine br_f h2 ?_
        refine xw_ba0 hk hm (hskip (fun hpk => ?_) tr us)
        rw [hP] at hpk
        unfold cf_PX at hpk
        rw [decide_eq_false h2, Bool.false_and, Bool.and_false] at hpk
        cases hpk
    · refine br_f h1 ?_
      refine xw_ba0 hk hm (hskip (fun hpk => ?_) tr us)
      rw [hP] at hpk
      unfold cf_PX at hpk
      rw [decide_eq_false h1, Bool.false_and] at hpk
      cases hpk
theorem xw_ba {post : Int32 → SX → Prop} {m : Nat} {nd br lo hi vn : Int32} {fr ft co we qs tr us : Nat → Int32} (hm : m ≤ 12) (hfr : ∀ e, e < m → vp_in (fr e) 7) (hft : ∀ e, e < m → vp_in (ft e) 7) (hco : ∀ e, e < m → vp_in (co e) 4) (hwe : ∀ e, e < m → -20 ≤ (we e).toInt ∧ (we e).toInt ≤ 50)
    (hp : ∀ tr us, post (cf_enc (cf_best (fun s => cf_tot we s m) (cf_PX (fun s => cf_G (cf_at fr) (cf_at ft) (cf_at co) qs s m) m nd br lo hi) (2 ^ m))) (vn, nI m, fr, ft, co, we, qs, tr, us)) : wpX_bestAmong post (vn, nI m, fr, ft, co, we, qs, tr, us) nd br lo hi := by
  show ∃ n17 : Nat, wX_bestAmong_17 post nd br lo hi (((1 : Int32) <<< (nI m &&& 31)) - 1) n17 (-1) (-10000) 0 vn (nI m) fr ft co we qs tr us
  rw [cf_allI m (by omega)]
  exact ⟨2 ^ m + 1, xw_ba_l hm hfr hft hco hwe _ _ rfl rfl hp (2 ^ m) 0 (2 ^ m + 1) tr us (by omega) (by omega)⟩
/-! ===== X: greatest ===== -/
theorem xw_gr_l {post : Int32 → SX → Prop} {m : Nat} {vn : Int32} {fr ft co we qs : Nat → Int32} (hm : m ≤ 12) (hfr : ∀ e, e < m → vp_in (fr e) 7) (hft : ∀ e, e < m → vp_in (ft e) 7) (hco : ∀ e, e < m → vp_in (co e) 4) (Z : Nat → Nat) (P : Nat → Bool) (hZ : Z = fun s => cf_sz s m) (hP : P = fun s => cf_G (cf_at fr) (cf_at ft) (cf_at co) qs s m)
    (hp : ∀ tr us, post (nI (cf_mx Z P (2 ^ m))) (vn, nI m, fr, ft, co, we, qs, tr, us)) : ∀ d k n tr us, k + d = 2 ^ m → d < n → wX_greatest_9 post (nI (2 ^ m - 1)) n (nI (cf_mx Z P k)) (nI k) vn (nI m) fr ft co we qs tr us := by
  have h12 := cf_p12 hm
  have hpw := cf_pw0 m
  intro d
  induction d with
  | zero =>
    intro k n tr us he hn
    obtain ⟨n, rfl⟩ : ∃ k, n = k + 1 := ⟨n - 1, by omega⟩
    have e1 : k = 2 ^ m := by omega
    subst e1
    exact br_t (nI_lt (by omega) (by omega)) (hp tr us)
  | succ d ih =>
    intro k n tr us he hn
    obtain ⟨n, rfl⟩ : ∃ k, n = k + 1 := ⟨n - 1, by omega⟩
    have ih' := fun tr us => ih (k + 1) n tr us (by omega) (by omega)
    have hk : k < 4096 := by omega
    have hz : Z k = cf_sz k m := by rw [hZ]
    have hzl := cf_sz_le k m
    have hml : cf_mx Z P k ≤ 12 := cf_mx_ub Z P 12 k (fun s _ _ => by rw [hZ]; have := cf_sz_le s m; show cf_sz s m ≤ 12; omega)
    refine br_f (nI_nlt (by omega) (by omega)) ?_
    refine xw_size hk hm ?_
    by_cases h1 : cf_sz k m ≤ cf_mx Z P k
    · rw [cf_mx_f (fun z => by have := z.1; omega)] at ih'
      exact br_t (nI_le h1 (by omega)) (nm_r (nI_1 k) (ih' tr us))
    · refine br_f (nI_ge (by omega) (by omega)) ?_
      refine xw_good hk hm hfr hft hco (fun tr' us' => ?_)
      refine cf_bb _ (fun hg => ?_) (fun hg => ?_)
      · rw [cf_mx_t (by omega) (by rw [hP]; exact hg), hz] at ih'
        exact nm_r (nI_1 k) (ih' tr' us')
      · rw [cf_mx_f (fun z => by have h2 := z.2; rw [hP] at h2; rw [show cf_G (cf_at fr) (cf_at ft) (cf_at co) qs k m = true from h2] at hg; cases hg)] at ih'
        exact nm_r (nI_1 k) (ih' tr' us')
theorem xw_gr {post : Int32 → SX → Prop} {m : Nat} {vn : Int32} {fr ft co we qs tr us : Nat → Int32} (hm : m ≤ 12) (hfr : ∀ e, e < m → vp_in (fr e) 7) (hft : ∀ e, e < m → vp_in (ft e) 7) (hco : ∀ e, e < m → vp_in (co e) 4)
    (hp : ∀ tr us, post (nI (cf_mx (fun s => cf_sz s m) (fun s => cf_G (cf_at fr) (cf_at ft) (cf_at co) qs s m) (2 ^ m))) (vn, nI m, fr, ft, co, we, qs, tr, us)) : wpX_greatest post (vn, nI m, fr, ft, co, we, qs, tr, us) := by
  show ∃ n9 : Nat, wX_greatest_9 post (((1 : Int32) <<< (nI m &&& 31)) - 1) n9 0 0 vn (nI m) fr ft co we qs tr us
  rw [cf_allI m (by omega)]
  exact ⟨2 ^ m + 1, xw_gr_l hm hfr hft hco _ _ rfl rfl hp (2 ^ m) 0 (2 ^ m + 1) tr us (by omega) (by omega)⟩
/-! ===== X: canReplaceOne, spares ===== -/
theorem xw_cr_l {post : Int32 → SX → Prop} {s e m : Nat} {vn : Int32} {fr ft co we qs : Nat → Int32} (hs : s < 2 ^ m) (he : e < m) (hm : m ≤ 12) (hfr : ∀ e, e < m → vp_in (fr e) 7) (hft : ∀ e, e < m → vp_in (ft e) 7) (hco : ∀ e, e < m → vp_in (co e) 4) (G : Nat → Bool) (hG : G = fun s => cf_G (cf_at fr) (cf_at ft) (cf_at co) qs s m)
    (hp : ∀ tr us, post (cf_b (cf_rep G s e m)) (vn, nI m, fr, ft, co, we, qs, tr, us)) : ∀ d f n tr us, f + d = m → d < n → cf_rep G s e f = false → wX_canReplaceOne_2 post (nI s) (nI e) n (nI f) vn (nI m) fr ft co we qs tr us := by
  have h12 := cf_p12 hm
  intro d
  induction d with
  | zero =>
    intro f n tr us hf hn h
    obtain ⟨n, rfl⟩ : ∃ k, n = k + 1 := ⟨n - 1, by omega⟩
    have e1 : f = m := by omega
    subst e1
    have h1 := hp tr us
    rw [h] at h1
    exact br_t (nI_le (Nat.le_refl _) (by omega)) h1
  | succ d ih =>
    intro f n tr us hf hn h
    obtain ⟨n, rfl⟩ : ∃ k, n = k + 1 := ⟨n - 1, by omega⟩
    have ih' := fun tr us => ih (f + 1) n tr us (by omega) (by omega)
    have hsw : (s ^^^ 2 ^ f) ||| 2 ^ e < 2 ^ m := cf_swl hs (by omega) he
    refine br_f (nI_ge (by omega) (by omega)) ?_
    refine nm_r (e' := nI ((s ^^^ 2 ^ f) ||| 2 ^ e)) (by rw [cf_shl1 f (by omega), cf_shl1 e (by omega), nx_xor, cf_or]) ?_
    by_cases hb : s.testBit f = true
    · refine xw_con_t (by omega) (by omega) hb ?_
      refine br_f (by decide) ?_
      refine xw_good (by omega) hm hfr hft hco (fun tr' us' => ?_)
      refine cf_bb _ (fun hg => ?_) (fun hg => ?_)
      · have h1 := hp tr' us'
        rw [cf_rep_t G s e f hb (by rw [hG]; exact hg) m (by omega)] at h1
        exact h1
      · exact nm_r (nI_1 f) (ih' tr' us' (cf_rep_f h (fun z => by have h2 := z.2; rw [hG] at h2; rw [show cf_G (cf_at fr) (cf_at ft) (cf_at co) qs ((s ^^^ 2 ^ f) ||| 2 ^ e) m = true from h2] at hg; cases hg)))
    · refine xw_con_f (by omega) (by omega) hb ?_
      exact br_t rfl (nm_r (nI_1 f) (ih' tr us (cf_rep_f h (fun z => hb z.1))))
theorem xw_cr {post : Int32 → SX → Prop} {s e m : Nat} {vn : Int32} {fr ft co we qs tr us : Nat → Int32} (hs : s < 2 ^ m) (he : e < m) (hm : m ≤ 12) (hfr : ∀ e, e < m → vp_in (fr e) 7) (hft : ∀ e, e < m → vp_in (ft e) 7) (hco : ∀ e, e < m → vp_in (co e) 4) (G : Nat → Bool) (hG : G = fun s => cf_G (cf_at fr) (cf_at ft) (cf_at co) qs s m)
    (hp : ∀ tr us, post (cf_b (cf_rep G s e m)) (vn, nI m, fr, ft, co, we, qs, tr, us)) : wpX_canReplaceOne post (vn, nI m, fr, ft, co, we, qs, tr, us) (nI s) (nI e) :=
  ⟨m + 1, xw_cr_l hs he hm hfr hft hco G hG hp m 0 (m + 1) tr us (by omega) (by omega) rfl⟩
theorem xw_sp_l {post : Int32 → SX → Prop} {s m : Nat} {vn : Int32} {fr ft co we qs : Nat → Int32} (hs : s < 2 ^ m) (hm : m ≤ 12) (hfr : ∀ e, e < m → vp_in (fr e) 7) (hft : ∀ e, e < m → vp_in (ft e) 7) (hco : ∀ e, e < m → vp_in (co e) 4) (G : Nat → Bool) (hG : G = fun s => cf_G (cf_at fr) (cf_at ft) (cf_at co) qs s m)
    (hp : ∀ tr us, post (nI (cf_spc G s m m)) (vn, nI m, fr, ft, co, we, qs, tr, us)) : ∀ d e n tr us, e + d = m → d < n → wX_spares_19 post (nI s) n (nI (cf_spc G s m e)) (nI e) vn (nI m) fr ft co we qs tr us := by
  have h12 := cf_p12 hm
  intro d
  induction d with
  | zero =>
    intro e n tr us he hn
    obtain ⟨n, rfl⟩ : ∃ k, n = k + 1 := ⟨n - 1, by omega⟩
    have e1 : e = m := by omega
    subst e1
    exact br_t (nI_le (Nat.le_refl _) (by omega)) (hp tr us)
  | succ d ih =>
    intro e n tr us he hn
    obtain ⟨n, rfl⟩ : ∃ k, n = k + 1 := ⟨n - 1, by omega⟩
    have ih' := fun tr us => ih (e + 1) n tr us (by omega) (by omega)
    refine br_f (nI_ge (by omega) (by omega)) ?_
    by_cases hb : s.testBit e = true
    · rw [cf_spc_f (fun z => z.1 hb)] at ih'
      refine xw_con_t (by omega) (by omega) hb ?_
      exact br_f (by decide) (nm_r (nI_1 e) (ih' tr us))
    · refine xw_con_f (by omega) (by omega) hb ?_
      refine br_t rfl ?_
      refine xw_cr hs (by omega) hm hfr hft hco G hG (fun tr' us' => ?_)
      refine cf_bb _ (fun hg => ?_) (fun hg => ?_)
      · rw [cf_spc_t hb hg] at ih'
        exact nm_r (nI_1 _) (nm_r (nI_1 e) (ih' tr' us'))
      · rw [cf_spc_f (fun z => by have h2 := z.2; rw [hg] at h2; cases h2)] at ih'
        exact nm_r (nI_1 e) (ih' tr' us')
theorem xw_sp_m {post : Int32 → SX → Prop} {m : Nat} {vn : Int32} {fr ft co we qs tr us : Nat → Int32} (hm : m ≤ 12) (hp : post 0 (vn, nI m, fr, ft, co, we, qs, tr, us)) : ∀ d e n, e + d = m → d < n → wX_spares_19 post (-1) n 0 (nI e) vn (nI m) fr ft co we qs tr us := by
  intro d
  induction d with
  | zero =>
    intro e n he hn
    obtain ⟨n, rfl⟩ : ∃ k, n = k + 1 := ⟨n - 1, by omega⟩
    have e1 : e = m := by omega
    subst e1
    exact br_t (nI_le (Nat.le_refl _) (by omega)) hp
  | succ d ih =>
    intro e n he hn
    obtain ⟨n, rfl⟩ : ∃ k, n = k + 1 := ⟨n - 1, by omega⟩
    refine br_f (nI_ge (by omega) (by omega)) ?_
    refine xw_con_m (by omega) ?_
    exact br_f (by decide) (nm_r (nI_1 e) (ih (e + 1) n (by omega) (by omega)))
theorem xw_sp {post : Int32 → SX → Prop} {m : Nat} {vn : Int32} {fr ft co we qs tr us : Nat → Int32} (hm : m ≤ 12) (hfr : ∀ e, e < m → vp_in (fr e) 7) (hft : ∀ e, e < m → vp_in (ft e) 7) (hco : ∀ e, e < m → vp_in (co e) 4) (hwe : ∀ e, e < m → -20 ≤ (we e).toInt ∧ (we e).toInt ≤ 50) (G : Nat → Bool) (hG : G = fun s => cf_G (cf_at fr) (cf_at ft) (cf_at co) qs s m) (T : Nat → Int32) (hT : T = fun s => cf_tot we s m) (q : Int32) (hq : q = nI (cf_mx (fun s => cf_sz s m) G (2 ^ m)))
    (hp : ∀ tr us, post (nI (cf_sp G m (cf_best T (cf_PX G m 0 0 q q) (2 ^ m)))) (vn, nI m, fr, ft, co, we, qs, tr, us)) : wpX_spares post (vn, nI m, fr, ft, co, we, qs, tr, us) := by
  subst hG hT hq
  refine xw_gr hm hfr hft hco (fun tr' us' => ?_)
  refine xw_ba hm hfr hft hco hwe (fun tr'' us'' => ?_)
  cases hb : cf_best (fun s => cf_tot we s m) (cf_PX (fun s => cf_G (cf_at fr) (cf_at ft) (cf_at co) qs s m) m 0 0 (nI (cf_mx (fun s => cf_sz s m) (fun s => cf_G (cf_at fr) (cf_at ft) (cf_at co) qs s m) (2 ^ m))) (nI (cf_mx (fun s => cf_sz s m) (fun s => cf_G (cf_at fr) (cf_at ft) (cf_at co) qs s m) (2 ^ m)))) (2 ^ m) with
  | none =>
    rw [hb] at hp
    exact ⟨m + 1, xw_sp_m hm (hp tr'' us'') m 0 (m + 1) (by omega) (by omega)⟩
  | some s =>
    rw [hb] at hp
    exact ⟨m + 1, xw_sp_l (cf_best_lt _ _ hb) hm hfr hft hco _ rfl hp m 0 (m + 1) tr'' us'' (by omega) (by omega)⟩
theorem xw_rk {post : Int32 → SX → Prop} {m : Nat} {vn : Int32} {fr ft co we qs tr us : Nat → Int32} (hm : m ≤ 12) (hfr : ∀ e, e < m → vp_in (fr e) 7) (hft : ∀ e, e < m → vp_in (ft e) 7)
    (hp : ∀ tr, post (nI (cf_J (cf_at fr) (cf_at ft) (2 ^ m - 1) m)) (vn, nI m, fr, ft, co, we, qs, tr, us)) : wpX_rank post (vn, nI m, fr, ft, co, we, qs, tr, us) := by
  have h12 := cf_p12 hm
  have hpw := cf_pw0 m
  have h : wpX_treesJoined (fun r u => match u with | (a1, a2, a3, a4, a5, a6, a7, a8, a9) => post r (a1, a2, a3, a4, a5, a6, a7, a8, a9)) (vn, nI m, fr, ft, co, we, qs, tr, us) (nI (2 ^ m - 1)) := xw_tj (by omega) hm hfr hft hp
  rw [← cf_allI m (by omega)] at h
  exact h
end
section
/-! ===== Y: in, size, total ===== -/
theorem yw_in_t {post : Int32 → Prop} {u : SY} {s e : Nat} (hs : s < 4096) (he : e < 12) (hb : s.testBit e = true) (hp : post 1) : wpY_in post u (nI s) (nI e) := by
  obtain ⟨a1, a2, a3, a4, a5, a6, a7, a8, a9⟩ := u
  exact br_t (cf_bit_t (by omega) (by omega) hb) hp
theorem yw_in_f {post : Int32 → Prop} {u : SY} {s e : Nat} (hs : s < 4096) (he : e < 12) (hb : ¬ s.testBit e = true) (hp : post 0) : wpY_in post u (nI s) (nI e) := by
  obtain ⟨a1, a2, a3, a4, a5, a6, a7, a8, a9⟩ := u
  exact br_f (by rw [cf_bit_f (by omega) (by omega) hb]; decide) hp
theorem yw_in_m {post : Int32 → Prop} {u : SY} {e : Nat} (he : e < 12) (hp : post 1) : wpY_in post u (-1) (nI e) := by
  obtain ⟨a1, a2, a3, a4, a5, a6, a7, a8, a9⟩ := u
  exact br_t (cf_m1b e (by omega)) hp
theorem yw_sz_l {post : Int32 → Prop} {s : Nat} (hs : s < 4096) (vn mm : Int32) (fr ft co we qs lb us : Nat → Int32) (hp : post (nI (cf_sz s 12))) : ∀ d e n, e + d = 12 → d < n → wY_size_4 post (nI s) vn mm fr ft co we qs lb us n (nI (cf_sz s e)) (nI e) := by
  intro d
  induction d with
  | zero =>
    intro e n he hn
    obtain ⟨n, rfl⟩ : ∃ k, n = k + 1 := ⟨n - 1, by omega⟩
    have e1 : e = 12 := by omega
    subst e1
    exact br_t (nI_le (a := 12) (b := 12) (Nat.le_refl _) (by decide)) hp
  | succ d ih =>
    intro e n he hn
    obtain ⟨n, rfl⟩ : ∃ k, n = k + 1 := ⟨n - 1, by omega⟩
    have h := ih (e + 1) n (by omega) (by omega)
    refine br_f (nI_ge (b := 12) (by omega) (by decide)) ?_
    refine nm_r (e' := nI (cf_sz s (e + 1))) ?_ (nm_r (nI_1 _) h)
    by_cases hb : s.testBit e = true
    · rw [cf_bit_t (by omega) (by omega) hb, cf_sz_t hb, nI_1]
    · rw [cf_bit_f (by omega) (by omega) hb, cf_sz_f hb, Int32.add_zero]
theorem yw_size {post : Int32 → Prop} {s : Nat} (hs : s < 4096) {vn mm : Int32} {fr ft co we qs lb us : Nat → Int32} (hp : post (nI (cf_sz s 12))) : wpY_size post (vn, mm, fr, ft, co, we, qs, lb, us) (nI s) :=
  ⟨13, yw_sz_l hs vn mm fr ft co we qs lb us hp 12 0 13 (by omega) (by omega)⟩
theorem yw_wt_l {post : Int32 → Prop} {s m : Nat} (hs : s < 4096) (hm : m ≤ 12) (vn : Int32) (fr ft co we qs lb us : Nat → Int32) (hp : post (cf_tot we s m)) : ∀ d e n, e + d = m → d < n → wY_total_4 post (nI s) vn (nI m) fr ft co we qs lb us n (cf_tot we s e) (nI e) := by
  intro d
  induction d with
  | zero =>
    intro e n he hn
    obtain ⟨n, rfl⟩ : ∃ k, n = k + 1 := ⟨n - 1, by omega⟩
    have e1 : e = m := by omega
    rw [e1]
    exact br_t (nI_le (Nat.le_refl _) (by omega)) hp
  | succ d ih =>
    intro e n he hn
    obtain ⟨n, rfl⟩ : ∃ k, n = k + 1 := ⟨n - 1, by omega⟩
    have h := ih (e + 1) n (by omega) (by omega)
    have hc : (nI e).toNatClampNeg = e := nI_clamp (by omega)
    refine br_f (nI_ge (by omega) (by omega)) ?_
    refine br_f (nI_ge (b := 12) (by omega) (by decide)) ?_
    by_cases hb : s.testBit e = true
    · rw [cf_tot_t hb] at h
      refine yw_in_t hs (by omega) hb ?_
      refine br_f (by decide) ?_
      exact ⟨vp_in_nI (by omega) (by decide), nm_r (e' := cf_tot we s e + we e) (by rw [hc]) (nm_r (nI_1 _) h)⟩
    · rw [cf_tot_f hb] at h
      refine yw_in_f hs (by omega) hb ?_
      refine br_t rfl ?_
      exact nm_r (nI_1 _) h
theorem yw_wt {post : Int32 → Prop} {s m : Nat} (hs : s < 4096) (hm : m ≤ 12) {vn : Int32} {fr ft co we qs lb us : Nat → Int32} (hp : post (cf_tot we s m)) : wpY_total post (vn, nI m, fr, ft, co, we, qs, lb, us) (nI s) :=
  ⟨m + 1, yw_wt_l hs hm vn fr ft co we qs lb us hp m 0 (m + 1) (by omega) (by omega)⟩
/-! ===== Y: forest ===== -/
theorem yw_ren_l {post : Int32 → SY → Prop} {J : Int32 → (Nat → Int32) → (Nat → Int32) → (Nat → Int32) → (Nat → Int32) → (Nat → Int32) → (Nat → Int32) → (Nat → Int32) → Prop} {x1 vn mm : Int32} {e : Nat} {fr ft co we qs us : Nat → Int32} {L : Nat → Nat} {g k : Nat} (hL : ∀ v, v < 8 → L v < 8) (hg : g < 8) (hp : ∀ lb, cf_pic 8 lb (cf_ren L g k) → J (nI (e + 1)) fr ft co we qs lb us) : ∀ d v n lb, v + d = 8 → d < n → cf_mid 8 v lb L (cf_ren L g k) → wY_forest_82 post J x1 (nI e) (nI k) (nI g) vn mm n (nI v) fr ft co we qs lb us := by
  intro d
  induction d with
  | zero =>
    intro v n lb he hn h
    obtain ⟨n, rfl⟩ : ∃ k, n = k + 1 := ⟨n - 1, by omega⟩
    have e1 : v = 8 := by omega
    subst e1
    exact br_t (nI_le (a := 8) (b := 8) (Nat.le_refl _) (by decide)) (nm_r (nI_1 e) (hp lb (cf_mid_N h)))
  | succ d ih =>
    intro v n lb he hn h
    obtain ⟨n, rfl⟩ : ∃ k, n = k + 1 := ⟨n - 1, by omega⟩
    have hc : (nI v).toNatClampNeg = v := nI_clamp (by omega)
    have hv : lb (nI v).toNatClampNeg = nI (L v) := by rw [hc]; exact cf_mid_v h (by omega)
    have hi : vp_in (nI v) 8 := vp_in_nI (by omega) (by decide)
    have hl := hL v (by omega)
    refine br_f (nI_ge (b := 8) (by omega) (by decide)) ⟨hi, ?_⟩
    by_cases q : L v = g
    · refine br_t (by rw [hv, q]) ⟨hi, ?_⟩
      exact nm_r (e' := upd lb v (nI k)) (by rw [hc]) (nm_r (nI_1 v) (ih (v + 1) n _ (by omega) (by omega) (cf_mid_u h (by rw [cf_ren_t q]))))
    · refine br_f (by rw [hv, nI_eq (by omega) (by omega)]; exact q) ?_
      exact nm_r (nI_1 v) (ih (v + 1) n _ (by omega) (by omega) (cf_mid_k h (cf_ren_f q)))
theorem cf_Fp_s {A B : Nat → Nat} {s e : Nat} (h : cf_Fp A B s e) (hn : s.testBit e = true → ¬ cf_L A B s e (A e) = cf_L A B s e (B e)) : cf_Fp A B s (e + 1) := by
  intro f hf hb
  by_cases q : f = e
  · subst q; exact hn hb
  · exact h f (by omega) hb
theorem yw_fo_l {post : Int32 → SY → Prop} {s m : Nat} {vn : Int32} {fr ft co we qs us : Nat → Int32} (hs : s < 4096) (hm : m ≤ 12) (hfr : ∀ e, e < m → vp_in (fr e) 7) (hft : ∀ e, e < m → vp_in (ft e) 7) (hp : ∀ lb, post (cf_b (cf_F (cf_at fr) (cf_at ft) s m)) (vn, nI m, fr, ft, co, we, qs, lb, us)) : ∀ d e n lb, e + d = m → d < n → cf_pic 8 lb (cf_L (cf_at fr) (cf_at ft) s e) → cf_Fp (cf_at fr) (cf_at ft) s e → wY_forest_23 post (nI s) vn (nI m) n (nI e) fr ft co we qs lb us := by
  intro d
  induction d with
  | zero =>
    intro e n lb he hn h hF
    obtain ⟨n, rfl⟩ : ∃ k, n = k + 1 := ⟨n - 1, by omega⟩
    have e1 : e = m := by omega
    rw [e1] at hF ⊢
    have h1 := hp lb
    rw [cf_F_t.mpr hF] at h1
    exact br_t (nI_le (Nat.le_refl _) (by omega)) h1
  | succ d ih =>
    intro e n lb he hn h hF
    obtain ⟨n, rfl⟩ : ∃ k, n = k + 1 := ⟨n - 1, by omega⟩
    have hc : (nI e).toNatClampNeg = e := nI_clamp (by omega)
    have hi : vp_in (nI e) 12 := vp_in_nI (by omega) (by decide)
    have hA := cf_at_lt (Nat.le_refl 7) hfr
    have hB := cf_at_lt (Nat.le_refl 7) hft
    have hLa := cf_L_8 (cf_at fr) (cf_at ft) s m hA e (by omega)
    have hAe := hA e (by omega)
    have hBe := hB e (by omega)
    have ih' := fun lb' => ih (e + 1) n lb' (by omega) (by omega)
    refine br_f (nI_ge (by omega) (by omega)) ?_
    refine br_f (nI_ge (b := 12) (by omega) (by decide)) ?_
    by_cases hb : s.testBit e = true
    · refine yw_in_t hs (by omega) hb ?_
      refine br_f (by decide) ⟨hi, by rw [hc]; exact cf_vp_le (hfr e (by omega)) (by omega), ?_⟩
      refine nm_r (e' := nI (cf_L (cf_at fr) (cf_at ft) s e (cf_at fr e))) (by rw [hc]; exact h _ (Nat.lt_trans hAe (by decide))) ?_
      refine ⟨hi, by rw [hc]; exact cf_vp_le (hft e (by omega)) (by omega), ?_⟩
      refine nm_r (e' := nI (cf_L (cf_at fr) (cf_at ft) s e (cf_at ft e))) (by rw [hc]; exact h _ (Nat.lt_trans hBe (by decide))) ?_
      by_cases q : cf_L (cf_at fr) (cf_at ft) s e (cf_at fr e) = cf_L (cf_at fr) (cf_at ft) s e (cf_at ft e)
      · have hn2 : cf_F (cf_at fr) (cf_at ft) s m = false := by
          cases hq : cf_F (cf_at fr) (cf_at ft) s m with
          | false => rfl
          | true => exact absurd q (cf_F_t.mp hq e (by omega) hb)
        have h1 := hp lb
        rw [hn2] at h1
        exact br_t (congrArg nI q) h1
      · have h1 := hLa _ (Nat.lt_trans hAe (by decide))
        have h2 := hLa _ (Nat.lt_trans hBe (by decide))
        rw [cf_L_t hb] at ih'
        refine br_f (by rw [nI_eq (by omega) (by omega)]; exact q) ?_
        exact ⟨9, yw_ren_l hLa h2 (fun lb' h' => ih' lb' h' (cf_Fp_s hF (fun _ => q))) 8 0 9 lb (by omega) (by omega) (cf_mid_0 _ h)⟩
    · rw [cf_L_f hb] at ih'
      refine yw_in_f hs (by omega) hb ?_
      exact br_t rfl (nm_r (nI_1 _) (ih' lb h (cf_Fp_s hF (fun z => absurd z hb))))
theorem yw_fo_0 {post : Int32 → SY → Prop} {s m : Nat} {vn : Int32} {fr ft co we qs us : Nat → Int32} (hs : s < 4096) (hm : m ≤ 12) (hfr : ∀ e, e < m → vp_in (fr e) 7) (hft : ∀ e, e < m → vp_in (ft e) 7) (hp : ∀ lb, post (cf_b (cf_F (cf_at fr) (cf_at ft) s m)) (vn, nI m, fr, ft, co, we, qs, lb, us)) : ∀ d v n lb, v + d = 8 → d < n → cf_low v lb nI → wY_forest_2 post (nI s) vn (nI m) n (nI v) fr ft co we qs lb us := by
  intro d
  induction d with
  | zero =>
    intro v n lb he hn h
    obtain ⟨n, rfl⟩ : ∃ k, n = k + 1 := ⟨n - 1, by omega⟩
    have e1 : v = 8 := by omega
    subst e1
    exact br_t (nI_le (a := 8) (b := 8) (Nat.le_refl _) (by decide)) ⟨m + 1, yw_fo_l hs hm hfr hft hp m 0 (m + 1) lb (by omega) (by omega) h (fun f hf => absurd hf (Nat.not_lt_zero f))⟩
  | succ d ih =>
    intro v n lb he hn h
    obtain ⟨n, rfl⟩ : ∃ k, n = k + 1 := ⟨n - 1, by omega⟩
    have hc : (nI v).toNatClampNeg = v := nI_clamp (by omega)
    have hi : vp_in (nI v) 8 := vp_in_nI (by omega) (by decide)
    refine br_f (nI_ge (b := 8) (by omega) (by decide)) ⟨hi, ?_⟩
    exact nm_r (e' := upd lb v (nI v)) (by rw [hc]) (nm_r (nI_1 v) (ih (v + 1) n _ (by omega) (by omega) (cf_low_u h rfl)))
theorem yw_fo {post : Int32 → SY → Prop} {s m : Nat} {vn : Int32} {fr ft co we qs lb us : Nat → Int32} (hs : s < 4096) (hm : m ≤ 12) (hfr : ∀ e, e < m → vp_in (fr e) 7) (hft : ∀ e, e < m → vp_in (ft e) 7) (hp : ∀ lb, post (cf_b (cf_F (cf_at fr) (cf_at ft) s m)) (vn, nI m, fr, ft, co, we, qs, lb, us)) : wpY_forest post (vn, nI m, fr, ft, co, we, qs, lb, us) (nI s) :=
  ⟨9, yw_fo_0 hs hm hfr hft hp 8 0 9 lb (by omega) (by omega) (cf_low_0 _ _)⟩
/-! ===== Y: within, good ===== -/
theorem yw_kq3 {post : Int32 → SY → Prop} {s m : Nat} {vn : Int32} {fr ft co we qs lb us : Nat → Int32} (hu : cf_usd us (cf_at co) s m) (hp : post (cf_b (cf_W (cf_at co) qs s m)) (vn, nI m, fr, ft, co, we, qs, lb, us)) : ∀ d c n, c + d = 4 → d < n → cf_q4 (cf_at co) qs s m c = true → wY_within_68 post vn (nI m) fr ft co we qs lb us n (nI c) := by
  intro d
  induction d with
  | zero =>
    intro c n he hn h
    obtain ⟨n, rfl⟩ : ∃ k, n = k + 1 := ⟨n - 1, by omega⟩
    have e1 : c = 4 := by omega
    subst e1
    have e2 : cf_W (cf_at co) qs s m = true := h
    rw [e2] at hp
    exact br_t (nI_le (a := 4) (b := 4) (Nat.le_refl _) (by decide)) hp
  | succ d ih =>
    intro c n he hn h
    obtain ⟨n, rfl⟩ : ∃ k, n = k + 1 := ⟨n - 1, by omega⟩
    have hc : (nI c).toNatClampNeg = c := nI_clamp (by omega)
    have hi : vp_in (nI c) 8 := vp_in_nI (by omega) (by decide)
    refine br_f (nI_ge (b := 4) (by omega) (by decide)) ⟨hi, hi, ?_⟩
    by_cases q : qs c < nI (cf_U (cf_at co) s c m)
    · have e2 : cf_W (cf_at co) qs s m = false := cf_q4_f _ _ _ _ c q 4 (by omega)
      rw [e2] at hp
      exact br_f (by rw [hc, hu c (by omega)]; exact Int32.not_le.mpr q) hp
    · exact br_t (by rw [hc, hu c (by omega)]; exact Int32.not_lt.mp q) (nm_r (nI_1 c) (ih (c + 1) n (by omega) (by omega) (cf_q4_t q h)))
theorem yw_kq2 {post : Int32 → SY → Prop} {s m : Nat} {vn : Int32} {fr ft co we qs lb : Nat → Int32} (hs : s < 4096) (hm : m ≤ 12) (hco : ∀ e, e < m → vp_in (co e) 4) (hp : ∀ us, post (cf_b (cf_W (cf_at co) qs s m)) (vn, nI m, fr, ft, co, we, qs, lb, us)) : ∀ d e n us, e + d = m → d < n → cf_usd us (cf_at co) s e → wY_within_22 post (nI s) vn (nI m) n (nI e) fr ft co we qs lb us := by
  intro d
  induction d with
  | zero =>
    intro e n us he hn h
    obtain ⟨n, rfl⟩ : ∃ k, n = k + 1 := ⟨n - 1, by omega⟩
    have e1 : e = m := by omega
    rw [e1] at h ⊢
    exact br_t (nI_le (Nat.le_refl _) (by omega)) ⟨5, yw_kq3 h (hp us) 4 0 5 (by omega) (by omega) rfl⟩
  | succ d ih =>
    intro e n us he hn h
    obtain ⟨n, rfl⟩ : ∃ k, n = k + 1 := ⟨n - 1, by omega⟩
    have hc : (nI e).toNatClampNeg = e := nI_clamp (by omega)
    have hi : vp_in (nI e) 12 := vp_in_nI (by omega) (by decide)
    have h4 := hco e (by omega)
    have h8 : vp_in (co e) 8 := cf_vp_le h4 (by omega)
    refine br_f (nI_ge (by omega) (by omega)) ?_
    refine br_f (nI_ge (b := 12) (by omega) (by decide)) ?_
    by_cases hb : s.testBit e = true
    · refine yw_in_t hs (by omega) hb ?_
      refine br_f (by decide) ⟨hi, by rw [hc]; exact h8, by rw [hc]; exact h8, ?_⟩
      exact nm_r (e' := upd us (cf_at co e) (us (cf_at co e) + 1)) (by rw [hc]; rfl) (nm_r (nI_1 e) (ih (e + 1) n _ (by omega) (by omega) (cf_usd_t h hb (cf_vp h4 (by decide)).1 rfl)))
    · refine yw_in_f hs (by omega) hb ?_
      exact br_t rfl (nm_r (nI_1 e) (ih (e + 1) n _ (by omega) (by omega) (cf_usd_f h hb)))
theorem yw_kq1 {post : Int32 → SY → Prop} {s m : Nat} {vn : Int32} {fr ft co we qs lb : Nat → Int32} (hs : s < 4096) (hm : m ≤ 12) (hco : ∀ e, e < m → vp_in (co e) 4) (hp : ∀ us, post (cf_b (cf_W (cf_at co) qs s m)) (vn, nI m, fr, ft, co, we, qs, lb, us)) : ∀ d c n us, c + d = 4 → d < n → cf_low c us (fun _ => 0) → wY_within_2 post (nI s) vn (nI m) n (nI c) fr ft co we qs lb us := by
  intro d
  induction d with
  | zero =>
    intro c n us he hn h
    obtain ⟨n, rfl⟩ : ∃ k, n = k + 1 := ⟨n - 1, by omega⟩
    have e1 : c = 4 := by omega
    subst e1
    exact br_t (nI_le (a := 4) (b := 4) (Nat.le_refl _) (by decide)) ⟨m + 1, yw_kq2 hs hm hco hp m 0 (m + 1) us (by omega) (by omega) (cf_usd_0 _ _ h)⟩
  | succ d ih =>
    intro c n us he hn h
    obtain ⟨n, rfl⟩ : ∃ k, n = k + 1 := ⟨n - 1, by omega⟩
    have hc : (nI c).toNatClampNeg = c := nI_clamp (by omega)
    have hi : vp_in (nI c) 8 := vp_in_nI (by omega) (by decide)
    refine br_f (nI_ge (b := 4) (by omega) (by decide)) ⟨hi, ?_⟩
    exact nm_r (e' := upd us c 0) (by rw [hc]) (nm_r (nI_1 c) (ih (c + 1) n _ (by omega) (by omega) (cf_low_u h rfl)))
theorem yw_kq {post : Int32 → SY → Prop} {s m : Nat} {vn : Int32} {fr ft co we qs lb us : Nat → Int32} (hs : s < 4096) (hm : m ≤ 12) (hco : ∀ e, e < m → vp_in (co e) 4) (hp : ∀ us, post (cf_b (cf_W (cf_at co) qs s m)) (vn, nI m, fr, ft, co, we, qs, lb, us)) : wpY_within post (vn, nI m, fr, ft, co, we, qs, lb, us) (nI s) :=
  ⟨5, yw_kq1 hs hm hco hp 4 0 5 us (by omega) (by omega) (cf_low_0 _ _)⟩
theorem yw_good {post : Int32 → SY → Prop} {s m : Nat} {vn : Int32} {fr ft co we qs lb us : Nat → Int32} (hs : s < 4096) (hm : m ≤ 12) (hfr : ∀ e, e < m → vp_in (fr e) 7) (hft : ∀ e, e < m → vp_in (ft e) 7) (hco : ∀ e, e < m → vp_in (co e) 4) (hp : ∀ lb us, post (cf_b (cf_G (cf_at fr) (cf_at ft) (cf_at co) qs s m)) (vn, nI m, fr, ft, co, we, qs, lb, us)) : wpY_good post (vn, nI m, fr, ft, co, we, qs, lb, us) (nI s) := by
  refine yw_kq hs hm hco (fun us' => ?_)
  refine cf_bb _ (fun hw => ?_) (fun hw => ?_)
  · refine yw_fo hs hm hfr hft (fun lb' => ?_)
    have h := hp lb' us'
    unfold cf_G at h
    rw [hw, Bool.and_true] at h
    refine cf_bb _ (fun hf => ?_) (fun hf => ?_)
    · rw [hf] at h; exact h
    · rw [hf] at h; exact h
  · have h := hp lb us'
    unfold cf_G at h
    rw [hw, Bool.and_false] at h
    exact h
end
section
/-! ===== Y: search ===== -/
def cf_by (T : Nat → Int32) : Option Nat → Int32
  | none => 0
  | some s => T s
theorem cf_by_take {T : Nat → Int32} {b : Option Nat} {t : Int32} (hl : (-10000 : Int32) ≤ t) (hb : ∀ c, b = some c → c < 4096) (h : cf_enc b < 0 ∨ ¬ t < cf_by T b) : ¬ t < cf_bw T b := by
  cases b with
  | none => exact Int32.not_lt.mpr hl
  | some c =>
    have hc := hb c rfl
    exact h.elim (fun z => absurd z (nI_pos (n := c) (by omega))) (fun z => z)
theorem cf_by_skip {T : Nat → Int32} {b : Option Nat} {t : Int32} (h : ¬ cf_enc b < 0 ∧ t < cf_by T b) : t < cf_bw T b := by
  cases b with
  | none => exact absurd (show cf_enc none < 0 by decide) h.1
  | some c => exact h.2
theorem yw_se0 {post : Int32 → SY → Prop} {J : Int32 → Int32 → Int32 → Int32 → Int32 → (Nat → Int32) → (Nat → Int32) → (Nat → Int32) → (Nat → Int32) → (Nat → Int32) → (Nat → Int32) → (Nat → Int32) → Prop} {k : Nat} {x1 x2 x3 x4 x5 vn mm : Int32} {fr ft co we qs lb us : Nat → Int32} (h : J x4 x5 (nI (k + 1)) vn mm fr ft co we qs lb us) : wY_search_54 post J x1 x2 x3 x4 x5 (nI k) 0 vn mm fr ft co we qs lb us :=
  br_t rfl (nm_r (nI_1 k) h)
theorem yw_se7 {post : Int32 → SY → Prop} {J : Int32 → Int32 → Int32 → Int32 → Int32 → (Nat → Int32) → (Nat → Int32) → (Nat → Int32) → (Nat → Int32) → (Nat → Int32) → (Nat → Int32) → (Nat → Int32) → Prop} {k m : Nat} {x1 x2 x3 x4 x5 vn : Int32} {fr ft co we qs lb us : Nat → Int32} (hk : k < 4096) (hm : m ≤ 12) (hfr : ∀ e, e < m → vp_in (fr e) 7) (hft : ∀ e, e < m → vp_in (ft e) 7) (hco : ∀ e, e < m → vp_in (co e) 4)
    (hs : cf_G (cf_at fr) (cf_at ft) (cf_at co) qs k m = false → ∀ lb us, J x4 x5 (nI (k + 1)) vn (nI m) fr ft co we qs lb us)
    (ht : cf_G (cf_at fr) (cf_at ft) (cf_at co) qs k m = true → ∀ lb us, J (nI k) (cf_tot we k m) (nI (k + 1)) vn (nI m) fr ft co we qs lb us) : wY_search_77 post J x1 x2 x3 x4 x5 (nI k) vn (nI m) fr ft co we qs lb us := by
  refine yw_good hk hm hfr hft hco (fun lb' us' => ?_)
  refine cf_bb _ (fun hg => ?_) (fun hg => ?_)
  · refine yw_wt hk hm ?_
    exact nm_r (nI_1 k) (ht hg lb' us')
  · exact nm_r (nI_1 k) (hs hg lb' us')
theorem yw_se1 {post : Int32 → SY → Prop} {J : Int32 → Int32 → Int32 → Int32 → Int32 → (Nat → Int32) → (Nat → Int32) → (Nat → Int32) → (Nat → Int32) → (Nat → Int32) → (Nat → Int32) → (Nat → Int32) → Prop} {k m : Nat} {x1 x2 x3 x4 x5 vn : Int32} {fr ft co we qs lb us : Nat → Int32} (hk : k < 4096) (hm : m ≤ 12) (hfr : ∀ e, e < m → vp_in (fr e) 7) (hft : ∀ e, e < m → vp_in (ft e) 7) (hco : ∀ e, e < m → vp_in (co e) 4)
    (hs : (cf_G (cf_at fr) (cf_at ft) (cf_at co) qs k m = true → ¬ x4 < 0 ∧ cf_tot we k m < x5) → ∀ lb us, J x4 x5 (nI (k + 1)) vn (nI m) fr ft co we qs lb us)
    (ht : cf_G (cf_at fr) (cf_at ft) (cf_at co) qs k m = true → (x4 < 0 ∨ ¬ cf_tot we k m < x5) → ∀ lb us, J (nI k) (cf_tot we k m) (nI (k + 1)) vn (nI m) fr ft co we qs lb us) : wY_search_54 post J x1 x2 x3 x4 x5 (nI k) 1 vn (nI m) fr ft co we qs lb us := by
  refine br_f (by decide) ?_
  by_cases h1 : x4 < 0
  · refine br_t h1 ?_
    exact yw_se7 hk hm hfr hft hco (fun hg => hs (fun z => by rw [hg] at z; cases z)) (fun hg => ht hg (Or.inl h1))
  · refine br_f h1 ?_
    refine yw_wt hk hm ?_
    by_cases h2 : cf_tot we k m < x5
    · exact br_t h2 (nm_r (nI_1 k) (hs (fun _ => ⟨h1, h2⟩) lb us))
    · refine br_f h2 ?_
      exact yw_se7 hk hm hfr hft hco (fun hg => hs (fun z => by rw [hg] at z; cases z)) (fun hg => ht hg (Or.inr h2))
theorem yw_se_l {post : Int32 → SY → Prop} {m : Nat} {q nd br vn : Int32} {fr ft co we qs : Nat → Int32} (hm : m ≤ 12) (hfr : ∀ e, e < m → vp_in (fr e) 7) (hft : ∀ e, e < m → vp_in (ft e) 7) (hco : ∀ e, e < m → vp_in (co e) 4) (hwe : ∀ e, e < m → -20 ≤ (we e).toInt ∧ (we e).toInt ≤ 50) (T : Nat → Int32) (P : Nat → Bool) (hT : T = fun s => cf_tot we s m) (hP : P = cf_PY (fun s => cf_G (cf_at fr) (cf_at ft) (cf_at co) qs s m) q nd br)
    (hp : ∀ lb us, post (cf_enc (cf_best T P (2 ^ m))) (vn, nI m, fr, ft, co, we, qs, lb, us)) : ∀ d k n lb us, k + d = 2 ^ m → d < n → wY_search_9 post q nd br n (cf_enc (cf_best T P k)) (cf_by T (cf_best T P k)) (nI k) vn (nI m) fr ft co we qs lb us := by
  have h12 := cf_p12 hm
  have hpw := cf_pw0 m
  have hsh := cf_shl1 m (by omega)
  intro d
  induction d with
  | zero =>
    intro k n lb us he hn
    obtain ⟨n, rfl⟩ : ∃ k, n = k + 1 := ⟨n - 1, by omega⟩
    have e1 : k = 2 ^ m := by omega
    subst e1
    exact br_t (by rw [hsh]; exact nI_le (Nat.le_refl _) (by omega)) (hp lb us)
  | succ d ih =>
    intro k n lb us he hn
    obtain ⟨n, rfl⟩ : ∃ k, n = k + 1 := ⟨n - 1, by omega⟩
    have ih' := fun lb us => ih (k + 1) n lb us (by omega) (by omega)
    have hk : k < 4096 := by omega
    have hlow : (-10000 : Int32) ≤ T k := by rw [hT]; exact cf_tot_ge we k m hm hwe
    have hbl : ∀ c, cf_best T P k = some c → c < 4096 := fun c hc => by
      have := cf_best_lt _ _ hc
      omega
    have hskip : (P k = true → ¬ cf_enc (cf_best T P k) < 0 ∧ T k < cf_by T (cf_best T P k)) → ∀ lb us, wY_search_9 post q nd br n (cf_enc (cf_best T P k)) (cf_by T (cf_best T P k)) (nI (k + 1)) vn (nI m) fr ft co we qs lb us := by
      intro h
      rw [cf_best_skip hlow (fun z => cf_by_skip (h z))] at ih'
      exact ih'
    have htake : P k = true → (cf_enc (cf_best T P k) < 0 ∨ ¬ T k < cf_by T (cf_best T P k)) → ∀ lb us, wY_search_9 post q nd br n (nI k) (cf_tot we k m) (nI (k + 1)) vn (nI m) fr ft co we qs lb us := by
      intro h1 h2
      rw [cf_best_take h1 (cf_by_take hlow hbl h2)] at ih'
      have e3 : cf_by T (some k) = cf_tot we k m := by rw [hT]; rfl
      rw [e3] at ih'
      exact ih'
    have hPv : P k = (decide (nI k &&& nd = nd) && (decide (nI k &&& br = 0) && (decide (q < 0 ∨ nI (cf_sz k 12) = q) && cf_G (cf_at fr) (cf_at ft) (cf_at co) qs k m))) := by rw [hP]; rfl
    have hTv : T k = cf_tot we k m := by rw [hT]
    rw [hTv] at hskip htake
    refine br_f (by rw [hsh]; exact nI_ge (by omega) (by omega)) ?_
    by_cases h1 : nI k &&& nd = nd
    · refine br_t h1 ?_
      rw [decide_eq_true h1, Bool.true_and] at hPv
      by_cases h2 : nI k &&& br = 0
      · refine br_t h2 ?_
        rw [decide_eq_true h2, Bool.true_and] at hPv
        have hyes : (q < 0 ∨ nI (cf_sz k 12) = q) → wY_search_49 post (wY_search_9 post q nd br n) q nd br (cf_enc (cf_best T P k)) (cf_by T (cf_best T P k)) (nI k) vn (nI m) fr ft co we qs lb us := by
          intro h3
          rw [decide_eq_true h3, Bool.true_and] at hPv
          rw [hPv] at hskip htake
          exact yw_se1 hk hm hfr hft hco hskip htake
        by_cases h3 : q < 0
        · exact br_t h3 (hyes (Or.inl h3))
        · refine br_f h3 ?_
          refine yw_size hk ?_
          by_cases h4 : nI (cf_sz k 12) = q
          · exact br_t h4 (hyes (Or.inr h4))
          · refine br_f h4 ?_
            rw [decide_eq_false (fun z => z.elim h3 h4), Bool.false_and] at hPv
            exact yw_se0 (hskip (fun z => by rw [hPv] at z; cases z) lb us)
      · refine br_f h2 ?_
        rw [decide_eq_false h2, Bool.false_and] at hPv
        exact yw_se0 (hskip (fun z => by rw [hPv] at z; cases z) lb us)
    · refine br_f h1 ?_
      rw [decide_eq_false h1, Bool.false_and] at hPv
      exact yw_se0 (hskip (fun z => by rw [hPv] at z; cases z) lb us)
theorem yw_se {post : Int32 → SY → Prop} {m : Nat} {q nd br vn : Int32} {fr ft co we qs lb us : Nat → Int32} (hm : m ≤ 12) (hfr : ∀ e, e < m → vp_in (fr e) 7) (hft : ∀ e, e < m → vp_in (ft e) 7) (hco : ∀ e, e < m → vp_in (co e) 4) (hwe : ∀ e, e < m → -20 ≤ (we e).toInt ∧ (we e).toInt ≤ 50)
    (hp : ∀ lb us, post (cf_enc (cf_best (fun s => cf_tot we s m) (cf_PY (fun s => cf_G (cf_at fr) (cf_at ft) (cf_at co) qs s m) q nd br) (2 ^ m))) (vn, nI m, fr, ft, co, we, qs, lb, us)) : wpY_search post (vn, nI m, fr, ft, co, we, qs, lb, us) q nd br :=
  ⟨2 ^ m + 1, yw_se_l hm hfr hft hco hwe _ _ rfl rfl hp (2 ^ m) 0 (2 ^ m + 1) lb us (by omega) (by omega)⟩
/-! ===== Y: most, rank ===== -/
theorem yw_mo_l {post : Int32 → SY → Prop} {m : Nat} {vn : Int32} {fr ft co we qs : Nat → Int32} (hm : m ≤ 12) (hfr : ∀ e, e < m → vp_in (fr e) 7) (hft : ∀ e, e < m → vp_in (ft e) 7) (hco : ∀ e, e < m → vp_in (co e) 4) (Z : Nat → Nat) (P : Nat → Bool) (hZ : Z = fun s => cf_sz s 12) (hP : P = fun s => cf_G (cf_at fr) (cf_at ft) (cf_at co) qs s m)
    (hp : ∀ lb us, post (nI (cf_mx Z P (2 ^ m))) (vn, nI m, fr, ft, co, we, qs, lb, us)) : ∀ d k n lb us, k + d = 2 ^ m → d < n → wY_most_4 post n (nI (cf_mx Z P k)) (nI k) vn (nI m) fr ft co we qs lb us := by
  have h12 := cf_p12 hm
  have hpw := cf_pw0 m
  have hsh := cf_shl1 m (by omega)
  intro d
  induction d with
  | zero =>
    intro k n lb us he hn
    obtain ⟨n, rfl⟩ : ∃ k, n = k + 1 := ⟨n - 1, by omega⟩
    have e1 : k = 2 ^ m := by omega
    subst e1
    exact br_t (by rw [hsh]; exact nI_le (Nat.le_refl _) (by omega)) (hp lb us)
  | succ d ih =>
    intro k n lb us he hn
    obtain ⟨n, rfl⟩ : ∃ k, n = k + 1 := ⟨n - 1, by omega⟩
    have ih' := fun lb us => ih (k + 1) n lb us (by omega) (by omega)
    have hk : k < 4096 := by omega
    have hz : Z k = cf_sz k 12 := by rw [hZ]
    have hzl := cf_sz_le k 12
    have hml : cf_mx Z P k ≤ 12 := cf_mx_ub Z P 12 k (fun s _ _ => by rw [hZ]; exact cf_sz_le s 12)
    refine br_f (by rw [hsh]; exact nI_ge (by omega) (by omega)) ?_
    refine yw_size hk ?_
    by_cases h1 : cf_sz k 12 ≤ cf_mx Z P k
    · rw [cf_mx_f (fun z => by have := z.1; omega)] at ih'
      exact br_t (nI_le h1 (by omega)) (nm_r (nI_1 k) (ih' lb us))
    · refine br_f (nI_ge (by omega) (by omega)) ?_
      refine yw_good hk hm hfr hft hco (fun lb' us' => ?_)
      refine cf_bb _ (fun hg => ?_) (fun hg => ?_)
      · rw [cf_mx_t (by omega) (by rw [hP]; exact hg), hz] at ih'
        refine yw_size hk ?_
        exact nm_r (nI_1 k) (ih' lb' us')
      · rw [cf_mx_f (fun z => by have h2 := z.2; rw [hP] at h2; rw [show cf_G (cf_at fr) (cf_at ft) (cf_at co) qs k m = true from h2] at hg; cases hg)] at ih'
        exact nm_r (nI_1 k) (ih' lb' us')
theorem yw_mo {post : Int32 → SY → Prop} {m : Nat} {vn : Int32} {fr ft co we qs lb us : Nat → Int32} (hm : m ≤ 12) (hfr : ∀ e, e < m → vp_in (fr e) 7) (hft : ∀ e, e < m → vp_in (ft e) 7) (hco : ∀ e, e < m → vp_in (co e) 4)
    (hp : ∀ lb us, post (nI (cf_mx (fun s => cf_sz s m) (fun s => cf_G (cf_at fr) (cf_at ft) (cf_at co) qs s m) (2 ^ m))) (vn, nI m, fr, ft, co, we, qs, lb, us)) : wpY_most post (vn, nI m, fr, ft, co, we, qs, lb, us) := by
  have e : cf_mx (fun s => cf_sz s m) (fun s => cf_G (cf_at fr) (cf_at ft) (cf_at co) qs s m) (2 ^ m) = cf_mx (fun s => cf_sz s 12) (fun s => cf_G (cf_at fr) (cf_at ft) (cf_at co) qs s m) (2 ^ m) := cf_mx_eq _ (fun s hs => ⟨(cf_sz12 hs hm).symm, rfl⟩)
  rw [e] at hp
  exact ⟨2 ^ m + 1, yw_mo_l hm hfr hft hco _ _ rfl rfl hp (2 ^ m) 0 (2 ^ m + 1) lb us (by omega) (by omega)⟩
theorem yw_rk_l {post : Int32 → SY → Prop} {m : Nat} {vn : Int32} {fr ft co we qs us : Nat → Int32} (hm : m ≤ 12) (hfr : ∀ e, e < m → vp_in (fr e) 7) (hft : ∀ e, e < m → vp_in (ft e) 7) (Z : Nat → Nat) (P : Nat → Bool) (hZ : Z = fun s => cf_sz s 12) (hP : P = fun s => cf_F (cf_at fr) (cf_at ft) s m)
    (hp : ∀ lb, post (nI (cf_mx Z P (2 ^ m))) (vn, nI m, fr, ft, co, we, qs, lb, us)) : ∀ d k n lb, k + d = 2 ^ m → d < n → wY_rank_4 post n (nI (cf_mx Z P k)) (nI k) vn (nI m) fr ft co we qs lb us := by
  have h12 := cf_p12 hm
  have hpw := cf_pw0 m
  have hsh := cf_shl1 m (by omega)
  intro d
  induction d with
  | zero =>
    intro k n lb he hn
    obtain ⟨n, rfl⟩ : ∃ k, n = k + 1 := ⟨n - 1, by omega⟩
    have e1 : k = 2 ^ m := by omega
    subst e1
    exact br_t (by rw [hsh]; exact nI_le (Nat.le_refl _) (by omega)) (hp lb)
  | succ d ih =>
    intro k n lb he hn
    obtain ⟨n, rfl⟩ : ∃ k, n = k + 1 := ⟨n - 1, by omega⟩
    have ih' := fun lb => ih (k + 1) n lb (by omega) (by omega)
    have hk : k < 4096 := by omega
    have hz : Z k = cf_sz k 12 := by rw [hZ]
    have hzl := cf_sz_le k 12
    have hml : cf_mx Z P k ≤ 12 := cf_mx_ub Z P 12 k (fun s _ _ => by rw [hZ]; exact cf_sz_le s 12)
    refine br_f (by rw [hsh]; exact nI_ge (by omega) (by omega)) ?_
    refine yw_size hk ?_
    by_cases h1 : cf_sz k 12 ≤ cf_mx Z P k
    · rw [cf_mx_f (fun z => by have := z.1; omega)] at ih'
      exact br_t (nI_le h1 (by omega)) (nm_r (nI_1 k) (ih' lb))
    · refine br_f (nI_ge (by omega) (by omega)) ?_
      refine yw_fo hk hm hfr hft (fun lb' => ?_)
      refine cf_bb _ (fun hg => ?_) (fun hg => ?_)
      · rw [cf_mx_t (by omega) (by rw [hP]; exact hg), hz] at ih'
        refine yw_size hk ?_
        exact nm_r (nI_1 k) (ih' lb')
      · rw [cf_mx_f (fun z => by have h2 := z.2; rw [hP] at h2; rw [show cf_F (cf_at fr) (cf_at ft) k m = true from h2] at hg; cases hg)] at ih'
        exact nm_r (nI_1 k) (ih' lb')
theorem yw_rk {post : Int32 → SY → Prop} {m : Nat} {vn : Int32} {fr ft co we qs lb us : Nat → Int32} (hm : m ≤ 12) (hfr : ∀ e, e < m → vp_in (fr e) 7) (hft : ∀ e, e < m → vp_in (ft e) 7)
    (hp : ∀ lb, post (nI (cf_J (cf_at fr) (cf_at ft) (2 ^ m - 1) m)) (vn, nI m, fr, ft, co, we, qs, lb, us)) : wpY_rank post (vn, nI m, fr, ft, co, we, qs, lb, us) := by
  have e : cf_mx (fun s => cf_sz s m) (fun s => cf_F (cf_at fr) (cf_at ft) s m) (2 ^ m) = cf_mx (fun s => cf_sz s 12) (fun s => cf_F (cf_at fr) (cf_at ft) s m) (2 ^ m) := cf_mx_eq _ (fun s hs => ⟨(cf_sz12 hs hm).symm, rfl⟩)
  rw [← cf_rank (cf_at fr) (cf_at ft) m (cf_at_lt (Nat.le_refl 7) hfr) (cf_at_lt (Nat.le_refl 7) hft), e] at hp
  exact ⟨2 ^ m + 1, yw_rk_l hm hfr hft _ _ rfl rfl hp (2 ^ m) 0 (2 ^ m + 1) lb (by omega) (by omega)⟩
/-! ===== Y: replaces, spares ===== -/
theorem yw_cr_l {post : Int32 → SY → Prop} {s e m : Nat} {vn : Int32} {fr ft co we qs : Nat → Int32} (hs : s < 2 ^ m) (he : e < m) (hm : m ≤ 12) (hfr : ∀ e, e < m → vp_in (fr e) 7) (hft : ∀ e, e < m → vp_in (ft e) 7) (hco : ∀ e, e < m → vp_in (co e) 4) (G : Nat → Bool) (hG : G = fun s => cf_G (cf_at fr) (cf_at ft) (cf_at co) qs s m)
    (hp : ∀ lb us, post (cf_b (cf_rep G s e m)) (vn, nI m, fr, ft, co, we, qs, lb, us)) : ∀ d f n lb us, f + d = m → d < n → cf_rep G s e f = false → wY_replaces_2 post (nI s) (nI e) n (nI f) vn (nI m) fr ft co we qs lb us := by
  have h12 := cf_p12 hm
  intro d
  induction d with
  | zero =>
    intro f n lb us hf hn h
    obtain ⟨n, rfl⟩ : ∃ k, n = k + 1 := ⟨n - 1, by omega⟩
    have e1 : f = m := by omega
    subst e1
    have h1 := hp lb us
    rw [h] at h1
    exact br_t (nI_le (Nat.le_refl _) (by omega)) h1
  | succ d ih =>
    intro f n lb us hf hn h
    obtain ⟨n, rfl⟩ : ∃ k, n = k + 1 := ⟨n - 1, by omega⟩
    have ih' := fun lb us => ih (f + 1) n lb us (by omega) (by omega)
    have hsw : (s ^^^ 2 ^ f) ||| 2 ^ e < 2 ^ m := cf_swl hs (by omega) he
    refine br_f (nI_ge (by omega) (by omega)) ?_
    refine br_f (nI_ge (b := 12) (by omega) (by decide)) ?_
    by_cases hb : s.testBit f = true
    · refine yw_in_t (by omega) (by omega) hb ?_
      refine br_f (by decide) ?_
      have hv : (nI s &&& (((1 : Int32) <<< (nI f &&& 31)) ^^^ (-1))) ||| ((1 : Int32) <<< (nI e &&& 31)) = nI ((s ^^^ 2 ^ f) ||| 2 ^ e) := by
        rw [cf_shl1 f (by omega), cf_shl1 e (by omega), cf_swp hb, cf_or]
      rw [hv]
      refine yw_good (by omega) hm hfr hft hco (fun lb' us' => ?_)
      refine cf_bb _ (fun hg => ?_) (fun hg => ?_)
      · have h1 := hp lb' us'
        rw [cf_rep_t G s e f hb (by rw [hG]; exact hg) m (by omega)] at h1
        exact h1
      · exact nm_r (nI_1 f) (ih' lb' us' (cf_rep_f h (fun z => by have h2 := z.2; rw [hG] at h2; rw [show cf_G (cf_at fr) (cf_at ft) (cf_at co) qs ((s ^^^ 2 ^ f) ||| 2 ^ e) m = true from h2] at hg; cases hg)))
    · refine yw_in_f (by omega) (by omega) hb ?_
      exact br_t rfl (nm_r (nI_1 f) (ih' lb us (cf_rep_f h (fun z => hb z.1))))
theorem yw_cr {post : Int32 → SY → Prop} {s e m : Nat} {vn : Int32} {fr ft co we qs lb us : Nat → Int32} (hs : s < 2 ^ m) (he : e < m) (hm : m ≤ 12) (hfr : ∀ e, e < m → vp_in (fr e) 7) (hft : ∀ e, e < m → vp_in (ft e) 7) (hco : ∀ e, e < m → vp_in (co e) 4) (G : Nat → Bool) (hG : G = fun s => cf_G (cf_at fr) (cf_at ft) (cf_at co) qs s m)
    (hp : ∀ lb us, post (cf_b (cf_rep G s e m)) (vn, nI m, fr, ft, co, we, qs, lb, us)) : wpY_replaces post (vn, nI m, fr, ft, co, we, qs, lb, us) (nI s) (nI e) :=
  ⟨m + 1, yw_cr_l hs he hm hfr hft hco G hG hp m 0 (m + 1) lb us (by omega) (by omega) rfl⟩
theorem yw_sp_l {post : Int32 → SY → Prop} {s m : Nat} {vn : Int32} {fr ft co we qs : Nat → Int32} (hs : s < 2 ^ m) (hm : m ≤ 12) (hfr : ∀ e, e < m → vp_in (fr e) 7) (hft : ∀ e, e < m → vp_in (ft e) 7) (hco : ∀ e, e < m → vp_in (co e) 4) (G : Nat → Bool) (hG : G = fun s => cf_G (cf_at fr) (cf_at ft) (cf_at co) qs s m)
    (hp : ∀ lb us, post (nI (cf_spc G s m m)) (vn, nI m, fr, ft, co, we, qs, lb, us)) : ∀ d e n lb us, e + d = m → d < n → wY_spares_18 post (nI s) n (nI (cf_spc G s m e)) (nI e) vn (nI m) fr ft co we qs lb us := by
  have h12 := cf_p12 hm
  intro d
  induction d with
  | zero =>
    intro e n lb us he hn
    obtain ⟨n, rfl⟩ : ∃ k, n = k + 1 := ⟨n - 1, by omega⟩
    have e1 : e = m := by omega
    subst e1
    exact br_t (nI_le (Nat.le_refl _) (by omega)) (hp lb us)
  | succ d ih =>
    intro e n lb us he hn
    obtain ⟨n, rfl⟩ : ∃ k, n = k + 1 := ⟨n - 1, by omega⟩
    have ih' := fun lb us => ih (e + 1) n lb us (by omega) (by omega)
    refine br_f (nI_ge (by omega) (by omega)) ?_
    refine br_f (nI_ge (b := 12) (by omega) (by decide)) ?_
    by_cases hb : s.testBit e = true
    · rw [cf_spc_f (fun z => z.1 hb)] at ih'
      refine yw_in_t (by omega) (by omega) hb ?_
      exact br_f (by decide) (nm_r (nI_1 e) (ih' lb us))
    · refine yw_in_f (by omega) (by omega) hb ?_
      refine br_t rfl ?_
      refine yw_cr hs (by omega) hm hfr hft hco G hG (fun lb' us' => ?_)
      refine cf_bb _ (fun hg => ?_) (fun hg => ?_)
      · rw [cf_spc_t hb hg] at ih'
        exact nm_r (nI_1 _) (nm_r (nI_1 e) (ih' lb' us'))
      · rw [cf_spc_f (fun z => by have h2 := z.2; rw [hg] at h2; cases h2)] at ih'
        exact nm_r (nI_1 e) (ih' lb' us')
theorem yw_sp_m {post : Int32 → SY → Prop} {m : Nat} {vn : Int32} {fr ft co we qs lb us : Nat → Int32} (hm : m ≤ 12) (hp : post 0 (vn, nI m, fr, ft, co, we, qs, lb, us)) : ∀ d e n, e + d = m → d < n → wY_spares_18 post (-1) n 0 (nI e) vn (nI m) fr ft co we qs lb us := by
  intro d
  induction d with
  | zero =>
    intro e n he hn
    obtain ⟨n, rfl⟩ : ∃ k, n = k + 1 := ⟨n - 1, by omega⟩
    have e1 : e = m := by omega
    subst e1
    exact br_t (nI_le (Nat.le_refl _) (by omega)) hp
  | succ d ih =>
    intro e n he hn
    obtain ⟨n, rfl⟩ : ∃ k, n = k + 1 := ⟨n - 1, by omega⟩
    refine br_f (nI_ge (by omega) (by omega)) ?_
    refine br_f (nI_ge (b := 12) (by omega) (by decide)) ?_
    refine yw_in_m (by omega) ?_
    exact br_f (by decide) (nm_r (nI_1 e) (ih (e + 1) n (by omega) (by omega)))
theorem yw_sp {post : Int32 → SY → Prop} {m : Nat} {vn : Int32} {fr ft co we qs lb us : Nat → Int32} (hm : m ≤ 12) (hfr : ∀ e, e < m → vp_in (fr e) 7) (hft : ∀ e, e < m → vp_in (ft e) 7) (hco : ∀ e, e < m → vp_in (co e) 4) (hwe : ∀ e, e < m → -20 ≤ (we e).toInt ∧ (we e).toInt ≤ 50) (G : Nat → Bool) (hG : G = fun s => cf_G (cf_at fr) (cf_at ft) (cf_at co) qs s m) (T : Nat → Int32) (hT : T = fun s => cf_tot we s m) (q : Int32) (hq : q = nI (cf_mx (fun s => cf_sz s m) G (2 ^ m)))
    (hp : ∀ lb us, post (nI (cf_sp G m (cf_best T (cf_PY G q 0 0) (2 ^ m)))) (vn, nI m, fr, ft, co, we, qs, lb, us)) : wpY_spares post (vn, nI m, fr, ft, co, we, qs, lb, us) := by
  subst hG hT hq
  refine yw_mo hm hfr hft hco (fun lb' us' => ?_)
  refine yw_se hm hfr hft hco hwe (fun lb'' us'' => ?_)
  cases hb : cf_best (fun s => cf_tot we s m) (cf_PY (fun s => cf_G (cf_at fr) (cf_at ft) (cf_at co) qs s m) (nI (cf_mx (fun s => cf_sz s m) (fun s => cf_G (cf_at fr) (cf_at ft) (cf_at co) qs s m) (2 ^ m))) 0 0) (2 ^ m) with
  | none =>
    rw [hb] at hp
    exact ⟨m + 1, yw_sp_m hm (hp lb'' us'') m 0 (m + 1) (by omega) (by omega)⟩
  | some s =>
    rw [hb] at hp
    exact ⟨m + 1, yw_sp_l (cf_best_lt _ _ hb) hm hfr hft hco _ rfl hp m 0 (m + 1) lb'' us'' (by omega) (by omega)⟩
end
section
/-! ===== the relation ===== -/
/-- the same vertices, edges, ends, colours, weights; quotas alike for the four colours; all within their bounds; the scratch arrays are free -/
def i_Rel (k : Nat) (u : SX) (v : SY) : Prop := ∃ (n m : Nat) (fr ft co we qs tr us qy lb uy : Nat → Int32), u = (nI n, nI m, fr, ft, co, we, qs, tr, us) ∧ v = (nI n, nI m, fr, ft, co, we, qy, lb, uy) ∧ cf_OK n m fr ft co we qs ∧ ∀ c, c < 4 → qs c = qy c
theorem i_up {k : Nat} {u : SX} {v : SY} (h : i_Rel k u v) : i_Rel (k + 4) u v := h
/-! ===== the constructors ===== -/
theorem xw_i_l {post : SX → Prop} {vn mm : Int32} {fr ft co we tr us : Nat → Int32} (hp : ∀ qs, cf_low 4 qs (fun _ => 6) → post (vn, mm, fr, ft, co, we, qs, tr, us)) : ∀ d c n qs, c + d = 4 → d < n → cf_low c qs (fun _ => 6) → wX_init_88 post vn mm n (nI c) fr ft co we qs tr us := by
  intro d
  induction d with
  | zero =>
    intro c n qs he hn h
    obtain ⟨n, rfl⟩ : ∃ k, n = k + 1 := ⟨n - 1, by omega⟩
    have e1 : c = 4 := by omega
    subst e1
    exact br_t (nI_le (a := 4) (b := 4) (Nat.le_refl _) (by decide)) (hp qs h)
  | succ d ih =>
    intro c n qs he hn h
    obtain ⟨n, rfl⟩ : ∃ k, n = k + 1 := ⟨n - 1, by omega⟩
    have hc : (nI c).toNatClampNeg = c := nI_clamp (by omega)
    have hi : vp_in (nI c) 4 := vp_in_nI (by omega) (by decide)
    refine br_f (nI_ge (b := 4) (by omega) (by decide)) ⟨hi, ?_⟩
    exact nm_r (e' := upd qs c 6) (by rw [hc]) (nm_r (nI_1 c) (ih (c + 1) n _ (by omega) (by omega) (cf_low_u h rfl)))
theorem yw_i_l {post : SY → Prop} {vn mm : Int32} {fr ft co we lb us : Nat → Int32} (hp : ∀ qs, cf_low 8 qs (fun _ => 6) → post (vn, mm, fr, ft, co, we, qs, lb, us)) : ∀ d c n qs, c + d = 8 → d < n → cf_low c qs (fun _ => 6) → wY_init_87 post vn mm n (nI c) fr ft co we qs lb us := by
  intro d
  induction d with
  | zero =>
    intro c n qs he hn h
    obtain ⟨n, rfl⟩ : ∃ k, n = k + 1 := ⟨n - 1, by omega⟩
    have e1 : c = 8 := by omega
    subst e1
    exact br_t (nI_le (a := 8) (b := 8) (Nat.le_refl _) (by decide)) (hp qs h)
  | succ d ih =>
    intro c n qs he hn h
    obtain ⟨n, rfl⟩ : ∃ k, n = k + 1 := ⟨n - 1, by omega⟩
    have hc : (nI c).toNatClampNeg = c := nI_clamp (by omega)
    have hi : vp_in (nI c) 8 := vp_in_nI (by omega) (by decide)
    refine br_f (nI_ge (b := 8) (by omega) (by decide)) ⟨hi, ?_⟩
    exact nm_r (e' := upd qs c 6) (by rw [hc]) (nm_r (nI_1 c) (ih (c + 1) n _ (by omega) (by omega) (cf_low_u h rfl)))
theorem xw_i {post : SX → Prop} {x2 : Int32} (hp : ∀ qs, cf_low 4 qs (fun _ => 6) → post (x2, 0, (fun _ => 0), (fun _ => 0), (fun _ => 0), (fun _ => 0), qs, (fun _ => 0), (fun _ => 0))) : wX_init_76 post x2 0 0 (fun _ => 0) (fun _ => 0) (fun _ => 0) (fun _ => 0) (fun _ => 0) (fun _ => 0) (fun _ => 0) :=
  ⟨5, xw_i_l hp 4 0 5 _ (by omega) (by omega) (cf_low_0 _ _)⟩
theorem yw_i {post : SY → Prop} {x2 : Int32} (hp : ∀ qs, cf_low 8 qs (fun _ => 6) → post (x2, 0, (fun _ => 0), (fun _ => 0), (fun _ => 0), (fun _ => 0), qs, (fun _ => 0), (fun _ => 0))) : ∃ n : Nat, wY_init_87 post x2 0 n 0 (fun _ => 0) (fun _ => 0) (fun _ => 0) (fun _ => 0) (fun _ => 0) (fun _ => 0) (fun _ => 0) :=
  ⟨9, yw_i_l hp 8 0 9 _ (by omega) (by omega) (cf_low_0 _ _)⟩
theorem xw_i_rel {n : Nat} (h2 : 2 ≤ n) (h7 : n ≤ 7) {qs qy : Nat → Int32} (hq : cf_low 4 qs (fun _ => 6)) (hy : cf_low 8 qy (fun _ => 6)) : i_Rel 1 (nI n, 0, (fun _ => 0), (fun _ => 0), (fun _ => 0), (fun _ => 0), qs, (fun _ => 0), (fun _ => 0)) (nI n, 0, (fun _ => 0), (fun _ => 0), (fun _ => 0), (fun _ => 0), qy, (fun _ => 0), (fun _ => 0)) := by
  refine ⟨n, 0, _, _, _, _, qs, _, _, qy, _, _, rfl, rfl, ⟨⟨h2, h7⟩, by omega, fun e he => absurd he (Nat.not_lt_zero e), fun e he => absurd he (Nat.not_lt_zero e), fun e he => absurd he (Nat.not_lt_zero e), fun e he => absurd he (Nat.not_lt_zero e), fun c hc => ?_⟩, fun c hc => ?_⟩
  · rw [hq c hc]
    show ¬ (6 : Int32) < 0
    decide
  · rw [hq c hc, hy c (by omega)]
theorem i_vc0 (k0 : Int32) : wpX_init (fun u => wpY_init (fun v => i_Rel 1 u v) k0) k0 := by
  by_cases h2 : 2 ≤ k0
  · by_cases h7 : k0 ≤ 7
    · obtain ⟨j, hj, rfl⟩ := nI_of2 (M := 7) (n := 7) (by decide) (fun z => absurd (Int32.lt_of_le_of_lt h2 z) (by decide)) h7
      have hj2 : 2 ≤ j := (nI_leI (a := 2) (by decide) (by omega)).mp h2
      refine br_t h2 ?_
      refine br_t h7 ?_
      refine xw_i (fun qs hq => ?_)
      refine br_t h2 ?_
      refine br_t h7 ?_
      exact yw_i (fun qy hy => xw_i_rel hj2 hj hq hy)
    · refine br_t h2 ?_
      refine br_f h7 ?_
      refine xw_i (fun qs hq => ?_)
      refine br_t h2 ?_
      refine br_f h7 ?_
      exact yw_i (fun qy hy => xw_i_rel (n := 7) (by omega) (by omega) hq hy)
  · refine br_f h2 ?_
    refine br_t (by decide) ?_
    refine xw_i (fun qs hq => ?_)
    refine br_f h2 ?_
    exact yw_i (fun qy hy => xw_i_rel (n := 2) (by omega) (by omega) hq hy)
/-! ===== the tests of the arguments ===== -/
theorem xw_col_t {post : Int32 → Prop} {u : SX} {j : Nat} (hj : j < 4) (hp : post 1) : wpX_isGoodColour post u (nI j) := by
  obtain ⟨a1, a2, a3, a4, a5, a6, a7, a8, a9⟩ := u
  exact br_f (nI_pos (by omega)) (br_f (nI_ge (b := 4) hj (by decide)) hp)
theorem xw_col_f {post : Int32 → Prop} {u : SX} {c : Int32} (h : c < 0 ∨ nI 4 ≤ c) (hp : post 0) : wpX_isGoodColour post u c := by
  obtain ⟨a1, a2, a3, a4, a5, a6, a7, a8, a9⟩ := u
  by_cases h0 : c < 0
  · exact br_t h0 hp
  · exact br_f h0 (br_t (h.elim (fun z => absurd z h0) (fun z => z)) hp)
theorem yw_col_t {post : Int32 → Prop} {u : SY} {j : Nat} (hj : j < 4) (hp : post 0) : wpY_badColour post u (nI j) := by
  obtain ⟨a1, a2, a3, a4, a5, a6, a7, a8, a9⟩ := u
  exact br_f (nI_pos (by omega)) (br_t (nI_le (b := 3) (by omega) (by decide)) hp)
theorem yw_col_f {post : Int32 → Prop} {u : SY} {c : Int32} (h : c < 0 ∨ nI 4 ≤ c) (hp : post 1) : wpY_badColour post u c := by
  obtain ⟨a1, a2, a3, a4, a5, a6, a7, a8, a9⟩ := u
  by_cases h0 : c < 0
  · exact br_t h0 hp
  · have h4 : nI 4 ≤ c := h.elim (fun z => absurd z h0) (fun z => z)
    exact br_f h0 (br_f (fun z => absurd (Int32.le_trans h4 z) (by decide)) hp)
theorem xw_wei_t {post : Int32 → Prop} {u : SX} {c : Int32} (h1 : ¬ c < -20) (h2 : ¬ 50 < c) (hp : post 1) : wpX_isGoodWeight post u c := by
  obtain ⟨a1, a2, a3, a4, a5, a6, a7, a8, a9⟩ := u
  exact br_f h1 (br_f h2 hp)
theorem xw_wei_f {post : Int32 → Prop} {u : SX} {c : Int32} (h : ¬ (¬ c < -20 ∧ ¬ 50 < c)) (hp : post 0) : wpX_isGoodWeight post u c := by
  obtain ⟨a1, a2, a3, a4, a5, a6, a7, a8, a9⟩ := u
  by_cases h1 : c < -20
  · exact br_t h1 hp
  · exact br_f h1 (br_t (Classical.not_not.mp (fun z => h ⟨h1, z⟩)) hp)
theorem yw_wei_t {post : Int32 → Prop} {u : SY} {c : Int32} (h1 : ¬ c < -20) (h2 : ¬ 50 < c) (hp : post 0) : wpY_badWeight post u c := by
  obtain ⟨a1, a2, a3, a4, a5, a6, a7, a8, a9⟩ := u
  exact br_f h1 (br_t (Int32.not_lt.mp h2) hp)
theorem yw_wei_f {post : Int32 → Prop} {u : SY} {c : Int32} (h : ¬ (¬ c < -20 ∧ ¬ 50 < c)) (hp : post 1) : wpY_badWeight post u c := by
  obtain ⟨a1, a2, a3, a4, a5, a6, a7, a8, a9⟩ := u
  by_cases h1 : c < -20
  · exact br_t h1 hp
  · exact br_f h1 (br_f (fun z => h ⟨h1, Int32.not_lt.mpr z⟩) hp)
theorem xw_edg_t {post : Int32 → Prop} {vn : Int32} {fr ft co we qs tr us : Nat → Int32} {m j : Nat} (hm : m ≤ 12) (hj : j < m) (hp : post 1) : wpX_isGoodEdge post (vn, nI m, fr, ft, co, we, qs, tr, us) (nI j) :=
  br_f (nI_pos (by omega)) (br_f (nI_ge hj (by omega)) hp)
theorem xw_edg_f {post : Int32 → Prop} {vn : Int32} {fr ft co we qs tr us : Nat → Int32} {m : Nat} {c : Int32} (h : c < 0 ∨ nI m ≤ c) (hp : post 0) : wpX_isGoodEdge post (vn, nI m, fr, ft, co, we, qs, tr, us) c := by
  by_cases h0 : c < 0
  · exact br_t h0 hp
  · exact br_f h0 (br_t (h.elim (fun z => absurd z h0) (fun z => z)) hp)
theorem yw_edg_t {post : Int32 → Prop} {vn : Int32} {fr ft co we qs lb us : Nat → Int32} {m j : Nat} (hm : m ≤ 12) (hj : j < m) (hp : post 0) : wpY_badEdge post (vn, nI m, fr, ft, co, we, qs, lb, us) (nI j) :=
  br_f (nI_pos (by omega)) (br_f (nI_ge hj (by omega)) (br_t (nI_le (b := 11) (by omega) (by decide)) hp))
theorem yw_edg_f {post : Int32 → Prop} {vn : Int32} {fr ft co we qs lb us : Nat → Int32} {m : Nat} {c : Int32} (h : c < 0 ∨ nI m ≤ c) (hp : post 1) : wpY_badEdge post (vn, nI m, fr, ft, co, we, qs, lb, us) c := by
  by_cases h0 : c < 0
  · exact br_t h0 hp
  · exact br_f h0 (br_t (h.elim (fun z => absurd z h0) (fun z => z)) hp)
theorem cf_ix (x : Int32) {n : Nat} (hn : n < 2 ^ 31) : (x < 0 ∨ nI n ≤ x) ∨ ∃ j : Nat, j < n ∧ x = nI j := by
  rcases pk_ix x hn with h | h | h
  · exact Or.inl (Or.inl h)
  · exact Or.inl (Or.inr h)
  · exact Or.inr h
theorem cf_wb {c : Int32} (h1 : ¬ c < -20) (h2 : ¬ 50 < c) : -20 ≤ c.toInt ∧ c.toInt ≤ 50 := by
  have e1 : (-20 : Int32).toInt = -20 := by decide
  have e2 : (50 : Int32).toInt = 50 := by decide
  rw [Int32.lt_iff_toInt_lt, e1] at h1
  rw [Int32.lt_iff_toInt_lt, e2] at h2
  omega
theorem cf_up_n {P : Int32 → Prop} {a : Nat → Int32} {m : Nat} {x : Int32} (h : ∀ e, e < m → P (a e)) (hx : P x) : ∀ e, e < m + 1 → P (upd a m x e) := by
  intro e he
  by_cases q : e = m
  · subst q; rw [pk_us]; exact hx
  · rw [pk_un q]; exact h e (by omega)
theorem cf_up_s {P : Int32 → Prop} {a : Nat → Int32} {m j : Nat} {x : Int32} (h : ∀ e, e < m → P (a e)) (hx : P x) : ∀ e, e < m → P (upd a j x e) := by
  intro e he
  by_cases q : e = j
  · subst q; rw [pk_us]; exact hx
  · rw [pk_un q]; exact h e he
/-! ===== link ===== -/
theorem cf_lk {j n : Nat} (hj : j < 2 ^ 31) (hn : n ≤ 7) (h1 : ¬ nI n ≤ nI j / 8) (h2 : ¬ nI n ≤ nI j - nI j / 8 * 8) : vp_in (nI j / 8) 7 ∧ vp_in (nI j - nI j / 8 * 8) 7 := by
  have e1 : nI j / 8 = nI (j / 8) := pk_div (d := 8) hj (by decide) (by decide)
  have e2 : nI j - nI j / 8 * 8 = nI (j % 8) := pk_rem (d := 8) hj (by decide) (by decide)
  rw [e2] at h2 ⊢
  rw [e1] at h1 ⊢
  rw [nI_leI (by omega) (by omega)] at h1 h2
  exact ⟨vp_in_nI (by omega) (by decide), vp_in_nI (by omega) (by decide)⟩
theorem i_vc_link {k : Nat} {u : SX} {v : SY} (I : i_Rel k u v) (hk : k + 4 ≤ 2049) (v1 : Int32) (v2 : Int32) (v3 : Int32) : wpX_link (fun r u' => wpY_link (fun r' v' => r' = r ∧ i_Rel (k + 4) u' v') v v1 v2 v3) u v1 v2 v3 := by
  have I0 : i_Rel (k + 4) u v := I
  obtain ⟨n, m, fr, ft, co, we, qs, tr, us, qy, lb, uy, rfl, rfl, ⟨⟨hn2, hn7⟩, hm, hfr, hft, hco, hwe, hqs⟩, hq⟩ := I
  by_cases h0 : v1 < 0
  · refine br_t h0 ?_
    refine br_t rfl ?_
    exact br_t h0 ⟨rfl, I0⟩
  · refine br_f h0 ⟨by decide, ?_⟩
    by_cases h1 : nI n ≤ v1 / 8
    · refine br_t h1 ?_
      refine br_t rfl ?_
      exact br_f h0 ⟨by decide, br_t h1 ⟨rfl, I0⟩⟩
    · refine br_f h1 ⟨by decide, ?_⟩
      by_cases h2 : nI n ≤ v1 - v1 / 8 * 8
      · refine br_t h2 ?_
        refine br_t rfl ?_
        exact br_f h0 ⟨by decide, br_f h1 ⟨by decide, br_f (Int32.not_lt.mpr h2) ⟨rfl, I0⟩⟩⟩
      · refine br_f h2 ?_
        refine br_f (by decide) ?_
        have hY : ∀ {A B : Prop}, A → ((v1 - v1 / 8 * 8) < nI n → A) ∧ (¬ (v1 - v1 / 8 * 8) < nI n → B) := fun a => br_t (Int32.not_le.mp h2) a
        rcases cf_ix v2 (n := 4) (by decide) with hc | ⟨c, hc, rfl⟩
        · refine xw_col_f hc ?_
          refine br_t rfl ?_
          refine br_f h0 ⟨by decide, br_f h1 ⟨by decide, hY ?_⟩⟩
          refine yw_col_f hc ?_
          exact br_f (by decide) ⟨rfl, I0⟩
        · refine xw_col_t hc ?_
          refine br_f (by decide) ?_
          by_cases hw : ¬ v3 < -20 ∧ ¬ 50 < v3
          · refine xw_wei_t hw.1 hw.2 ?_
            refine br_f (by decide) ?_
            by_cases hl : m < 12
            · have hcl : (nI m).toNatClampNeg = m := nI_clamp (by omega)
              have hi : vp_in (nI m) 12 := vp_in_nI hl (by decide)
              obtain ⟨j, hj, rfl⟩ := nI_of h0
              obtain ⟨g1, g2⟩ := cf_lk hj hn7 h1 h2
              have R : i_Rel (k + 4) (nI n, nI (m + 1), upd fr m (nI j / 8), upd ft m (nI j - nI j / 8 * 8), upd co m (nI c), upd we m v3, qs, tr, us) (nI n, nI (m + 1), upd fr m (nI j / 8), upd ft m (nI j - nI j / 8 * 8), upd co m (nI c), upd we m v3, qy, lb, uy) :=
                ⟨n, m + 1, _, _, _, _, qs, tr, us, qy, lb, uy, rfl, rfl, ⟨⟨hn2, hn7⟩, hl, cf_up_n (P := fun x => vp_in x 7) hfr g1, cf_up_n (P := fun x => vp_in x 7) hft g2, cf_up_n (P := fun x => vp_in x 4) hco (vp_in_nI hc (by decide)), cf_up_n (P := fun x => -20 ≤ x.toInt ∧ x.toInt ≤ 50) hwe (cf_wb hw.1 hw.2), hqs⟩, hq⟩
              refine br_t (nI_lt (b := 12) hl (by decide)) ⟨by decide, hi, ?_⟩
              refine nm_r (e' := upd fr m (nI j / 8)) (by rw [hcl]) ⟨by decide, hi, ?_⟩
              refine nm_r (e' := upd ft m (nI j - nI j / 8 * 8)) (by rw [hcl]) ⟨hi, ?_⟩
              refine nm_r (e' := upd co m (nI c)) (by rw [hcl]) ⟨hi, ?_⟩
              refine nm_r (e' := upd we m v3) (by rw [hcl]) ?_
              refine nm_r (nI_1 m) ?_
              refine br_f h0 ⟨by decide, br_f h1 ⟨by decide, hY ?_⟩⟩
              refine yw_col_t hc ?_
              refine br_t rfl ?_
              refine yw_wei_t hw.1 hw.2 ?_
              refine br_t rfl ?_
              refine br_t (nI_lt (b := 12) hl (by decide)) ⟨by decide, hi, ?_⟩
              refine nm_r (e' := upd fr m (nI j / 8)) (by rw [hcl]) ⟨by decide, hi, ?_⟩
              refine nm_r (e' := upd ft m (nI j - nI j / 8 * 8)) (by rw [hcl]) ⟨hi, ?_⟩
              refine nm_r (e' := upd co m (nI c)) (by rw [hcl]) ⟨hi, ?_⟩
              refine nm_r (e' := upd we m v3) (by rw [hcl]) ?_
              exact nm_r (nI_1 m) ⟨rfl, R⟩
            · have hl' : ¬ nI m < 12 := nI_nlt (b := 12) (by omega) (by omega)
              refine br_f hl' ?_
              refine br_f h0 ⟨by decide, br_f h1 ⟨by decide, hY ?_⟩⟩
              refine yw_col_t hc ?_
              refine br_t rfl ?_
              refine yw_wei_t hw.1 hw.2 ?_
              refine br_t rfl ?_
              exact br_f hl' ⟨rfl, I0⟩
          · refine xw_wei_f hw ?_
            refine br_t rfl ?_
            refine br_f h0 ⟨by decide, br_f h1 ⟨by decide, hY ?_⟩⟩
            refine yw_col_t hc ?_
            refine br_t rfl ?_
            refine yw_wei_f hw ?_
            exact br_f (by decide) ⟨rfl, I0⟩
end
section
/-! ===== cut ===== -/
def cf_sh (a : Nat → Int32) (j e : Nat) : Nat → Int32 := fun i => if j ≤ i ∧ i < e then a (i + 1) else a i
theorem cf_sh_0 (a : Nat → Int32) (j : Nat) : cf_sh a j j = a := by
  funext i
  unfold cf_sh
  rw [if_neg (by omega)]
theorem cf_sh_s (a : Nat → Int32) {j e : Nat} (h : j ≤ e) : upd (cf_sh a j e) e (cf_sh a j e (e + 1)) = cf_sh a j (e + 1) := by
  funext i
  by_cases q : i = e
  · subst q
    rw [pk_us]
    unfold cf_sh
    rw [if_neg (by omega), if_pos ⟨h, by omega⟩]
  · rw [pk_un q]
    unfold cf_sh
    by_cases z : j ≤ i ∧ i < e
    · rw [if_pos z, if_pos ⟨z.1, by omega⟩]
    · rw [if_neg z, if_neg (by omega)]
theorem cf_sh_all {P : Int32 → Prop} {a : Nat → Int32} {j p : Nat} (h : ∀ e, e < p + 1 → P (a e)) : ∀ e, e < p → P (cf_sh a j p e) := by
  intro e he
  unfold cf_sh
  split
  · exact h (e + 1) (by omega)
  · exact h e (by omega)
theorem xw_cut_l {post : Int32 → SX → Prop} {vn : Int32} {fr ft co we qs tr us : Nat → Int32} {j p : Nat} (hp12 : p + 1 ≤ 12) (hp : post (nI p) (vn, nI p, cf_sh fr j p, cf_sh ft j p, cf_sh co j p, cf_sh we j p, qs, tr, us)) : ∀ d e n, e + d = p → j ≤ e → d < n → wX_cut_12 post vn (nI (p + 1)) n (nI e) (cf_sh fr j e) (cf_sh ft j e) (cf_sh co j e) (cf_sh we j e) qs tr us := by
  have hpr : nI (p + 1) - 1 = nI p := nI_pred p
  intro d
  induction d with
  | zero =>
    intro e n he hj hn
    obtain ⟨n, rfl⟩ : ∃ k, n = k + 1 := ⟨n - 1, by omega⟩
    have e1 : e = p := by omega
    subst e1
    exact br_t (by rw [hpr]; exact nI_le (Nat.le_refl _) (by omega)) (nm_r hpr hp)
  | succ d ih =>
    intro e n he hj hn
    obtain ⟨n, rfl⟩ : ∃ k, n = k + 1 := ⟨n - 1, by omega⟩
    have h := ih (e + 1) n (by omega) (by omega) (by omega)
    have hc : (nI e).toNatClampNeg = e := nI_clamp (by omega)
    have hc1 : (nI e + 1).toNatClampNeg = e + 1 := by rw [nI_1]; exact nI_clamp (by omega)
    have hi : vp_in (nI e) 12 := vp_in_nI (by omega) (by decide)
    have hi1 : vp_in (nI e + 1) 12 := by rw [nI_1]; exact vp_in_nI (by omega) (by decide)
    refine br_f (by rw [hpr]; exact nI_ge (by omega) (by omega)) ⟨hi1, hi, ?_⟩
    refine nm_r (e' := cf_sh fr j (e + 1)) (by rw [hc, hc1]; exact cf_sh_s fr hj) ⟨hi1, hi, ?_⟩
    refine nm_r (e' := cf_sh ft j (e + 1)) (by rw [hc, hc1]; exact cf_sh_s ft hj) ⟨hi1, hi, ?_⟩
    refine nm_r (e' := cf_sh co j (e + 1)) (by rw [hc, hc1]; exact cf_sh_s co hj) ⟨hi1, hi, ?_⟩
    refine nm_r (e' := cf_sh we j (e + 1)) (by rw [hc, hc1]; exact cf_sh_s we hj) ?_
    exact nm_r (nI_1 e) h
theorem yw_cut_l {post : Int32 → SY → Prop} {vn : Int32} {fr ft co we qs lb us : Nat → Int32} {j p : Nat} (hp12 : p + 1 ≤ 12) (hp : post (nI p) (vn, nI p, cf_sh fr j p, cf_sh ft j p, cf_sh co j p, cf_sh we j p, qs, lb, us)) : ∀ d e n, e + d = p → j ≤ e → d < n → wY_cut_12 post vn (nI (p + 1)) n (nI e) (cf_sh fr j e) (cf_sh ft j e) (cf_sh co j e) (cf_sh we j e) qs lb us := by
  have hpr : nI (p + 1) - 1 = nI p := nI_pred p
  intro d
  induction d with
  | zero =>
    intro e n he hj hn
    obtain ⟨n, rfl⟩ : ∃ k, n = k + 1 := ⟨n - 1, by omega⟩
    have e1 : e = p := by omega
    subst e1
    refine br_t (by rw [hpr]; exact nI_le (Nat.le_refl _) (by omega)) ?_
    exact nm_r hpr hp
  | succ d ih =>
    intro e n he hj hn
    obtain ⟨n, rfl⟩ : ∃ k, n = k + 1 := ⟨n - 1, by omega⟩
    have h := ih (e + 1) n (by omega) (by omega) (by omega)
    have hc : (nI e).toNatClampNeg = e := nI_clamp (by omega)
    have hc1 : (nI e + 1).toNatClampNeg = e + 1 := by rw [nI_1]; exact nI_clamp (by omega)
    have hi : vp_in (nI e) 12 := vp_in_nI (by omega) (by decide)
    have hi1 : vp_in (nI e + 1) 12 := by rw [nI_1]; exact vp_in_nI (by omega) (by decide)
    refine br_f (by rw [hpr]; exact nI_ge (by omega) (by omega)) ?_
    refine br_f (nI_ge (b := 11) (by omega) (by decide)) ⟨hi1, hi, ?_⟩
    refine nm_r (e' := cf_sh fr j (e + 1)) (by rw [hc, hc1]; exact cf_sh_s fr hj) ⟨hi1, hi, ?_⟩
    refine nm_r (e' := cf_sh ft j (e + 1)) (by rw [hc, hc1]; exact cf_sh_s ft hj) ⟨hi1, hi, ?_⟩
    refine nm_r (e' := cf_sh co j (e + 1)) (by rw [hc, hc1]; exact cf_sh_s co hj) ⟨hi1, hi, ?_⟩
    refine nm_r (e' := cf_sh we j (e + 1)) (by rw [hc, hc1]; exact cf_sh_s we hj) ?_
    exact nm_r (nI_1 e) h
theorem i_vc_cut {k : Nat} {u : SX} {v : SY} (I : i_Rel k u v) (hk : k + 4 ≤ 2049) (v1 : Int32) : wpX_cut (fun r u' => wpY_cut (fun r' v' => r' = r ∧ i_Rel (k + 4) u' v') v v1) u v1 := by
  have I0 : i_Rel (k + 4) u v := I
  obtain ⟨n, m, fr, ft, co, we, qs, tr, us, qy, lb, uy, rfl, rfl, ⟨⟨hn2, hn7⟩, hm, hfr, hft, hco, hwe, hqs⟩, hq⟩ := I
  unfold wpX_cut wpY_cut
  dsimp only
  rcases cf_ix v1 (n := m) (by omega) with hc | ⟨j, hj, rfl⟩
  · refine xw_edg_f hc ?_
    refine br_t rfl ?_
    refine yw_edg_f hc ?_
    exact br_f (by decide) ⟨rfl, I0⟩
  · obtain ⟨p, rfl⟩ : ∃ p, m = p + 1 := ⟨m - 1, by omega⟩
    have R : i_Rel (k + 4) (nI n, nI p, cf_sh fr j p, cf_sh ft j p, cf_sh co j p, cf_sh we j p, qs, tr, us) (nI n, nI p, cf_sh fr j p, cf_sh ft j p, cf_sh co j p, cf_sh we j p, qy, lb, uy) :=
      ⟨n, p, _, _, _, _, qs, tr, us, qy, lb, uy, rfl, rfl, ⟨⟨hn2, hn7⟩, by omega, cf_sh_all (P := fun x => vp_in x 7) hfr, cf_sh_all (P := fun x => vp_in x 7) hft, cf_sh_all (P := fun x => vp_in x 4) hco, cf_sh_all (P := fun x => -20 ≤ x.toInt ∧ x.toInt ≤ 50) hwe, hqs⟩, hq⟩
    refine xw_edg_t hm hj ?_
    refine br_f (by decide) ?_
    have hX := xw_cut_l (post := fun r u' => wpY_cut (fun r' v' => r' = r ∧ i_Rel (k + 4) u' v') (nI n, nI (p + 1), fr, ft, co, we, qy, lb, uy) (nI j)) (vn := nI n) (fr := fr) (ft := ft) (co := co) (we := we) (qs := qs) (tr := tr) (us := us) (j := j) (p := p) hm ?_ (p - j) j (p - j + 1) (by omega) (Nat.le_refl j) (by omega)
    · rw [cf_sh_0, cf_sh_0, cf_sh_0, cf_sh_0] at hX
      exact ⟨_, hX⟩
    · unfold wpY_cut
      dsimp only
      refine yw_edg_t hm hj ?_
      refine br_t rfl ?_
      have hY := yw_cut_l (post := fun r' v' => r' = nI p ∧ i_Rel (k + 4) (nI n, nI p, cf_sh fr j p, cf_sh ft j p, cf_sh co j p, cf_sh we j p, qs, tr, us) v') (vn := nI n) (fr := fr) (ft := ft) (co := co) (we := we) (qs := qy) (lb := lb) (us := uy) (j := j) (p := p) hm ⟨rfl, R⟩ (p - j) j (p - j + 1) (by omega) (Nat.le_refl j) (by omega)
      rw [cf_sh_0, cf_sh_0, cf_sh_0, cf_sh_0] at hY
      exact ⟨_, hY⟩
/-! ===== weigh, paint, quota, edges ===== -/
theorem i_vc_weigh {k : Nat} {u : SX} {v : SY} (I : i_Rel k u v) (hk : k + 4 ≤ 2049) (v1 : Int32) (v2 : Int32) : wpX_weigh (fun r u' => wpY_weigh (fun r' v' => r' = r ∧ i_Rel (k + 4) u' v') v v1 v2) u v1 v2 := by
  have I0 : i_Rel (k + 4) u v := I
  obtain ⟨n, m, fr, ft, co, we, qs, tr, us, qy, lb, uy, rfl, rfl, ⟨⟨hn2, hn7⟩, hm, hfr, hft, hco, hwe, hqs⟩, hq⟩ := I
  unfold wpX_weigh wpY_weigh
  dsimp only
  rcases cf_ix v1 (n := m) (by omega) with hc | ⟨j, hj, rfl⟩
  · refine xw_edg_f hc ?_
    refine br_t rfl ?_
    refine yw_edg_f hc ?_
    exact br_f (by decide) ⟨rfl, I0⟩
  · refine xw_edg_t hm hj ?_
    refine br_f (by decide) ?_
    by_cases hw : ¬ v2 < -20 ∧ ¬ 50 < v2
    · have hcl : (nI j).toNatClampNeg = j := nI_clamp (by omega)
      have hi : vp_in (nI j) 12 := vp_in_nI (by omega) (by decide)
      have R : i_Rel (k + 4) (nI n, nI m, fr, ft, co, upd we j v2, qs, tr, us) (nI n, nI m, fr, ft, co, upd we j v2, qy, lb, uy) :=
        ⟨n, m, _, _, _, _, qs, tr, us, qy, lb, uy, rfl, rfl, ⟨⟨hn2, hn7⟩, hm, hfr, hft, hco, cf_up_s (P := fun x => -20 ≤ x.toInt ∧ x.toInt ≤ 50) hwe (cf_wb hw.1 hw.2), hqs⟩, hq⟩
      refine xw_wei_t hw.1 hw.2 ?_
      refine br_f (by decide) ⟨hi, ?_⟩
      refine nm_r (e' := we j) (by rw [hcl]) ⟨hi, ?_⟩
      refine nm_r (e' := upd we j v2) (by rw [hcl]) ?_
      refine yw_edg_t hm hj ?_
      refine br_t rfl ?_
      refine yw_wei_t hw.1 hw.2 ?_
      refine br_t rfl ⟨hi, ?_⟩
      refine nm_r (e' := we j) (by rw [hcl]) ⟨hi, ?_⟩
      exact nm_r (e' := upd we j v2) (by rw [hcl]) ⟨rfl, R⟩
    · refine xw_wei_f hw ?_
      refine br_t rfl ?_
      refine yw_edg_t hm hj ?_
      refine br_t rfl ?_
      refine yw_wei_f hw ?_
      exact br_f (by decide) ⟨rfl, I0⟩
theorem i_vc_paint {k : Nat} {u : SX} {v : SY} (I : i_Rel k u v) (hk : k + 4 ≤ 2049) (v1 : Int32) (v2 : Int32) : wpX_paint (fun r u' => wpY_paint (fun r' v' => r' = r ∧ i_Rel (k + 4) u' v') v v1 v2) u v1 v2 := by
  have I0 : i_Rel (k + 4) u v := I
  obtain ⟨n, m, fr, ft, co, we, qs, tr, us, qy, lb, uy, rfl, rfl, ⟨⟨hn2, hn7⟩, hm, hfr, hft, hco, hwe, hqs⟩, hq⟩ := I
  unfold wpX_paint wpY_paint
  dsimp only
  rcases cf_ix v1 (n := m) (by omega) with hc | ⟨j, hj, rfl⟩
  · refine xw_edg_f hc ?_
    refine br_t rfl ?_
    refine yw_edg_f hc ?_
    exact br_f (by decide) ⟨rfl, I0⟩
  · refine xw_edg_t hm hj ?_
    refine br_f (by decide) ?_
    rcases cf_ix v2 (n := 4) (by decide) with hc | ⟨c, hc, rfl⟩
    · refine xw_col_f hc ?_
      refine br_t rfl ?_
      refine yw_edg_t hm hj ?_
      refine br_t rfl ?_
      refine yw_col_f hc ?_
      exact br_f (by decide) ⟨rfl, I0⟩
    · have hcl : (nI j).toNatClampNeg = j := nI_clamp (by omega)
      have hi : vp_in (nI j) 12 := vp_in_nI (by omega) (by decide)
      have R : i_Rel (k + 4) (nI n, nI m, fr, ft, upd co j (nI c), we, qs, tr, us) (nI n, nI m, fr, ft, upd co j (nI c), we, qy, lb, uy) :=
        ⟨n, m, _, _, _, _, qs, tr, us, qy, lb, uy, rfl, rfl, ⟨⟨hn2, hn7⟩, hm, hfr, hft, cf_up_s (P := fun x => vp_in x 4) hco (vp_in_nI hc (by decide)), hwe, hqs⟩, hq⟩
      refine xw_col_t hc ?_
      refine br_f (by decide) ⟨hi, ?_⟩
      refine nm_r (e' := co j) (by rw [hcl]) ⟨hi, ?_⟩
      refine nm_r (e' := upd co j (nI c)) (by rw [hcl]) ?_
      refine yw_edg_t hm hj ?_
      refine br_t rfl ?_
      refine yw_col_t hc ?_
      refine br_t rfl ⟨hi, ?_⟩
      refine nm_r (e' := co j) (by rw [hcl]) ⟨hi, ?_⟩
      exact nm_r (e' := upd co j (nI c)) (by rw [hcl]) ⟨rfl, R⟩
theorem i_vc_quota {k : Nat} {u : SX} {v : SY} (I : i_Rel k u v) (hk : k + 4 ≤ 2049) (v1 : Int32) (v2 : Int32) : wpX_quota (fun r u' => wpY_quota (fun r' v' => r' = r ∧ i_Rel (k + 4) u' v') v v1 v2) u v1 v2 := by
  have I0 : i_Rel (k + 4) u v := I
  obtain ⟨n, m, fr, ft, co, we, qs, tr, us, qy, lb, uy, rfl, rfl, ⟨⟨hn2, hn7⟩, hm, hfr, hft, hco, hwe, hqs⟩, hq⟩ := I
  unfold wpX_quota wpY_quota
  dsimp only
  rcases cf_ix v1 (n := 4) (by decide) with hc | ⟨c, hc, rfl⟩
  · refine xw_col_f hc ?_
    refine br_t rfl ?_
    refine yw_col_f hc ?_
    exact br_f (by decide) ⟨rfl, I0⟩
  · refine xw_col_t hc ?_
    refine br_f (by decide) ?_
    by_cases h0 : v2 < 0
    · refine br_t h0 ?_
      refine yw_col_t hc ?_
      refine br_t rfl ?_
      exact br_t h0 ⟨rfl, I0⟩
    · refine br_f h0 ?_
      by_cases h6 : v2 ≤ 6
      · have hcl : (nI c).toNatClampNeg = c := nI_clamp (by omega)
        have hi : vp_in (nI c) 4 := vp_in_nI (by omega) (by decide)
        have hi8 : vp_in (nI c) 8 := vp_in_nI (by omega) (by decide)
        have R : i_Rel (k + 4) (nI n, nI m, fr, ft, co, we, upd qs c v2, tr, us) (nI n, nI m, fr, ft, co, we, upd qy c v2, lb, uy) := by
          refine ⟨n, m, _, _, _, _, _, tr, us, _, lb, uy, rfl, rfl, ⟨⟨hn2, hn7⟩, hm, hfr, hft, hco, hwe, cf_up_s (P := fun x => ¬ x < 0) hqs h0⟩, fun d hd => ?_⟩
          by_cases q : d = c
          · subst q; rw [pk_us, pk_us]
          · rw [pk_un q, pk_un q]; exact hq d hd
        refine br_t h6 ⟨hi, ?_⟩
        refine nm_r (e' := qs c) (by rw [hcl]) ⟨hi, ?_⟩
        refine nm_r (e' := upd qs c v2) (by rw [hcl]) ?_
        refine yw_col_t hc ?_
        refine br_t rfl ?_
        refine br_f h0 ?_
        refine br_t h6 ⟨hi8, ?_⟩
        refine nm_r (e' := qy c) (by rw [hcl]) ⟨hi8, ?_⟩
        exact nm_r (e' := upd qy c v2) (by rw [hcl]) ⟨(hq c hc).symm, R⟩
      · refine br_f h6 ?_
        refine yw_col_t hc ?_
        refine br_t rfl ?_
        refine br_f h0 ?_
        exact br_f h6 ⟨rfl, I0⟩
theorem i_vc_edges {k : Nat} {u : SX} {v : SY} (I : i_Rel k u v) (hk : k + 4 ≤ 2049) : wpX_edges (fun r => wpY_edges (fun r' => r' = r ∧ i_Rel (k + 4) u v) v) u := by
  have I0 : i_Rel (k + 4) u v := I
  obtain ⟨n, m, fr, ft, co, we, qs, tr, us, qy, lb, uy, rfl, rfl, hO, hq⟩ := I
  exact ⟨rfl, I0⟩
end
section
/-! ===== questions ===== -/
theorem cf_Gq {A B C : Nat → Nat} {qs qy : Nat → Int32} {m : Nat} (hq : ∀ c, c < 4 → qs c = qy c) : (fun s => cf_G A B C qs s m) = (fun s => cf_G A B C qy s m) := by
  funext s
  unfold cf_G cf_W
  rw [cf_q4_eq 4 hq]
theorem cf_PX_0 {G : Nat → Bool} {m : Nat} (hm : m ≤ 12) (hG : G 0 = true) (br : Int32) : cf_PX G m 0 br 0 12 0 = true := by
  have hle := cf_sz_le 0 m
  have h1 : (0 : Int32) ≤ nI (cf_sz 0 m) := nI_pos' (by omega)
  have h2 : nI (cf_sz 0 m) ≤ 12 := nI_le (b := 12) (by omega) (by decide)
  have h3 : nI 0 &&& br = 0 := by rw [nI_0]; exact Int32.zero_and
  unfold cf_PX
  rw [decide_eq_true h1, decide_eq_true h2, decide_eq_true h3, hG]
  decide
theorem cf_bXa {T : Nat → Int32} (G : Nat → Bool) {m : Nat} (hm : m ≤ 12) (nd br : Int32) : cf_best T (cf_PX G m nd br 0 12) (2 ^ m) = cf_best T (cf_PY G (-1) nd br) (2 ^ m) := cf_best_eq _ (fun _ _ => cf_PXY_a G hm nd br)
theorem cf_bXk {T : Nat → Int32} (G : Nat → Bool) {m : Nat} (hm : m ≤ 12) {q : Int32} (hq : ¬ q < 0) (nd br : Int32) : cf_best T (cf_PX G m nd br q q) (2 ^ m) = cf_best T (cf_PY G q nd br) (2 ^ m) := cf_best_eq _ (fun _ hs => cf_PXY_k G hm hq nd br hs)
theorem cf_b0 {T : Nat → Int32} {G : Nat → Bool} {m : Nat} (hm : m ≤ 12) (hG : G 0 = true) (br : Int32) : ∃ b, cf_best T (cf_PX G m 0 br 0 12) (2 ^ m) = some b ∧ b < 4096 := by
  have h12 := cf_p12 hm
  have hpw := cf_pw0 m
  obtain ⟨b, hb⟩ := cf_best_some (T := T) (P := cf_PX G m 0 br 0 12) (cf_PX_0 hm hG br) (2 ^ m - 1)
  rw [show 2 ^ m - 1 + 1 = 2 ^ m by omega] at hb
  have := cf_best_lt _ _ hb
  exact ⟨b, hb, by omega⟩
theorem xw_all {post : Int32 → Prop} {m : Nat} {vn : Int32} {fr ft co we qs tr us : Nat → Int32} (hm : m ≤ 12) (hp : post (nI (2 ^ m - 1))) : wpX_allEdges post (vn, nI m, fr, ft, co, we, qs, tr, us) := by
  rw [← cf_allI m (by omega)] at hp
  exact hp
theorem xw_won_m {post : Int32 → Prop} {vn mm : Int32} {fr ft co we qs tr us : Nat → Int32} (hp : post (-10000)) : wpX_weightOrNone post (vn, mm, fr, ft, co, we, qs, tr, us) (-1) := br_t rfl hp
theorem cf_enc_s (b : Nat) : cf_enc (some b) = nI b := rfl
theorem cf_enc_n : cf_enc none = -1 := rfl
theorem i_vc_isGood {k : Nat} {u : SX} {v : SY} (I : i_Rel k u v) (hk : k + 4 ≤ 2049) (v1 : Int32) : wpX_isGood (fun r u' => wpY_isGood (fun r' v' => r' = r ∧ i_Rel (k + 4) u' v') v v1) u v1 := by
  have I0 : i_Rel (k + 4) u v := I
  obtain ⟨n, m, fr, ft, co, we, qs, tr, us, qy, lb, uy, rfl, rfl, ⟨hn, hm, hfr, hft, hco, hwe, hqs⟩, hq⟩ := I
  have R : ∀ tr us lb uy : Nat → Int32, i_Rel (k + 4) (nI n, nI m, fr, ft, co, we, qs, tr, us) (nI n, nI m, fr, ft, co, we, qy, lb, uy) := fun tr us lb uy => ⟨n, m, fr, ft, co, we, qs, tr, us, qy, lb, uy, rfl, rfl, ⟨hn, hm, hfr, hft, hco, hwe, hqs⟩, hq⟩
  have h12 := cf_p12 hm
  have hpw := cf_pw0 m
  have hsh := cf_shl1 m (by omega)
  unfold wpX_isGood wpY_isGood
  dsimp only
  by_cases h0 : v1 < 0
  · exact br_t h0 (br_t h0 ⟨rfl, I0⟩)
  · obtain ⟨s, hs, rfl⟩ := nI_of h0
    have hGs : cf_G (cf_at fr) (cf_at ft) (cf_at co) qs s m = cf_G (cf_at fr) (cf_at ft) (cf_at co) qy s m := congrFun (cf_Gq hq) s
    refine br_f h0 ?_
    refine xw_all hm ?_
    by_cases hl : s < 2 ^ m
    · have hl' : nI s < (1 : Int32) <<< (nI m &&& 31) := by rw [hsh]; exact nI_lt hl (by omega)
      refine br_t (nI_le (by omega) (by omega)) ?_
      refine xw_good (by omega) hm hfr hft hco (fun tr' us' => ?_)
      refine cf_bb _ (fun hg => ?_) (fun hg => ?_)
      · refine br_f h0 ?_
        refine br_t hl' ?_
        refine yw_good (by omega) hm hfr hft hco (fun lb' uy' => ?_)
        rw [← hGs, hg]
        exact br_f (by decide) ⟨rfl, R tr' us' lb' uy'⟩
      · refine br_f h0 ?_
        refine br_t hl' ?_
        refine yw_good (by omega) hm hfr hft hco (fun lb' uy' => ?_)
        rw [← hGs, hg]
        exact br_t rfl ⟨rfl, R tr' us' lb' uy'⟩
    · refine br_f (nI_ge (by omega) (by omega)) ?_
      refine br_f h0 ?_
      exact br_f (by rw [hsh]; exact nI_nlt (by omega) (by omega)) ⟨rfl, I0⟩
theorem i_vc_best {k : Nat} {u : SX} {v : SY} (I : i_Rel k u v) (hk : k + 4 ≤ 2049) : wpX_best (fun r u' => wpY_best (fun r' v' => r' = r ∧ i_Rel (k + 4) u' v') v) u := by
  obtain ⟨n, m, fr, ft, co, we, qs, tr, us, qy, lb, uy, rfl, rfl, ⟨hn, hm, hfr, hft, hco, hwe, hqs⟩, hq⟩ := I
  have R : ∀ tr us lb uy : Nat → Int32, i_Rel (k + 4) (nI n, nI m, fr, ft, co, we, qs, tr, us) (nI n, nI m, fr, ft, co, we, qy, lb, uy) := fun tr us lb uy => ⟨n, m, fr, ft, co, we, qs, tr, us, qy, lb, uy, rfl, rfl, ⟨hn, hm, hfr, hft, hco, hwe, hqs⟩, hq⟩
  obtain ⟨b, hb, hbl⟩ := cf_b0 (T := fun s => cf_tot we s m) (G := fun s => cf_G (cf_at fr) (cf_at ft) (cf_at co) qs s m) hm (cf_G_0 _ _ _ _ _ hqs) 0
  unfold wpX_best wpY_best
  dsimp only
  refine xw_ba hm hfr hft hco hwe (fun tr' us' => ?_)
  rw [hb, cf_enc_s]
  refine xw_won hbl hm ?_
  refine yw_se hm hfr hft hco hwe (fun lb' uy' => ?_)
  rw [← cf_Gq hq, ← cf_bXa _ hm, hb, cf_enc_s]
  refine yw_wt hbl hm ?_
  exact ⟨rfl, R tr' us' lb' uy'⟩
theorem i_vc_bestSet {k : Nat} {u : SX} {v : SY} (I : i_Rel k u v) (hk : k + 4 ≤ 2049) : wpX_bestSet (fun r u' => wpY_bestSet (fun r' v' => r' = r ∧ i_Rel (k + 4) u' v') v) u := by
  obtain ⟨n, m, fr, ft, co, we, qs, tr, us, qy, lb, uy, rfl, rfl, ⟨hn, hm, hfr, hft, hco, hwe, hqs⟩, hq⟩ := I
  have R : ∀ tr us lb uy : Nat → Int32, i_Rel (k + 4) (nI n, nI m, fr, ft, co, we, qs, tr, us) (nI n, nI m, fr, ft, co, we, qy, lb, uy) := fun tr us lb uy => ⟨n, m, fr, ft, co, we, qs, tr, us, qy, lb, uy, rfl, rfl, ⟨hn, hm, hfr, hft, hco, hwe, hqs⟩, hq⟩
  unfold wpX_bestSet wpY_bestSet
  dsimp only
  refine xw_ba hm hfr hft hco hwe (fun tr' us' => ?_)
  refine yw_se hm hfr hft hco hwe (fun lb' uy' => ?_)
  rw [← cf_Gq hq, ← cf_bXa _ hm]
  exact ⟨rfl, R tr' us' lb' uy'⟩
theorem i_vc_bestOf {k : Nat} {u : SX} {v : SY} (I : i_Rel k u v) (hk : k + 4 ≤ 2049) (v1 : Int32) : wpX_bestOf (fun r u' => wpY_bestOf (fun r' v' => r' = r ∧ i_Rel (k + 4) u' v') v v1) u v1 := by
  obtain ⟨n, m, fr, ft, co, we, qs, tr, us, qy, lb, uy, rfl, rfl, ⟨hn, hm, hfr, hft, hco, hwe, hqs⟩, hq⟩ := I
  have R : ∀ tr us lb uy : Nat → Int32, i_Rel (k + 4) (nI n, nI m, fr, ft, co, we, qs, tr, us) (nI n, nI m, fr, ft, co, we, qy, lb, uy) := fun tr us lb uy => ⟨n, m, fr, ft, co, we, qs, tr, us, qy, lb, uy, rfl, rfl, ⟨hn, hm, hfr, hft, hco, hwe, hqs⟩, hq⟩
  have h12 := cf_p12 hm
  unfold wpX_bestOf wpY_bestOf
  dsimp only
  refine xw_ba hm hfr hft hco hwe (fun tr' us' => ?_)
  by_cases h0 : v1 < 0
  · rw [cf_best_none _ (fun s _ => cf_PX_n _ hm h0 0 0 s), cf_enc_n]
    refine xw_won_m ?_
    refine br_f (Int32.not_le.mpr h0) ?_
    exact br_f (by decide) ⟨rfl, R tr' us' lb uy⟩
  · have h0' : 0 ≤ v1 := Int32.not_lt.mp h0
    cases hb : cf_best (fun s => cf_tot we s m) (cf_PX (fun s => cf_G (cf_at fr) (cf_at ft) (cf_at co) qs s m) m 0 0 v1 v1) (2 ^ m) with
    | none =>
      rw [cf_enc_n]
      refine xw_won_m ?_
      refine br_t h0' ?_
      refine yw_se hm hfr hft hco hwe (fun lb' uy' => ?_)
      rw [← cf_Gq hq, ← cf_bXk _ hm h0, hb, cf_enc_n]
      exact br_f (by decide) ⟨rfl, R tr' us' lb' uy'⟩
    | some b =>
      have hbl := cf_best_lt _ _ hb
      rw [cf_enc_s]
      refine xw_won (by omega) hm ?_
      refine br_t h0' ?_
      refine yw_se hm hfr hft hco hwe (fun lb' uy' => ?_)
      rw [← cf_Gq hq, ← cf_bXk _ hm h0, hb, cf_enc_s]
      refine br_t (nI_pos' (by omega)) ?_
      refine yw_wt (by omega) hm ?_
      exact ⟨rfl, R tr' us' lb' uy'⟩
theorem i_vc_bestSetOf {k : Nat} {u : SX} {v : SY} (I : i_Rel k u v) (hk : k + 4 ≤ 2049) (v1 : Int32) : wpX_bestSetOf (fun r u' => wpY_bestSetOf (fun r' v' => r' = r ∧ i_Rel (k + 4) u' v') v v1) u v1 := by
  obtain ⟨n, m, fr, ft, co, we, qs, tr, us, qy, lb, uy, rfl, rfl, ⟨hn, hm, hfr, hft, hco, hwe, hqs⟩, hq⟩ := I
  have R : ∀ tr us lb uy : Nat → Int32, i_Rel (k + 4) (nI n, nI m, fr, ft, co, we, qs, tr, us) (nI n, nI m, fr, ft, co, we, qy, lb, uy) := fun tr us lb uy => ⟨n, m, fr, ft, co, we, qs, tr, us, qy, lb, uy, rfl, rfl, ⟨hn, hm, hfr, hft, hco, hwe, hqs⟩, hq⟩
  unfold wpX_bestSetOf wpY_bestSetOf
  dsimp only
  refine xw_ba hm hfr hft hco hwe (fun tr' us' => ?_)
  by_cases h0 : v1 < 0
  · rw [cf_best_none _ (fun s _ => cf_PX_n _ hm h0 0 0 s), cf_enc_n]
    exact br_f (Int32.not_le.mpr h0) ⟨rfl, R tr' us' lb uy⟩
  · refine br_t (Int32.not_lt.mp h0) ?_
    refine yw_se hm hfr hft hco hwe (fun lb' uy' => ?_)
    rw [← cf_Gq hq, ← cf_bXk _ hm h0]
    exact ⟨rfl, R tr' us' lb' uy'⟩
theorem i_vc_greatest {k : Nat} {u : SX} {v : SY} (I : i_Rel k u v) (hk : k + 4 ≤ 2049) : wpX_greatest (fun r u' => wpY_greatest (fun r' v' => r' = r ∧ i_Rel (k + 4) u' v') v) u := by
  obtain ⟨n, m, fr, ft, co, we, qs, tr, us, qy, lb, uy, rfl, rfl, ⟨hn, hm, hfr, hft, hco, hwe, hqs⟩, hq⟩ := I
  have R : ∀ tr us lb uy : Nat → Int32, i_Rel (k + 4) (nI n, nI m, fr, ft, co, we, qs, tr, us) (nI n, nI m, fr, ft, co, we, qy, lb, uy) := fun tr us lb uy => ⟨n, m, fr, ft, co, we, qs, tr, us, qy, lb, uy, rfl, rfl, ⟨hn, hm, hfr, hft, hco, hwe, hqs⟩, hq⟩
  unfold wpY_greatest
  dsimp only
  refine xw_gr hm hfr hft hco (fun tr' us' => ?_)
  refine yw_mo hm hfr hft hco (fun lb' uy' => ?_)
  rw [← cf_Gq hq]
  exact ⟨rfl, R tr' us' lb' uy'⟩
theorem i_vc_bestWith {k : Nat} {u : SX} {v : SY} (I : i_Rel k u v) (hk : k + 4 ≤ 2049) (v1 : Int32) : wpX_bestWith (fun r u' => wpY_bestWith (fun r' v' => r' = r ∧ i_Rel (k + 4) u' v') v v1) u v1 := by
  have I0 : i_Rel (k + 4) u v := I
  obtain ⟨n, m, fr, ft, co, we, qs, tr, us, qy, lb, uy, rfl, rfl, ⟨hn, hm, hfr, hft, hco, hwe, hqs⟩, hq⟩ := I
  have R : ∀ tr us lb uy : Nat → Int32, i_Rel (k + 4) (nI n, nI m, fr, ft, co, we, qs, tr, us) (nI n, nI m, fr, ft, co, we, qy, lb, uy) := fun tr us lb uy => ⟨n, m, fr, ft, co, we, qs, tr, us, qy, lb, uy, rfl, rfl, ⟨hn, hm, hfr, hft, hco, hwe, hqs⟩, hq⟩
  have h12 := cf_p12 hm
  unfold wpX_bestWith wpY_bestWith
  dsimp only
  rcases cf_ix v1 (n := m) (by omega) with hc | ⟨j, hj, rfl⟩
  · refine xw_edg_f hc ?_
    refine br_t rfl ?_
    refine yw_edg_f hc ?_
    exact br_f (by decide) ⟨rfl, I0⟩
  · refine xw_edg_t hm hj ?_
    refine br_f (by decide) ?_
    refine xw_ba hm hfr hft hco hwe (fun tr' us' => ?_)
    cases hb : cf_best (fun s => cf_tot we s m) (cf_PX (fun s => cf_G (cf_at fr) (cf_at ft) (cf_at co) qs s m) m ((1 : Int32) <<< (nI j &&& 31)) 0 0 12) (2 ^ m) with
    | none =>
      rw [cf_enc_n]
      refine xw_won_m ?_
      refine yw_edg_t hm hj ?_
      refine br_t rfl ?_
      refine yw_se hm hfr hft hco hwe (fun lb' uy' => ?_)
      rw [← cf_Gq hq, ← cf_bXa _ hm, hb, cf_enc_n]
      exact br_f (by decide) ⟨rfl, R tr' us' lb' uy'⟩
    | some b =>
      have hbl := cf_best_lt _ _ hb
      rw [cf_enc_s]
      refine xw_won (by omega) hm ?_
      refine yw_edg_t hm hj ?_
      refine br_t rfl ?_
      refine yw_se hm hfr hft hco hwe (fun lb' uy' => ?_)
      rw [← cf_Gq hq, ← cf_bXa _ hm, hb, cf_enc_s]
      refine br_t (nI_pos' (by omega)) ?_
      refine yw_wt (by omega) hm ?_
      exact ⟨rfl, R tr' us' lb' uy'⟩
theorem i_vc_bestWithout {k : Nat} {u : SX} {v : SY} (I : i_Rel k u v) (hk : k + 4 ≤ 2049) (v1 : Int32) : wpX_bestWithout (fun r u' => wpY_bestWithout (fun r' v' => r' = r ∧ i_Rel (k + 4) u' v') v v1) u v1 := by
  have I0 : i_Rel (k + 4) u v := I
  obtain ⟨n, m, fr, ft, co, we, qs, tr, us, qy, lb, uy, rfl, rfl, ⟨hn, hm, hfr, hft, hco, hwe, hqs⟩, hq⟩ := I
  have R : ∀ tr us lb uy : Nat → Int32, i_Rel (k + 4) (nI n, nI m, fr, ft, co, we, qs, tr, us) (nI n, nI m, fr, ft, co, we, qy, lb, uy) := fun tr us lb uy => ⟨n, m, fr, ft, co, we, qs, tr, us, qy, lb, uy, rfl, rfl, ⟨hn, hm, hfr, hft, hco, hwe, hqs⟩, hq⟩
  unfold wpX_bestWithout wpY_bestWithout
  dsimp only
  rcases cf_ix v1 (n := m) (by omega) with hc | ⟨j, hj, rfl⟩
  · refine xw_edg_f hc ?_
    refine br_t rfl ?_
    refine yw_edg_f hc ?_
    exact br_f (by decide) ⟨rfl, I0⟩
  · obtain ⟨b, hb, hbl⟩ := cf_b0 (T := fun s => cf_tot we s m) (G := fun s => cf_G (cf_at fr) (cf_at ft) (cf_at co) qs s m) hm (cf_G_0 _ _ _ _ _ hqs) ((1 : Int32) <<< (nI j &&& 31))
    refine xw_edg_t hm hj ?_
    refine br_f (by decide) ?_
    refine xw_ba hm hfr hft hco hwe (fun tr' us' => ?_)
    rw [hb, cf_enc_s]
    refine xw_won hbl hm ?_
    refine yw_edg_t hm hj ?_
    refine br_t rfl ?_
    refine yw_se hm hfr hft hco hwe (fun lb' uy' => ?_)
    rw [← cf_Gq hq, ← cf_bXa _ hm, hb, cf_enc_s]
    refine yw_wt hbl hm ?_
    exact ⟨rfl, R tr' us' lb' uy'⟩
theorem i_vc_spares {k : Nat} {u : SX} {v : SY} (I : i_Rel k u v) (hk : k + 4 ≤ 2049) : wpX_spares (fun r u' => wpY_spares (fun r' v' => r' = r ∧ i_Rel (k + 4) u' v') v) u := by
  obtain ⟨n, m, fr, ft, co, we, qs, tr, us, qy, lb, uy, rfl, rfl, ⟨hn, hm, hfr, hft, hco, hwe, hqs⟩, hq⟩ := I
  have R : ∀ tr us lb uy : Nat → Int32, i_Rel (k + 4) (nI n, nI m, fr, ft, co, we, qs, tr, us) (nI n, nI m, fr, ft, co, we, qy, lb, uy) := fun tr us lb uy => ⟨n, m, fr, ft, co, we, qs, tr, us, qy, lb, uy, rfl, rfl, ⟨hn, hm, hfr, hft, hco, hwe, hqs⟩, hq⟩
  have hml : cf_mx (fun s => cf_sz s m) (fun s => cf_G (cf_at fr) (cf_at ft) (cf_at co) qs s m) (2 ^ m) ≤ 12 := cf_mx_ub _ _ 12 _ (fun s _ _ => Nat.le_trans (cf_sz_le s m) hm)
  have h0 : ¬ nI (cf_mx (fun s => cf_sz s m) (fun s => cf_G (cf_at fr) (cf_at ft) (cf_at co) qs s m) (2 ^ m)) < 0 := nI_pos (by omega)
  refine xw_sp hm hfr hft hco hwe _ rfl _ rfl _ rfl (fun tr' us' => ?_)
  refine yw_sp hm hfr hft hco hwe (fun s => cf_G (cf_at fr) (cf_at ft) (cf_at co) qs s m) (cf_Gq hq) _ rfl _ rfl (fun lb' uy' => ?_)
  rw [cf_bXk _ hm h0]
  exact ⟨rfl, R tr' us' lb' uy'⟩
theorem i_vc_rank {k : Nat} {u : SX} {v : SY} (I : i_Rel k u v) (hk : k + 4 ≤ 2049) : wpX_rank (fun r u' => wpY_rank (fun r' v' => r' = r ∧ i_Rel (k + 4) u' v') v) u := by
  obtain ⟨n, m, fr, ft, co, we, qs, tr, us, qy, lb, uy, rfl, rfl, ⟨hn, hm, hfr, hft, hco, hwe, hqs⟩, hq⟩ := I
  have R : ∀ tr us lb uy : Nat → Int32, i_Rel (k + 4) (nI n, nI m, fr, ft, co, we, qs, tr, us) (nI n, nI m, fr, ft, co, we, qy, lb, uy) := fun tr us lb uy => ⟨n, m, fr, ft, co, we, qs, tr, us, qy, lb, uy, rfl, rfl, ⟨hn, hm, hfr, hft, hco, hwe, hqs⟩, hq⟩
  refine xw_rk hm hfr hft (fun tr' => ?_)
  refine yw_rk hm hfr hft (fun lb' => ?_)
  exact ⟨rfl, R tr' us lb' uy⟩
end
