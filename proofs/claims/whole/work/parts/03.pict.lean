/-! ===== pictures of the scratch arrays ===== -/
def cf_low (v : Nat) (a f : Nat → Int32) : Prop := ∀ w, w < v → a w = f w
theorem cf_low_0 (a f : Nat → Int32) : cf_low 0 a f := fun w h => absurd h (Nat.not_lt_zero w)
theorem cf_low_u {v : Nat} {a f : Nat → Int32} (h : cf_low v a f) {x : Int32} (hx : x = f v) : cf_low (v + 1) (upd a v x) f := by
  intro w hw
  by_cases e : w = v
  · subst e; rw [pk_us, hx]
  · rw [pk_un e]; exact h w (by omega)
def cf_pic (N : Nat) (tr : Nat → Int32) (L : Nat → Nat) : Prop := ∀ w, w < N → tr w = nI (L w)
def cf_mid (N v : Nat) (tr : Nat → Int32) (L M : Nat → Nat) : Prop := ∀ w, w < N → tr w = nI (if w < v then M w else L w)
theorem cf_mid_0 {N : Nat} {tr : Nat → Int32} {L : Nat → Nat} (M : Nat → Nat) (h : cf_pic N tr L) : cf_mid N 0 tr L M := by
  intro w hw
  rw [h w hw, if_neg (Nat.not_lt_zero w)]
theorem cf_mid_N {N : Nat} {tr : Nat → Int32} {L M : Nat → Nat} (h : cf_mid N N tr L M) : cf_pic N tr M := by
  intro w hw
  rw [h w hw, if_pos hw]
theorem cf_mid_v {N v : Nat} {tr : Nat → Int32} {L M : Nat → Nat} (h : cf_mid N v tr L M) (hv : v < N) : tr v = nI (L v) := by
  rw [h v hv, if_neg (Nat.lt_irrefl v)]
theorem cf_mid_k {N v : Nat} {tr : Nat → Int32} {L M : Nat → Nat} (h : cf_mid N v tr L M) (hv : M v = L v) : cf_mid N (v + 1) tr L M := by
  intro w hw
  rw [h w hw]
  by_cases e : w = v
  · subst e; rw [if_neg (Nat.lt_irrefl w), if_pos (Nat.lt_succ_self w), hv]
  · by_cases q : w < v
    · rw [if_pos q, if_pos (by omega)]
    · rw [if_neg q, if_neg (by omega)]
theorem cf_mid_u {N v : Nat} {tr : Nat → Int32} {L M : Nat → Nat} (h : cf_mid N v tr L M) {x : Int32} (hx : x = nI (M v)) : cf_mid N (v + 1) (upd tr v x) L M := by
  intro w hw
  by_cases e : w = v
  · subst e; rw [pk_us, hx, if_pos (Nat.lt_succ_self w)]
  · rw [pk_un e, h w hw]
    by_cases q : w < v
    · rw [if_pos q, if_pos (by omega)]
    · rw [if_neg q, if_neg (by omega)]
theorem cf_ren_t {L : Nat → Nat} {g k v : Nat} (h : L v = g) : cf_ren L g k v = k := if_pos h
theorem cf_ren_f {L : Nat → Nat} {g k v : Nat} (h : ¬ L v = g) : cf_ren L g k v = L v := if_neg h
def cf_usd (us : Nat → Int32) (C : Nat → Nat) (s e : Nat) : Prop := ∀ c, c < 4 → us c = nI (cf_U C s c e)
theorem cf_usd_0 {us : Nat → Int32} (C : Nat → Nat) (s : Nat) (h : cf_low 4 us (fun _ => 0)) : cf_usd us C s 0 := fun c hc => h c hc
theorem cf_usd_f {us : Nat → Int32} {C : Nat → Nat} {s e : Nat} (h : cf_usd us C s e) (hb : ¬ s.testBit e = true) : cf_usd us C s (e + 1) := by
  intro c hc
  have hn : ¬ (s.testBit e = true ∧ C e = c) := fun z => hb z.1
  rw [h c hc]
  simp only [cf_U]
  rw [if_neg hn]
theorem cf_usd_t {us : Nat → Int32} {C : Nat → Nat} {s e : Nat} (h : cf_usd us C s e) (hb : s.testBit e = true) (hC : C e < 4) {x : Int32} (hx : x = us (C e) + 1) : cf_usd (upd us (C e) x) C s (e + 1) := by
  intro c hc
  simp only [cf_U]
  by_cases q : C e = c
  · subst q
    rw [pk_us, hx, if_pos ⟨hb, rfl⟩, h _ hC, nI_1]
  · have hn : ¬ (s.testBit e = true ∧ C e = c) := fun z => q z.2
    rw [pk_un (fun z => q z.symm), if_neg hn]
    exact h c hc
theorem cf_F_0 (A B : Nat → Nat) (m : Nat) : cf_F A B 0 m = true := by
  rw [cf_F_t]
  intro e _ te
  rw [Nat.zero_testBit] at te
  cases te
theorem cf_U_0 (C : Nat → Nat) (c : Nat) : ∀ m, cf_U C 0 c m = 0 := by
  intro m
  induction m with
  | zero => rfl
  | succ m ih =>
    have hn : ¬ ((0 : Nat).testBit m = true ∧ C m = c) := fun z => by
      have := z.1
      rw [Nat.zero_testBit] at this
      cases this
    simp only [cf_U]
    rw [if_neg hn, ih]
theorem cf_q4_0 (C : Nat → Nat) (Q : Nat → Int32) (m : Nat) : ∀ k, (∀ c, c < k → ¬ Q c < 0) → cf_q4 C Q 0 m k = true := by
  intro k
  induction k with
  | zero => intro _; rfl
  | succ k ih =>
    intro h
    have h1 : ¬ Q k < nI (cf_U C 0 k m) := by rw [cf_U_0]; exact h k (by omega)
    simp only [cf_q4]
    rw [ih (fun c hc => h c (by omega)), decide_eq_true h1]
    rfl
theorem cf_q4_f (C : Nat → Nat) (Q : Nat → Int32) (s m c : Nat) (h : Q c < nI (cf_U C s c m)) : ∀ k, c < k → cf_q4 C Q s m k = false := by
  intro k
  induction k with
  | zero => intro hc; omega
  | succ k ih =>
    intro hc
    simp only [cf_q4]
    by_cases e : c = k
    · subst e
      rw [decide_eq_false (fun z => z h), Bool.and_false]
    · rw [ih (by omega), Bool.false_and]
theorem cf_q4_t {C : Nat → Nat} {Q : Nat → Int32} {s m c : Nat} (h : ¬ Q c < nI (cf_U C s c m)) (hq : cf_q4 C Q s m c = true) : cf_q4 C Q s m (c + 1) = true := by
  simp only [cf_q4]
  rw [hq, decide_eq_true h]
  rfl
theorem cf_q4_eq {C : Nat → Nat} {Q Q' : Nat → Int32} {s m : Nat} : ∀ k, (∀ c, c < k → Q c = Q' c) → cf_q4 C Q s m k = cf_q4 C Q' s m k := by
  intro k
  induction k with
  | zero => intro _; rfl
  | succ k ih =>
    intro h
    simp only [cf_q4]
    rw [ih (fun c hc => h c (by omega)), h k (by omega)]
theorem cf_G_0 (A B C : Nat → Nat) (Q : Nat → Int32) (m : Nat) (hQ : ∀ c, c < 4 → ¬ Q c < 0) : cf_G A B C Q 0 m = true := by
  unfold cf_G cf_W
  rw [cf_F_0, cf_q4_0 C Q m 4 hQ]
  rfl
theorem cf_swl {s f e m : Nat} (hs : s < 2 ^ m) (hf : f < m) (he : e < m) : (s ^^^ 2 ^ f) ||| 2 ^ e < 2 ^ m :=
  Nat.or_lt_two_pow (Nat.xor_lt_two_pow hs (Nat.pow_lt_pow_right (by decide) hf)) (Nat.pow_lt_pow_right (by decide) he)
/-! ===== which sets are asked for; replacing; spares ===== -/
def cf_PX (G : Nat → Bool) (m : Nat) (nd br lo hi : Int32) (s : Nat) : Bool := decide (nI s &&& nd = nd) && (decide (nI s &&& br = 0) && (decide (lo ≤ nI (cf_sz s m)) && (decide (nI (cf_sz s m) ≤ hi) && G s)))
def cf_PY (G : Nat → Bool) (k nd br : Int32) (s : Nat) : Bool := decide (nI s &&& nd = nd) && (decide (nI s &&& br = 0) && (decide (k < 0 ∨ nI (cf_sz s 12) = k) && G s))
theorem cf_PXY_a (G : Nat → Bool) {m : Nat} (hm : m ≤ 12) (nd br : Int32) {s : Nat} : cf_PX G m nd br 0 12 s = cf_PY G (-1) nd br s := by
  have hle := cf_sz_le s m
  have h1 : (0 : Int32) ≤ nI (cf_sz s m) := nI_pos' (by omega)
  have h2 : nI (cf_sz s m) ≤ 12 := nI_le (b := 12) (by omega) (by decide)
  have h3 : (-1 : Int32) < 0 ∨ nI (cf_sz s 12) = -1 := Or.inl (by decide)
  unfold cf_PX cf_PY
  rw [decide_eq_true h1, decide_eq_true h2, decide_eq_true h3, Bool.true_and, Bool.true_and]
theorem cf_PXY_k (G : Nat → Bool) {m : Nat} (hm : m ≤ 12) {k : Int32} (hk : ¬ k < 0) (nd br : Int32) {s : Nat} (hs : s < 2 ^ m) : cf_PX G m nd br k k s = cf_PY G k nd br s := by
  unfold cf_PX cf_PY
  rw [cf_sz12 hs hm]
  by_cases e : nI (cf_sz s m) = k
  · rw [decide_eq_true (show k ≤ nI (cf_sz s m) by rw [e]; exact Int32.le_refl k), decide_eq_true (show nI (cf_sz s m) ≤ k by rw [e]; exact Int32.le_refl k), decide_eq_true (show k < 0 ∨ nI (cf_sz s m) = k from Or.inr e), Bool.true_and, Bool.true_and]
  · rw [decide_eq_false (show ¬ (k < 0 ∨ nI (cf_sz s m) = k) from fun z => z.elim hk e), Bool.false_and]
    by_cases h1 : k ≤ nI (cf_sz s m)
    · have h2 : ¬ nI (cf_sz s m) ≤ k := fun h2 => e (Int32.le_antisymm h2 h1)
      rw [decide_eq_false h2, Bool.false_and, Bool.and_false]
    · rw [decide_eq_false h1, Bool.false_and]
theorem cf_PX_n (G : Nat → Bool) {m : Nat} (hm : m ≤ 12) {k : Int32} (hk : k < 0) (nd br : Int32) (s : Nat) : cf_PX G m nd br k k s = false := by
  have hle := cf_sz_le s m
  have h1 : (0 : Int32) ≤ nI (cf_sz s m) := nI_pos' (by omega)
  have h2 : ¬ nI (cf_sz s m) ≤ k := fun z => Int32.not_le.mpr hk (Int32.le_trans h1 z)
  unfold cf_PX
  rw [decide_eq_false h2, Bool.false_and, Bool.and_false, Bool.and_false, Bool.and_false]
def cf_rep (G : Nat → Bool) (s e : Nat) : Nat → Bool
  | 0 => false
  | f + 1 => cf_rep G s e f || (s.testBit f && G ((s ^^^ 2 ^ f) ||| 2 ^ e))
theorem cf_rep_t (G : Nat → Bool) (s e f : Nat) (h1 : s.testBit f = true) (h2 : G ((s ^^^ 2 ^ f) ||| 2 ^ e) = true) : ∀ k, f < k → cf_rep G s e k = true := by
  intro k
  induction k with
  | zero => intro h; omega
  | succ k ih =>
    intro h
    simp only [cf_rep]
    by_cases q : f = k
    · subst q; rw [h1, h2]; simp
    · rw [ih (by omega)]; rfl
theorem cf_rep_f {G : Nat → Bool} {s e f : Nat} (h : cf_rep G s e f = false) (h2 : ¬ (s.testBit f = true ∧ G ((s ^^^ 2 ^ f) ||| 2 ^ e) = true)) : cf_rep G s e (f + 1) = false := by
  simp only [cf_rep]
  rw [h, Bool.false_or]
  cases h3 : s.testBit f with
  | false => rfl
  | true =>
    cases h4 : G ((s ^^^ 2 ^ f) ||| 2 ^ e) with
    | false => rfl
    | true => exact absurd ⟨h3, h4⟩ h2
def cf_spc (G : Nat → Bool) (s m : Nat) : Nat → Nat
  | 0 => 0
  | e + 1 => if ¬ s.testBit e = true ∧ cf_rep G s e m = true then cf_spc G s m e + 1 else cf_spc G s m e
theorem cf_spc_le (G : Nat → Bool) (s m : Nat) : ∀ e, cf_spc G s m e ≤ e := by
  intro e
  induction e with
  | zero => exact Nat.le_refl 0
  | succ e ih => simp only [cf_spc]; split <;> omega
def cf_sp (G : Nat → Bool) (m : Nat) : Option Nat → Nat
  | none => 0
  | some s => cf_spc G s m m
/-! ===== what holds of the shared state ===== -/
def cf_OK (n m : Nat) (fr ft co we qs : Nat → Int32) : Prop := (2 ≤ n ∧ n ≤ 7) ∧ m ≤ 12 ∧ (∀ e, e < m → vp_in (fr e) 7) ∧ (∀ e, e < m → vp_in (ft e) 7) ∧ (∀ e, e < m → vp_in (co e) 4) ∧ (∀ e, e < m → -20 ≤ (we e).toInt ∧ (we e).toInt ≤ 50) ∧ (∀ c, c < 4 → ¬ qs c < 0)
def cf_at (a : Nat → Int32) : Nat → Nat := fun e => (a e).toNatClampNeg
theorem cf_at_lt {a : Nat → Int32} {n m : Nat} (hn : n ≤ 7) (h : ∀ e, e < m → vp_in (a e) n) : ∀ e, e < m → cf_at a e < 7 := by
  intro e he
  have := (cf_vp (h e he) (by omega)).1
  unfold cf_at
  omega
theorem cf_at_eq {a : Nat → Int32} {n e : Nat} (hn : n ≤ 7) (h : vp_in (a e) n) : a e = nI (cf_at a e) := (cf_vp h (by omega)).2
theorem cf_vp_le {x : Int32} {n N : Nat} (h : vp_in x n) (hn : n ≤ N) : vp_in x N := by
  rw [vp_in_iff] at h ⊢
  omega
theorem cf_pw0 (m : Nat) : 0 < 2 ^ m := Nat.two_pow_pos m
theorem cf_allI : ∀ m, m < 13 → ((1 : Int32) <<< (nI m &&& 31)) - 1 = nI (2 ^ m - 1) := by decide +kernel
/-! ===== steps of the pure functions ===== -/
theorem cf_sz_t {s e : Nat} (h : s.testBit e = true) : cf_sz s (e + 1) = cf_sz s e + 1 := by simp only [cf_sz]; rw [if_pos h]
theorem cf_sz_f {s e : Nat} (h : ¬ s.testBit e = true) : cf_sz s (e + 1) = cf_sz s e := by simp only [cf_sz]; rw [if_neg h]; rfl
theorem cf_tot_t {W : Nat → Int32} {s e : Nat} (h : s.testBit e = true) : cf_tot W s (e + 1) = cf_tot W s e + W e := by simp only [cf_tot]; rw [if_pos h]
theorem cf_tot_f {W : Nat → Int32} {s e : Nat} (h : ¬ s.testBit e = true) : cf_tot W s (e + 1) = cf_tot W s e := by simp only [cf_tot]; rw [if_neg h]
theorem cf_J_t {A B : Nat → Nat} {s e : Nat} (h : s.testBit e = true) (hn : ¬ cf_L A B s e (A e) = cf_L A B s e (B e)) : cf_J A B s (e + 1) = cf_J A B s e + 1 := by
  simp only [cf_J]
  rw [if_pos ⟨h, hn⟩]
theorem cf_J_f {A B : Nat → Nat} {s e : Nat} (h : ¬ s.testBit e = true) : cf_J A B s (e + 1) = cf_J A B s e := by
  have hn : ¬ (s.testBit e = true ∧ cf_L A B s e (A e) ≠ cf_L A B s e (B e)) := fun z => h z.1
  simp only [cf_J]
  rw [if_neg hn]
theorem cf_J_q {A B : Nat → Nat} {s e : Nat} (h : cf_L A B s e (A e) = cf_L A B s e (B e)) : cf_J A B s (e + 1) = cf_J A B s e := by
  have hn : ¬ (s.testBit e = true ∧ cf_L A B s e (A e) ≠ cf_L A B s e (B e)) := fun z => z.2 h
  simp only [cf_J]
  rw [if_neg hn]
theorem cf_bb {A B : Prop} (b : Bool) (ht : b = true → B) (hf : b = false → A) : (cf_b b = 0 → A) ∧ (¬ cf_b b = 0 → B) := by
  cases b with
  | false => exact br_t rfl (hf rfl)
  | true => exact br_f (by decide) (ht rfl)
def cf_bw (T : Nat → Int32) : Option Nat → Int32
  | none => -10000
  | some s => T s
theorem cf_best_take {T : Nat → Int32} {P : Nat → Bool} {k : Nat} (hp : P k = true) (ht : ¬ T k < cf_bw T (cf_best T P k)) : cf_best T P (k + 1) = some k := by
  simp only [cf_best]
  cases hq : cf_best T P k with
  | none => dsimp only; rw [if_pos hp]
  | some b =>
    rw [hq] at ht
    dsimp only
    rw [if_pos ⟨hp, Int32.not_lt.mp ht⟩]
theorem cf_best_skip {T : Nat → Int32} {P : Nat → Bool} {k : Nat} (hl : (-10000 : Int32) ≤ T k) (h : P k = true → T k < cf_bw T (cf_best T P k)) : cf_best T P (k + 1) = cf_best T P k := by
  simp only [cf_best]
  cases hq : cf_best T P k with
  | none =>
    dsimp only
    rw [if_neg]
    intro hp
    have := h hp
    rw [hq] at this
    exact Int32.not_lt.mpr hl this
  | some b =>
    dsimp only
    rw [if_neg]
    rintro ⟨hp, ht⟩
    have := h hp
    rw [hq] at this
    exact Int32.not_lt.mpr ht this
theorem cf_mx_t {Z : Nat → Nat} {P : Nat → Bool} {k : Nat} (h : cf_mx Z P k < Z k) (hp : P k = true) : cf_mx Z P (k + 1) = Z k := by
  simp only [cf_mx]
  rw [if_pos ⟨h, hp⟩]
theorem cf_mx_f {Z : Nat → Nat} {P : Nat → Bool} {k : Nat} (h : ¬ (cf_mx Z P k < Z k ∧ P k = true)) : cf_mx Z P (k + 1) = cf_mx Z P k := by
  simp only [cf_mx]
  rw [if_neg h]
theorem cf_spc_t {G : Nat → Bool} {s m e : Nat} (h : ¬ s.testBit e = true) (hr : cf_rep G s e m = true) : cf_spc G s m (e + 1) = cf_spc G s m e + 1 := by
  simp only [cf_spc]
  rw [if_pos ⟨h, hr⟩]
theorem cf_spc_f {G : Nat → Bool} {s m e : Nat} (h : ¬ (¬ s.testBit e = true ∧ cf_rep G s e m = true)) : cf_spc G s m (e + 1) = cf_spc G s m e := by
  simp only [cf_spc]
  rw [if_neg h]
