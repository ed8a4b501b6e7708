/-! ===== sets as numbers: size, weight, made from a predicate ===== -/
def cf_sz (s : Nat) : Nat → Nat
  | 0 => 0
  | e + 1 => cf_sz s e + (if s.testBit e = true then 1 else 0)
theorem cf_sz_le (s : Nat) : ∀ m, cf_sz s m ≤ m := by
  intro m
  induction m with
  | zero => exact Nat.le_refl 0
  | succ m ih => simp only [cf_sz]; split <;> omega
theorem cf_sz_ge {s m : Nat} (h : s < 2 ^ m) : ∀ d, cf_sz s (m + d) = cf_sz s m := by
  intro d
  induction d with
  | zero => rfl
  | succ d ih =>
    have hb : s.testBit (m + d) = false := Nat.testBit_lt_two_pow (Nat.lt_of_lt_of_le h (Nat.pow_le_pow_right (by decide) (by omega)))
    show cf_sz s (m + d) + (if s.testBit (m + d) = true then 1 else 0) = _
    rw [ih, hb]
    rfl
theorem cf_sz12 {s m : Nat} (h : s < 2 ^ m) (hm : m ≤ 12) : cf_sz s 12 = cf_sz s m := by
  have h2 := cf_sz_ge h (12 - m)
  rw [show m + (12 - m) = 12 by omega] at h2
  exact h2
def cf_tot (W : Nat → Int32) (s : Nat) : Nat → Int32
  | 0 => 0
  | e + 1 => if s.testBit e = true then cf_tot W s e + W e else cf_tot W s e
theorem cf_tot_bd (W : Nat → Int32) (s m : Nat) (hm : m ≤ 12) (hW : ∀ e, e < m → -20 ≤ (W e).toInt ∧ (W e).toInt ≤ 50) : ∀ e, e ≤ m → -20 * (e : Int) ≤ (cf_tot W s e).toInt ∧ (cf_tot W s e).toInt ≤ 50 * (e : Int) := by
  intro e
  induction e with
  | zero =>
    intro _
    have h0 : (cf_tot W s 0).toInt = 0 := by show (0 : Int32).toInt = 0; decide
    omega
  | succ e ih =>
    intro he
    have h1 := ih (by omega)
    have h2 := hW e (by omega)
    simp only [cf_tot]
    split
    · rw [Int32.toInt_add, Int.bmod_eq_of_le (by omega) (by omega)]
      omega
    · omega
theorem cf_tot_ge (W : Nat → Int32) (s m : Nat) (hm : m ≤ 12) (hW : ∀ e, e < m → -20 ≤ (W e).toInt ∧ (W e).toInt ≤ 50) : (-10000 : Int32) ≤ cf_tot W s m := by
  have h := cf_tot_bd W s m hm hW m (Nat.le_refl m)
  have h0 : (-10000 : Int32).toInt = -10000 := by decide
  rw [Int32.le_iff_toInt_le, h0]
  omega
def cf_mk (p : Nat → Bool) : Nat → Nat
  | 0 => 0
  | e + 1 => if p e = true then cf_mk p e ||| 2 ^ e else cf_mk p e
theorem cf_mk_bit (p : Nat → Bool) : ∀ m i, (cf_mk p m).testBit i = (decide (i < m) && p i) := by
  intro m
  induction m with
  | zero => intro i; simp [cf_mk]
  | succ m ih =>
    intro i
    by_cases hp : p m = true
    · show (if p m = true then cf_mk p m ||| 2 ^ m else cf_mk p m).testBit i = _
      rw [if_pos hp, Nat.testBit_or, ih, Nat.testBit_two_pow]
      by_cases e : i = m
      · subst e; simp [hp]
      · have e' : m ≠ i := fun z => e z.symm
        have e2 : (i < m + 1) ↔ i < m := by omega
        simp [e', e2]
    · show (if p m = true then cf_mk p m ||| 2 ^ m else cf_mk p m).testBit i = _
      rw [if_neg hp, ih]
      by_cases e : i = m
      · subst e; simp [hp]
      · have e2 : (i < m + 1) ↔ i < m := by omega
        simp [e2]
theorem cf_mk_lt (p : Nat → Bool) (m : Nat) : cf_mk p m < 2 ^ m :=
  Nat.lt_pow_two_of_testBit _ (fun i hi => by rw [cf_mk_bit, decide_eq_false (by omega)]; rfl)
/-! ===== counting ===== -/
def cf_cnt (p : Nat → Bool) : Nat → Nat
  | 0 => 0
  | v + 1 => cf_cnt p v + (if p v = true then 1 else 0)
theorem cf_cnt_eq {p q : Nat → Bool} : ∀ n, (∀ v, v < n → p v = q v) → cf_cnt p n = cf_cnt q n := by
  intro n
  induction n with
  | zero => intro _; rfl
  | succ n ih =>
    intro h
    simp only [cf_cnt]
    rw [ih (fun v hv => h v (by omega)), h n (by omega)]
theorem cf_cnt_rm (p : Nat → Bool) (w : Nat) : ∀ n, w < n → p w = true → cf_cnt p n = cf_cnt (fun v => p v && decide (v ≠ w)) n + 1 := by
  intro n
  induction n with
  | zero => intro h _; omega
  | succ n ih =>
    intro h hp
    by_cases e : w = n
    · subst e
      have e1 : cf_cnt p w = cf_cnt (fun v => p v && decide (v ≠ w)) w := cf_cnt_eq w (fun v hv => by
        have : v ≠ w := by omega
        simp [this])
      simp only [cf_cnt]
      rw [← e1]
      simp [hp]
    · have e1 := ih (by omega) hp
      have e2 : n ≠ w := fun z => e z.symm
      simp only [cf_cnt]
      rw [e1]
      simp only [e2, ne_eq, not_false_eq_true, decide_true, Bool.and_true]
      omega
theorem cf_inj (f : Nat → Nat) (N : Nat) : ∀ (k : Nat) (p q : Nat → Bool), (∀ v, v < k → p v = true → f v < N ∧ q (f v) = true) → (∀ u v, u < k → v < k → p u = true → p v = true → f u = f v → u = v) → cf_cnt p k ≤ cf_cnt q N := by
  intro k
  induction k with
  | zero => intro p q _ _; exact Nat.zero_le _
  | succ k ih =>
    intro p q hm hi
    by_cases hp : p k = true
    · obtain ⟨h1, h2⟩ := hm k (by omega) hp
      have h3 := ih p (fun v => q v && decide (v ≠ f k)) (fun v hv pv => by
        refine ⟨(hm v (by omega) pv).1, ?_⟩
        have z : f v ≠ f k := fun z => by
          have := hi v k (by omega) (by omega) pv hp z
          omega
        show (q (f v) && decide (f v ≠ f k)) = true
        rw [(hm v (by omega) pv).2, decide_eq_true z]
        rfl) (fun u v hu hv => hi u v (by omega) (by omega))
      have e := cf_cnt_rm q (f k) N h1 h2
      simp only [cf_cnt, hp, if_true]
      omega
    · have h3 := ih p q (fun v hv => hm v (by omega)) (fun u v hu hv => hi u v (by omega) (by omega))
      simp only [cf_cnt, if_neg hp]
      omega
/-! ===== labels of trees ===== -/
def cf_ren (L : Nat → Nat) (g k : Nat) : Nat → Nat := fun v => if L v = g then k else L v
theorem cf_ren_self (L : Nat → Nat) (g : Nat) : cf_ren L g g = L := by
  funext v
  unfold cf_ren
  split
  · rename_i h; exact h.symm
  · rfl
def cf_L (A B : Nat → Nat) (s : Nat) : Nat → Nat → Nat
  | 0 => fun v => v
  | e + 1 => if s.testBit e = true then cf_ren (cf_L A B s e) (cf_L A B s e (B e)) (cf_L A B s e (A e)) else cf_L A B s e
def cf_J (A B : Nat → Nat) (s : Nat) : Nat → Nat
  | 0 => 0
  | e + 1 => if s.testBit e = true ∧ cf_L A B s e (A e) ≠ cf_L A B s e (B e) then cf_J A B s e + 1 else cf_J A B s e
def cf_Fp (A B : Nat → Nat) (s m : Nat) : Prop := ∀ e, e < m → s.testBit e = true → cf_L A B s e (A e) ≠ cf_L A B s e (B e)
theorem cf_L_t {A B : Nat → Nat} {s e : Nat} (h : s.testBit e = true) : cf_L A B s (e + 1) = cf_ren (cf_L A B s e) (cf_L A B s e (B e)) (cf_L A B s e (A e)) := if_pos h
theorem cf_L_f {A B : Nat → Nat} {s e : Nat} (h : ¬ s.testBit e = true) : cf_L A B s (e + 1) = cf_L A B s e := if_neg h
theorem cf_L_q {A B : Nat → Nat} {s e : Nat} (h : cf_L A B s e (A e) = cf_L A B s e (B e)) : cf_L A B s (e + 1) = cf_L A B s e := by
  by_cases hb : s.testBit e = true
  · rw [cf_L_t hb, h, cf_ren_self]
  · exact cf_L_f hb
theorem cf_L_id (A B : Nat → Nat) (s : Nat) : ∀ e v, cf_L A B s e (cf_L A B s e v) = cf_L A B s e v := by
  intro e
  induction e with
  | zero => intro v; rfl
  | succ e ih =>
    by_cases hb : s.testBit e = true
    · rw [cf_L_t hb]
      generalize cf_L A B s e = L at ih ⊢
      intro v
      unfold cf_ren
      by_cases h1 : L v = L (B e)
      · rw [if_pos h1]
        by_cases h2 : L (L (A e)) = L (B e)
        · rw [if_pos h2]
        · rw [if_neg h2, ih]
      · rw [if_neg h1, ih, if_neg h1]
    · rw [cf_L_f hb]
      exact ih
theorem cf_L_lt (A B : Nat → Nat) (s m : Nat) (hA : ∀ e, e < m → A e < 7) : ∀ e, e ≤ m → ∀ v, v < 7 → cf_L A B s e v < 7 := by
  intro e
  induction e with
  | zero => intro _ v hv; exact hv
  | succ e ih =>
    intro he v hv
    by_cases hb : s.testBit e = true
    · rw [cf_L_t hb]
      unfold cf_ren
      split
      · exact ih (by omega) _ (hA e (by omega))
      · exact ih (by omega) v hv
    · rw [cf_L_f hb]
      exact ih (by omega) v hv
theorem cf_L_8 (A B : Nat → Nat) (s m : Nat) (hA : ∀ e, e < m → A e < 7) : ∀ e, e ≤ m → ∀ v, v < 8 → cf_L A B s e v < 8 := by
  intro e
  induction e with
  | zero => intro _ v hv; exact hv
  | succ e ih =>
    intro he v hv
    by_cases hb : s.testBit e = true
    · rw [cf_L_t hb]
      unfold cf_ren
      split
      · have h7 := hA e (by omega)
        exact ih (by omega) _ (by omega)
      · exact ih (by omega) v hv
    · rw [cf_L_f hb]
      exact ih (by omega) v hv
def cf_fp (L : Nat → Nat) : Nat := cf_cnt (fun v => decide (L v = v)) 7
theorem cf_J_fp (A B : Nat → Nat) (s m : Nat) (hA : ∀ e, e < m → A e < 7) (hB : ∀ e, e < m → B e < 7) : ∀ e, e ≤ m → cf_J A B s e + cf_fp (cf_L A B s e) = 7 := by
  intro e
  induction e with
  | zero =>
    intro _
    show 0 + cf_cnt (fun v => decide (v = v)) 7 = 7
    decide
  | succ e ih =>
    intro he
    have h1 := ih (by omega)
    by_cases hb : s.testBit e = true ∧ cf_L A B s e (A e) ≠ cf_L A B s e (B e)
    · have hJ : cf_J A B s (e + 1) = cf_J A B s e + 1 := if_pos hb
      have hlt := cf_L_lt A B s m hA e (by omega) (B e) (hB e (by omega))
      have hid := cf_L_id A B s e
      rw [hJ, cf_L_t hb.1]
      obtain ⟨_, hne⟩ := hb
      generalize cf_L A B s e = L at h1 hlt hid hne ⊢
      have hc : cf_cnt (fun v => decide (L v = v)) 7 = cf_cnt (fun v => decide (L v = v) && decide (v ≠ L (B e))) 7 + 1 := cf_cnt_rm (fun v => decide (L v = v)) (L (B e)) 7 hlt (decide_eq_true (hid (B e)))
      have hq : cf_cnt (fun v => decide (cf_ren L (L (B e)) (L (A e)) v = v)) 7 = cf_cnt (fun v => decide (L v = v) && decide (v ≠ L (B e))) 7 := by
        refine cf_cnt_eq 7 (fun v _ => ?_)
        show decide (cf_ren L (L (B e)) (L (A e)) v = v) = (decide (L v = v) && decide (v ≠ L (B e)))
        rw [Bool.eq_iff_iff, Bool.and_eq_true, decide_eq_true_iff, decide_eq_true_iff, decide_eq_true_iff]
        unfold cf_ren
        by_cases h2 : L v = L (B e)
        · rw [if_pos h2]
          constructor
          · intro z
            have h3 := hid (A e)
            rw [z, h2] at h3
            exact absurd (z.trans h3.symm) hne
          · rintro ⟨z1, z2⟩
            exact absurd (z1.symm.trans h2) z2
        · rw [if_neg h2]
          constructor
          · intro z
            exact ⟨z, fun y => h2 (z.trans y)⟩
          · exact fun z => z.1
      unfold cf_fp at h1 ⊢
      omega
    · have hJ : cf_J A B s (e + 1) = cf_J A B s e := if_neg hb
      have hL : cf_L A B s (e + 1) = cf_L A B s e := by
        by_cases h2 : s.testBit e = true
        · exact cf_L_q (Classical.not_not.mp (fun z => hb ⟨h2, z⟩))
        · exact cf_L_f h2
      rw [hJ, hL]
      exact h1
theorem cf_J_le (A B : Nat → Nat) (s : Nat) : ∀ m, cf_J A B s m ≤ cf_sz s m := by
  intro m
  induction m with
  | zero => exact Nat.le_refl 0
  | succ m ih =>
    simp only [cf_J, cf_sz]
    by_cases hb : s.testBit m = true
    · rw [if_pos hb]; split <;> omega
    · have hb2 : ¬ (s.testBit m = true ∧ cf_L A B s m (A m) ≠ cf_L A B s m (B m)) := fun z => hb z.1
      rw [if_neg hb, if_neg hb2]; omega
theorem cf_J_F (A B : Nat → Nat) (s : Nat) : ∀ m, cf_J A B s m = cf_sz s m ↔ cf_Fp A B s m := by
  intro m
  induction m with
  | zero => exact ⟨fun _ e he => absurd he (Nat.not_lt_zero e), fun _ => rfl⟩
  | succ m ih =>
    have hle := cf_J_le A B s m
    simp only [cf_J, cf_sz]
    by_cases hb : s.testBit m = true
    · by_cases hn : cf_L A B s m (A m) ≠ cf_L A B s m (B m)
      · rw [if_pos hb, if_pos ⟨hb, hn⟩]
        constructor
        · intro z e he te
          by_cases q : e = m
          · subst q; exact hn
          · exact ih.mp (by omega) e (by omega) te
        · intro z
          have := ih.mpr (fun e he te => z e (by omega) te)
          omega
      · have hb2 : ¬ (s.testBit m = true ∧ cf_L A B s m (A m) ≠ cf_L A B s m (B m)) := fun z => hn z.2
        rw [if_pos hb, if_neg hb2]
        constructor
        · intro z; omega
        · intro z; exact absurd (z m (by omega) hb) hn
    · have hb2 : ¬ (s.testBit m = true ∧ cf_L A B s m (A m) ≠ cf_L A B s m (B m)) := fun z => hb z.1
      rw [if_neg hb, if_neg hb2]
      constructor
      · intro z e he te
        by_cases q : e = m
        · subst q; exact absurd te hb
        · exact ih.mp (by omega) e (by omega) te
      · intro z
        have := ih.mpr (fun e he te => z e (by omega) te)
        omega
/-! ===== the rank: the greedy count is the size of the greatest forest ===== -/
theorem cf_cr (A B : Nat → Nat) (s t : Nat) : ∀ m, (∀ e, e < m → s.testBit e = true → t.testBit e = true) → ∀ u v, cf_L A B s m u = cf_L A B s m v → cf_L A B t m u = cf_L A B t m v := by
  intro m
  induction m with
  | zero => intro _ u v h; exact h
  | succ m ih =>
    intro hst u v
    have ih' := ih (fun e he => hst e (by omega))
    by_cases hs : s.testBit m = true
    · rw [cf_L_t hs, cf_L_t (hst m (by omega) hs)]
      generalize cf_L A B s m = L at ih' ⊢
      generalize cf_L A B t m = M at ih' ⊢
      unfold cf_ren
      by_cases h1 : L u = L (B m)
      · have k1 := ih' _ _ h1
        rw [if_pos h1, if_pos k1]
        by_cases h2 : L v = L (B m)
        · rw [if_pos h2, if_pos (ih' _ _ h2)]; exact fun _ => rfl
        · rw [if_neg h2]
          intro z
          have k2 := ih' _ _ z
          split
          · rfl
          · exact k2
      · rw [if_neg h1]
        by_cases h2 : L v = L (B m)
        · rw [if_pos h2, if_pos (ih' _ _ h2)]
          intro z
          have k2 := ih' _ _ z
          split
          · rfl
          · exact k2
        · rw [if_neg h2]
          intro z
          rw [ih' _ _ z]
    · rw [cf_L_f hs]
      intro z
      have k := ih' _ _ z
      by_cases ht : t.testBit m = true
      · rw [cf_L_t ht]
        unfold cf_ren
        rw [k]
      · rw [cf_L_f ht]
        exact k
theorem cf_all (m e : Nat) (h : e < m) : (2 ^ m - 1).testBit e = true := by
  rw [Nat.testBit_two_pow_sub_one]
  exact decide_eq_true h
theorem cf_rk_ub (A B : Nat → Nat) (s m : Nat) (hA : ∀ e, e < m → A e < 7) (hB : ∀ e, e < m → B e < 7) (hF : cf_Fp A B s m) : cf_sz s m ≤ cf_J A B (2 ^ m - 1) m := by
  have h1 := cf_J_fp A B s m hA hB m (Nat.le_refl m)
  have h2 := cf_J_fp A B (2 ^ m - 1) m hA hB m (Nat.le_refl m)
  have h3 := (cf_J_F A B s m).mpr hF
  have hc := cf_cr A B s (2 ^ m - 1) m (fun e he _ => cf_all m e he)
  have hk : cf_fp (cf_L A B (2 ^ m - 1) m) ≤ cf_fp (cf_L A B s m) := by
    unfold cf_fp
    refine cf_inj (cf_L A B s m) 7 7 _ _ (fun v hv _ => ⟨cf_L_lt A B s m hA m (Nat.le_refl m) v hv, decide_eq_true (cf_L_id A B s m v)⟩) ?_
    intro u v _ _ pu pv e
    have k := hc u v e
    have pu' : cf_L A B (2 ^ m - 1) m u = u := of_decide_eq_true pu
    have pv' : cf_L A B (2 ^ m - 1) m v = v := of_decide_eq_true pv
    rw [pu', pv'] at k
    exact k
  omega
def cf_gr (A B : Nat → Nat) (m : Nat) : Nat := cf_mk (fun e => decide (cf_L A B (2 ^ m - 1) e (A e) ≠ cf_L A B (2 ^ m - 1) e (B e))) m
theorem cf_gr_bit (A B : Nat → Nat) (m e : Nat) (h : e < m) : (cf_gr A B m).testBit e = decide (cf_L A B (2 ^ m - 1) e (A e) ≠ cf_L A B (2 ^ m - 1) e (B e)) := by
  unfold cf_gr
  rw [cf_mk_bit, decide_eq_true h, Bool.true_and]
theorem cf_gr_L (A B : Nat → Nat) (m : Nat) : ∀ e, e ≤ m → cf_L A B (cf_gr A B m) e = cf_L A B (2 ^ m - 1) e ∧ cf_sz (cf_gr A B m) e = cf_J A B (2 ^ m - 1) e := by
  intro e
  induction e with
  | zero => intro _; exact ⟨rfl, rfl⟩
  | succ e ih =>
    intro he
    obtain ⟨h1, h2⟩ := ih (by omega)
    have hb := cf_gr_bit A B m e (by omega)
    have ha := cf_all m e (by omega)
    by_cases hn : cf_L A B (2 ^ m - 1) e (A e) ≠ cf_L A B (2 ^ m - 1) e (B e)
    · have hb' : (cf_gr A B m).testBit e = true := by rw [hb]; exact decide_eq_true hn
      constructor
      · rw [cf_L_t hb', cf_L_t ha, h1]
      · simp only [cf_sz, cf_J]
        rw [if_pos hb', if_pos ⟨ha, hn⟩, h2]
    · have hb' : ¬ (cf_gr A B m).testBit e = true := by rw [hb, decide_eq_false hn]; decide
      constructor
      · rw [cf_L_f hb', cf_L_q (Classical.not_not.mp hn), h1]
      · simp only [cf_sz, cf_J]
        have hb2 : ¬ ((2 ^ m - 1).testBit e = true ∧ cf_L A B (2 ^ m - 1) e (A e) ≠ cf_L A B (2 ^ m - 1) e (B e)) := fun z => hn z.2
        rw [if_neg hb', if_neg hb2, h2]
        rfl
theorem cf_gr_F (A B : Nat → Nat) (m : Nat) : cf_Fp A B (cf_gr A B m) m := by
  intro e he te
  rw [cf_gr_bit A B m e he] at te
  rw [(cf_gr_L A B m e (by omega)).1]
  exact of_decide_eq_true te
def cf_mx (Z : Nat → Nat) (P : Nat → Bool) : Nat → Nat
  | 0 => 0
  | s + 1 => if cf_mx Z P s < Z s ∧ P s = true then Z s else cf_mx Z P s
theorem cf_mx_ub (Z : Nat → Nat) (P : Nat → Bool) (r : Nat) : ∀ k, (∀ s, s < k → P s = true → Z s ≤ r) → cf_mx Z P k ≤ r := by
  intro k
  induction k with
  | zero => intro _; exact Nat.zero_le _
  | succ k ih =>
    intro h
    simp only [cf_mx]
    split
    · rename_i z; exact h k (by omega) z.2
    · exact ih (fun s hs => h s (by omega))
theorem cf_mx_lb (Z : Nat → Nat) (P : Nat → Bool) : ∀ k s, s < k → P s = true → Z s ≤ cf_mx Z P k := by
  intro k
  induction k with
  | zero => intro s hs; omega
  | succ k ih =>
    intro s hs hp
    simp only [cf_mx]
    by_cases e : s = k
    · subst e
      split
      · exact Nat.le_refl _
      · rename_i z
        exact Nat.not_lt.mp (fun y => z ⟨y, hp⟩)
    · have h1 := ih s (by omega) hp
      split
      · rename_i z; omega
      · exact h1
theorem cf_mx_eq {Z Z' : Nat → Nat} {P P' : Nat → Bool} : ∀ k, (∀ s, s < k → Z s = Z' s ∧ P s = P' s) → cf_mx Z P k = cf_mx Z' P' k := by
  intro k
  induction k with
  | zero => intro _; rfl
  | succ k ih =>
    intro h
    simp only [cf_mx]
    rw [ih (fun s hs => h s (by omega)), (h k (by omega)).1, (h k (by omega)).2]
def cf_F (A B : Nat → Nat) (s m : Nat) : Bool := decide (cf_J A B s m = cf_sz s m)
theorem cf_F_t {A B : Nat → Nat} {s m : Nat} : cf_F A B s m = true ↔ cf_Fp A B s m := by
  unfold cf_F
  rw [decide_eq_true_iff]
  exact cf_J_F A B s m
theorem cf_rank (A B : Nat → Nat) (m : Nat) (hA : ∀ e, e < m → A e < 7) (hB : ∀ e, e < m → B e < 7) : cf_mx (fun s => cf_sz s m) (fun s => cf_F A B s m) (2 ^ m) = cf_J A B (2 ^ m - 1) m := by
  apply Nat.le_antisymm
  · exact cf_mx_ub _ _ _ _ (fun s _ hp => cf_rk_ub A B s m hA hB (cf_F_t.mp hp))
  · have h : cf_sz (cf_gr A B m) m ≤ cf_mx (fun s => cf_sz s m) (fun s => cf_F A B s m) (2 ^ m) := cf_mx_lb (fun s => cf_sz s m) (fun s => cf_F A B s m) (2 ^ m) (cf_gr A B m) (cf_mk_lt _ m) (cf_F_t.mpr (cf_gr_F A B m))
    rw [(cf_gr_L A B m m (Nat.le_refl m)).2] at h
    exact h
/-! ===== the best set ===== -/
def cf_best (T : Nat → Int32) (P : Nat → Bool) : Nat → Option Nat
  | 0 => none
  | s + 1 => match cf_best T P s with
    | none => if P s = true then some s else none
    | some b => if P s = true ∧ T b ≤ T s then some s else some b
theorem cf_best_eq {T : Nat → Int32} {P P' : Nat → Bool} : ∀ k, (∀ s, s < k → P s = P' s) → cf_best T P k = cf_best T P' k := by
  intro k
  induction k with
  | zero => intro _; rfl
  | succ k ih =>
    intro h
    simp only [cf_best]
    rw [ih (fun s hs => h s (by omega)), h k (by omega)]
theorem cf_best_lt {T : Nat → Int32} {P : Nat → Bool} : ∀ k b, cf_best T P k = some b → b < k := by
  intro k
  induction k with
  | zero => intro b h; cases h
  | succ k ih =>
    intro b h
    simp only [cf_best] at h
    cases hq : cf_best T P k with
    | none =>
      rw [hq] at h
      dsimp only at h
      split at h
      · cases h; omega
      · cases h
    | some c =>
      rw [hq] at h
      have := ih c hq
      dsimp only at h
      split at h
      · cases h; omega
      · cases h; omega
theorem cf_best_none {T : Nat → Int32} {P : Nat → Bool} : ∀ k, (∀ s, s < k → P s = false) → cf_best T P k = none := by
  intro k
  induction k with
  | zero => intro _; rfl
  | succ k ih =>
    intro h
    simp only [cf_best]
    rw [ih (fun s hs => h s (by omega))]
    dsimp only
    rw [h k (by omega)]
    rfl
theorem cf_best_some {T : Nat → Int32} {P : Nat → Bool} (h0 : P 0 = true) : ∀ k, ∃ b, cf_best T P (k + 1) = some b := by
  intro k
  induction k with
  | zero => exact ⟨0, by simp only [cf_best]; rw [if_pos h0]⟩
  | succ k ih =>
    obtain ⟨b, hb⟩ := ih
    have e : cf_best T P (k + 1 + 1) = if P (k + 1) = true ∧ T b ≤ T (k + 1) then some (k + 1) else some b := by
      show (match cf_best T P (k + 1) with
        | none => if P (k + 1) = true then some (k + 1) else none
        | some b => if P (k + 1) = true ∧ T b ≤ T (k + 1) then some (k + 1) else some b) = _
      rw [hb]
    rw [e]
    split
    · exact ⟨_, rfl⟩
    · exact ⟨_, rfl⟩
def cf_enc : Option Nat → Int32
  | none => -1
  | some b => nI b
/-! ===== quotas ===== -/
def cf_U (C : Nat → Nat) (s c : Nat) : Nat → Nat
  | 0 => 0
  | e + 1 => if s.testBit e = true ∧ C e = c then cf_U C s c e + 1 else cf_U C s c e
theorem cf_U_le (C : Nat → Nat) (s c : Nat) : ∀ e, cf_U C s c e ≤ e := by
  intro e
  induction e with
  | zero => exact Nat.le_refl 0
  | succ e ih => simp only [cf_U]; split <;> omega
def cf_q4 (C : Nat → Nat) (Q : Nat → Int32) (s m : Nat) : Nat → Bool
  | 0 => true
  | c + 1 => cf_q4 C Q s m c && decide (¬ Q c < nI (cf_U C s c m))
def cf_W (C : Nat → Nat) (Q : Nat → Int32) (s m : Nat) : Bool := cf_q4 C Q s m 4
def cf_G (A B C : Nat → Nat) (Q : Nat → Int32) (s m : Nat) : Bool := cf_F A B s m && cf_W C Q s m
def cf_b (b : Bool) : Int32 := if b = true then 1 else 0
