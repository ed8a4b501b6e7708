/-! ===== the relation ===== -/
/-- the same vertices, edges, ends, colours, weights; quotas alike for the four colours; all within their bounds; the scratch arrays are free -/
def i_Rel (k : Nat) (u : SX) (v : SY) : Prop := ∃ (n m : Nat) (fr ft co we qs tr us qy lb uy : Nat → Int32), u = (nI n, nI m, fr, ft, co, we, qs, tr, us) ∧ v = (nI n, nI m, fr, ft, co, we, qy, lb, uy) ∧ cf_OK n m fr ft co we qs ∧ ∀ c, c < 4 → qs c = qy c
theorem i_up {k : Nat} {u : SX} {v : SY} (h : i_Rel k u v) : i_Rel (k + 4) u v := h
/-! ===== the constructors ===== -/
theorem xw_i_l {post : SX → Prop} {vn mm : Int32} {fr ft co we tr us : Nat → Int32} (hp : ∀ qs, cf_low 4 qs (fun _ => 6) → post (vn, mm, fr, ft, co, we, qs, tr, us)) : ∀ d c n qs, c + d = 4 → d < n → cf_low c qs (fun _ => 6) → wX_init_88 post vn mm n (nI c) fr ft co we qs tr us := by
  intro d
  induction d with
  | zero =>
    intro c n qs he hn h
    obtain ⟨n, rfl⟩ : ∃ k, n = k + 1 := ⟨n - 1, by omega⟩
    have e1 : c = 4 := by omega
    subst e1
    exact br_t (nI_le (a := 4) (b := 4) (Nat.le_refl _) (by decide)) (hp qs h)
  | succ d ih =>
    intro c n qs he hn h
    obtain ⟨n, rfl⟩ : ∃ k, n = k + 1 := ⟨n - 1, by omega⟩
    have hc : (nI c).toNatClampNeg = c := nI_clamp (by omega)
    have hi : vp_in (nI c) 4 := vp_in_nI (by omega) (by decide)
    refine br_f (nI_ge (b := 4) (by omega) (by decide)) ⟨hi, ?_⟩
    exact nm_r (e' := upd qs c 6) (by rw [hc]) (nm_r (nI_1 c) (ih (c + 1) n _ (by omega) (by omega) (cf_low_u h rfl)))
theorem yw_i_l {post : SY → Prop} {vn mm : Int32} {fr ft co we lb us : Nat → Int32} (hp : ∀ qs, cf_low 8 qs (fun _ => 6) → post (vn, mm, fr, ft, co, we, qs, lb, us)) : ∀ d c n qs, c + d = 8 → d < n → cf_low c qs (fun _ => 6) → wY_init_87 post vn mm n (nI c) fr ft co we qs lb us := by
  intro d
  induction d with
  | zero =>
    intro c n qs he hn h
    obtain ⟨n, rfl⟩ : ∃ k, n = k + 1 := ⟨n - 1, by omega⟩
    have e1 : c = 8 := by omega
    subst e1
    exact br_t (nI_le (a := 8) (b := 8) (Nat.le_refl _) (by decide)) (hp qs h)
  | succ d ih =>
    intro c n qs he hn h
    obtain ⟨n, rfl⟩ : ∃ k, n = k + 1 := ⟨n - 1, by omega⟩
    have hc : (nI c).toNatClampNeg = c := nI_clamp (by omega)
    have hi : vp_in (nI c) 8 := vp_in_nI (by omega) (by decide)
    refine br_f (nI_ge (b := 8) (by omega) (by decide)) ⟨hi, ?_⟩
    exact nm_r (e' := upd qs c 6) (by rw [hc]) (nm_r (nI_1 c) (ih (c + 1) n _ (by omega) (by omega) (cf_low_u h rfl)))
theorem xw_i {post : SX → Prop} {x2 : Int32} (hp : ∀ qs, cf_low 4 qs (fun _ => 6) → post (x2, 0, (fun _ => 0), (fun _ => 0), (fun _ => 0), (fun _ => 0), qs, (fun _ => 0), (fun _ => 0))) : wX_init_76 post x2 0 0 (fun _ => 0) (fun _ => 0) (fun _ => 0) (fun _ => 0) (fun _ => 0) (fun _ => 0) (fun _ => 0) :=
  ⟨5, xw_i_l hp 4 0 5 _ (by omega) (by omega) (cf_low_0 _ _)⟩
theorem yw_i {post : SY → Prop} {x2 : Int32} (hp : ∀ qs, cf_low 8 qs (fun _ => 6) → post (x2, 0, (fun _ => 0), (fun _ => 0), (fun _ => 0), (fun _ => 0), qs, (fun _ => 0), (fun _ => 0))) : ∃ n : Nat, wY_init_87 post x2 0 n 0 (fun _ => 0) (fun _ => 0) (fun _ => 0) (fun _ => 0) (fun _ => 0) (fun _ => 0) (fun _ => 0) :=
  ⟨9, yw_i_l hp 8 0 9 _ (by omega) (by omega) (cf_low_0 _ _)⟩
theorem xw_i_rel {n : Nat} (h2 : 2 ≤ n) (h7 : n ≤ 7) {qs qy : Nat → Int32} (hq : cf_low 4 qs (fun _ => 6)) (hy : cf_low 8 qy (fun _ => 6)) : i_Rel 1 (nI n, 0, (fun _ => 0), (fun _ => 0), (fun _ => 0), (fun _ => 0), qs, (fun _ => 0), (fun _ => 0)) (nI n, 0, (fun _ => 0), (fun _ => 0), (fun _ => 0), (fun _ => 0), qy, (fun _ => 0), (fun _ => 0)) := by
  refine ⟨n, 0, _, _, _, _, qs, _, _, qy, _, _, rfl, rfl, ⟨⟨h2, h7⟩, by omega, fun e he => absurd he (Nat.not_lt_zero e), fun e he => absurd he (Nat.not_lt_zero e), fun e he => absurd he (Nat.not_lt_zero e), fun e he => absurd he (Nat.not_lt_zero e), fun c hc => ?_⟩, fun c hc => ?_⟩
  · rw [hq c hc]
    show ¬ (6 : Int32) < 0
    decide
  · rw [hq c hc, hy c (by omega)]
theorem i_vc0 (k0 : Int32) : wpX_init (fun u => wpY_init (fun v => i_Rel 1 u v) k0) k0 := by
  by_cases h2 : 2 ≤ k0
  · by_cases h7 : k0 ≤ 7
    · obtain ⟨j, hj, rfl⟩ := nI_of2 (M := 7) (n := 7) (by decide) (fun z => absurd (Int32.lt_of_le_of_lt h2 z) (by decide)) h7
      have hj2 : 2 ≤ j := (nI_leI (a := 2) (by decide) (by omega)).mp h2
      refine br_t h2 ?_
      refine br_t h7 ?_
      refine xw_i (fun qs hq => ?_)
      refine br_t h2 ?_
      refine br_t h7 ?_
      exact yw_i (fun qy hy => xw_i_rel hj2 hj hq hy)
    · refine br_t h2 ?_
      refine br_f h7 ?_
      refine xw_i (fun qs hq => ?_)
      refine br_t h2 ?_
      refine br_f h7 ?_
      exact yw_i (fun qy hy => xw_i_rel (n := 7) (by omega) (by omega) hq hy)
  · refine br_f h2 ?_
    refine br_t (by decide) ?_
    refine xw_i (fun qs hq => ?_)
    refine br_f h2 ?_
    exact yw_i (fun qy hy => xw_i_rel (n := 2) (by omega) (by omega) hq hy)
/-! ===== the tests of the arguments ===== -/
theorem xw_col_t {post : Int32 → Prop} {u : SX} {j : Nat} (hj : j < 4) (hp : post 1) : wpX_isGoodColour post u (nI j) := by
  obtain ⟨a1, a2, a3, a4, a5, a6, a7, a8, a9⟩ := u
  exact br_f (nI_pos (by omega)) (br_f (nI_ge (b := 4) hj (by decide)) hp)
theorem xw_col_f {post : Int32 → Prop} {u : SX} {c : Int32} (h : c < 0 ∨ nI 4 ≤ c) (hp : post 0) : wpX_isGoodColour post u c := by
  obtain ⟨a1, a2, a3, a4, a5, a6, a7, a8, a9⟩ := u
  by_cases h0 : c < 0
  · exact br_t h0 hp
  · exact br_f h0 (br_t (h.elim (fun z => absurd z h0) (fun z => z)) hp)
theorem yw_col_t {post : Int32 → Prop} {u : SY} {j : Nat} (hj : j < 4) (hp : post 0) : wpY_badColour post u (nI j) := by
  obtain ⟨a1, a2, a3, a4, a5, a6, a7, a8, a9⟩ := u
  exact br_f (nI_pos (by omega)) (br_t (nI_le (b := 3) (by omega) (by decide)) hp)
theorem yw_col_f {post : Int32 → Prop} {u : SY} {c : Int32} (h : c < 0 ∨ nI 4 ≤ c) (hp : post 1) : wpY_badColour post u c := by
  obtain ⟨a1, a2, a3, a4, a5, a6, a7, a8, a9⟩ := u
  by_cases h0 : c < 0
  · exact br_t h0 hp
  · have h4 : nI 4 ≤ c := h.elim (fun z => absurd z h0) (fun z => z)
    exact br_f h0 (br_f (fun z => absurd (Int32.le_trans h4 z) (by decide)) hp)
theorem xw_wei_t {post : Int32 → Prop} {u : SX} {c : Int32} (h1 : ¬ c < -20) (h2 : ¬ 50 < c) (hp : post 1) : wpX_isGoodWeight post u c := by
  obtain ⟨a1, a2, a3, a4, a5, a6, a7, a8, a9⟩ := u
  exact br_f h1 (br_f h2 hp)
theorem xw_wei_f {post : Int32 → Prop} {u : SX} {c : Int32} (h : ¬ (¬ c < -20 ∧ ¬ 50 < c)) (hp : post 0) : wpX_isGoodWeight post u c := by
  obtain ⟨a1, a2, a3, a4, a5, a6, a7, a8, a9⟩ := u
  by_cases h1 : c < -20
  · exact br_t h1 hp
  · exact br_f h1 (br_t (Classical.not_not.mp (fun z => h ⟨h1, z⟩)) hp)
theorem yw_wei_t {post : Int32 → Prop} {u : SY} {c : Int32} (h1 : ¬ c < -20) (h2 : ¬ 50 < c) (hp : post 0) : wpY_badWeight post u c := by
  obtain ⟨a1, a2, a3, a4, a5, a6, a7, a8, a9⟩ := u
  exact br_f h1 (br_t (Int32.not_lt.mp h2) hp)
theorem yw_wei_f {post : Int32 → Prop} {u : SY} {c : Int32} (h : ¬ (¬ c < -20 ∧ ¬ 50 < c)) (hp : post 1) : wpY_badWeight post u c := by
  obtain ⟨a1, a2, a3, a4, a5, a6, a7, a8, a9⟩ := u
  by_cases h1 : c < -20
  · exact br_t h1 hp
  · exact br_f h1 (br_f (fun z => h ⟨h1, Int32.not_lt.mpr z⟩) hp)
theorem xw_edg_t {post : Int32 → Prop} {vn : Int32} {fr ft co we qs tr us : Nat → Int32} {m j : Nat} (hm : m ≤ 12) (hj : j < m) (hp : post 1) : wpX_isGoodEdge post (vn, nI m, fr, ft, co, we, qs, tr, us) (nI j) :=
  br_f (nI_pos (by omega)) (br_f (nI_ge hj (by omega)) hp)
theorem xw_edg_f {post : Int32 → Prop} {vn : Int32} {fr ft co we qs tr us : Nat → Int32} {m : Nat} {c : Int32} (h : c < 0 ∨ nI m ≤ c) (hp : post 0) : wpX_isGoodEdge post (vn, nI m, fr, ft, co, we, qs, tr, us) c := by
  by_cases h0 : c < 0
  · exact br_t h0 hp
  · exact br_f h0 (br_t (h.elim (fun z => absurd z h0) (fun z => z)) hp)
theorem yw_edg_t {post : Int32 → Prop} {vn : Int32} {fr ft co we qs lb us : Nat → Int32} {m j : Nat} (hm : m ≤ 12) (hj : j < m) (hp : post 0) : wpY_badEdge post (vn, nI m, fr, ft, co, we, qs, lb, us) (nI j) :=
  br_f (nI_pos (by omega)) (br_f (nI_ge hj (by omega)) (br_t (nI_le (b := 11) (by omega) (by decide)) hp))
theorem yw_edg_f {post : Int32 → Prop} {vn : Int32} {fr ft co we qs lb us : Nat → Int32} {m : Nat} {c : Int32} (h : c < 0 ∨ nI m ≤ c) (hp : post 1) : wpY_badEdge post (vn, nI m, fr, ft, co, we, qs, lb, us) c := by
  by_cases h0 : c < 0
  · exact br_t h0 hp
  · exact br_f h0 (br_t (h.elim (fun z => absurd z h0) (fun z => z)) hp)
theorem cf_ix (x : Int32) {n : Nat} (hn : n < 2 ^ 31) : (x < 0 ∨ nI n ≤ x) ∨ ∃ j : Nat, j < n ∧ x = nI j := by
  rcases pk_ix x hn with h | h | h
  · exact Or.inl (Or.inl h)
  · exact Or.inl (Or.inr h)
  · exact Or.inr h
theorem cf_wb {c : Int32} (h1 : ¬ c < -20) (h2 : ¬ 50 < c) : -20 ≤ c.toInt ∧ c.toInt ≤ 50 := by
  have e1 : (-20 : Int32).toInt = -20 := by decide
  have e2 : (50 : Int32).toInt = 50 := by decide
  rw [Int32.lt_iff_toInt_lt, e1] at h1
  rw [Int32.lt_iff_toInt_lt, e2] at h2
  omega
theorem cf_up_n {P : Int32 → Prop} {a : Nat → Int32} {m : Nat} {x : Int32} (h : ∀ e, e < m → P (a e)) (hx : P x) : ∀ e, e < m + 1 → P (upd a m x e) := by
  intro e he
  by_cases q : e = m
  · subst q; rw [pk_us]; exact hx
  · rw [pk_un q]; exact h e (by omega)
theorem cf_up_s {P : Int32 → Prop} {a : Nat → Int32} {m j : Nat} {x : Int32} (h : ∀ e, e < m → P (a e)) (hx : P x) : ∀ e, e < m → P (upd a j x e) := by
  intro e he
  by_cases q : e = j
  · subst q; rw [pk_us]; exact hx
  · rw [pk_un q]; exact h e he
/-! ===== link ===== -/
theorem cf_lk {j n : Nat} (hj : j < 2 ^ 31) (hn : n ≤ 7) (h1 : ¬ nI n ≤ nI j / 8) (h2 : ¬ nI n ≤ nI j - nI j / 8 * 8) : vp_in (nI j / 8) 7 ∧ vp_in (nI j - nI j / 8 * 8) 7 := by
  have e1 : nI j / 8 = nI (j / 8) := pk_div (d := 8) hj (by decide) (by decide)
  have e2 : nI j - nI j / 8 * 8 = nI (j % 8) := pk_rem (d := 8) hj (by decide) (by decide)
  rw [e2] at h2 ⊢
  rw [e1] at h1 ⊢
  rw [nI_leI (by omega) (by omega)] at h1 h2
  exact ⟨vp_in_nI (by omega) (by decide), vp_in_nI (by omega) (by decide)⟩
theorem i_vc_link {k : Nat} {u : SX} {v : SY} (I : i_Rel k u v) (hk : k + 4 ≤ 2049) (v1 : Int32) (v2 : Int32) (v3 : Int32) : wpX_link (fun r u' => wpY_link (fun r' v' => r' = r ∧ i_Rel (k + 4) u' v') v v1 v2 v3) u v1 v2 v3 := by
  have I0 : i_Rel (k + 4) u v := I
  obtain ⟨n, m, fr, ft, co, we, qs, tr, us, qy, lb, uy, rfl, rfl, ⟨⟨hn2, hn7⟩, hm, hfr, hft, hco, hwe, hqs⟩, hq⟩ := I
  by_cases h0 : v1 < 0
  · refine br_t h0 ?_
    refine br_t rfl ?_
    exact br_t h0 ⟨rfl, I0⟩
  · refine br_f h0 ⟨by decide, ?_⟩
    by_cases h1 : nI n ≤ v1 / 8
    · refine br_t h1 ?_
      refine br_t rfl ?_
      exact br_f h0 ⟨by decide, br_t h1 ⟨rfl, I0⟩⟩
    · refine br_f h1 ⟨by decide, ?_⟩
      by_cases h2 : nI n ≤ v1 - v1 / 8 * 8
      · refine br_t h2 ?_
        refine br_t rfl ?_
        exact br_f h0 ⟨by decide, br_f h1 ⟨by decide, br_f (Int32.not_lt.mpr h2) ⟨rfl, I0⟩⟩⟩
      · refine br_f h2 ?_
        refine br_f (by decide) ?_
        have hY : ∀ {A B : Prop}, A → ((v1 - v1 / 8 * 8) < nI n → A) ∧ (¬ (v1 - v1 / 8 * 8) < nI n → B) := fun a => br_t (Int32.not_le.mp h2) a
        rcases cf_ix v2 (n := 4) (by decide) with hc | ⟨c, hc, rfl⟩
        · refine xw_col_f hc ?_
          refine br_t rfl ?_
          refine br_f h0 ⟨by decide, br_f h1 ⟨by decide, hY ?_⟩⟩
          refine yw_col_f hc ?_
          exact br_f (by decide) ⟨rfl, I0⟩
        · refine xw_col_t hc ?_
          refine br_f (by decide) ?_
          by_cases hw : ¬ v3 < -20 ∧ ¬ 50 < v3
          · refine xw_wei_t hw.1 hw.2 ?_
            refine br_f (by decide) ?_
            by_cases hl : m < 12
            · have hcl : (nI m).toNatClampNeg = m := nI_clamp (by omega)
              have hi : vp_in (nI m) 12 := vp_in_nI hl (by decide)
              obtain ⟨j, hj, rfl⟩ := nI_of h0
              obtain ⟨g1, g2⟩ := cf_lk hj hn7 h1 h2
              have R : i_Rel (k + 4) (nI n, nI (m + 1), upd fr m (nI j / 8), upd ft m (nI j - nI j / 8 * 8), upd co m (nI c), upd we m v3, qs, tr, us) (nI n, nI (m + 1), upd fr m (nI j / 8), upd ft m (nI j - nI j / 8 * 8), upd co m (nI c), upd we m v3, qy, lb, uy) :=
                ⟨n, m + 1, _, _, _, _, qs, tr, us, qy, lb, uy, rfl, rfl, ⟨⟨hn2, hn7⟩, hl, cf_up_n (P := fun x => vp_in x 7) hfr g1, cf_up_n (P := fun x => vp_in x 7) hft g2, cf_up_n (P := fun x => vp_in x 4) hco (vp_in_nI hc (by decide)), cf_up_n (P := fun x => -20 ≤ x.toInt ∧ x.toInt ≤ 50) hwe (cf_wb hw.1 hw.2), hqs⟩, hq⟩
              refine br_t (nI_lt (b := 12) hl (by decide)) ⟨by decide, hi, ?_⟩
              refine nm_r (e' := upd fr m (nI j / 8)) (by rw [hcl]) ⟨by decide, hi, ?_⟩
              refine nm_r (e' := upd ft m (nI j - nI j / 8 * 8)) (by rw [hcl]) ⟨hi, ?_⟩
              refine nm_r (e' := upd co m (nI c)) (by rw [hcl]) ⟨hi, ?_⟩
              refine nm_r (e' := upd we m v3) (by rw [hcl]) ?_
              refine nm_r (nI_1 m) ?_
              refine br_f h0 ⟨by decide, br_f h1 ⟨by decide, hY ?_⟩⟩
              refine yw_col_t hc ?_
              refine br_t rfl ?_
              refine yw_wei_t hw.1 hw.2 ?_
              refine br_t rfl ?_
              refine br_t (nI_lt (b := 12) hl (by decide)) ⟨by decide, hi, ?_⟩
              refine nm_r (e' := upd fr m (nI j / 8)) (by rw [hcl]) ⟨by decide, hi, ?_⟩
              refine nm_r (e' := upd ft m (nI j - nI j / 8 * 8)) (by rw [hcl]) ⟨hi, ?_⟩
              refine nm_r (e' := upd co m (nI c)) (by rw [hcl]) ⟨hi, ?_⟩
              refine nm_r (e' := upd we m v3) (by rw [hcl]) ?_
              exact nm_r (nI_1 m) ⟨rfl, R⟩
            · have hl' : ¬ nI m < 12 := nI_nlt (b := 12) (by omega) (by omega)
              refine br_f hl' ?_
              refine br_f h0 ⟨by decide, br_f h1 ⟨by decide, hY ?_⟩⟩
              refine yw_col_t hc ?_
              refine br_t rfl ?_
              refine yw_wei_t hw.1 hw.2 ?_
              refine br_t rfl ?_
              exact br_f hl' ⟨rfl, I0⟩
          · refine xw_wei_f hw ?_
            refine br_t rfl ?_
            refine br_f h0 ⟨by decide, br_f h1 ⟨by decide, hY ?_⟩⟩
            refine yw_col_t hc ?_
            refine br_t rfl ?_
            refine yw_wei_f hw ?_
            exact br_f (by decide) ⟨rfl, I0⟩
