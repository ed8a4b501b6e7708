/-! ===== Y: search ===== -/
def cf_by (T : Nat → Int32) : Option Nat → Int32
  | none => 0
  | some s => T s
theorem cf_by_take {T : Nat → Int32} {b : Option Nat} {t : Int32} (hl : (-10000 : Int32) ≤ t) (hb : ∀ c, b = some c → c < 4096) (h : cf_enc b < 0 ∨ ¬ t < cf_by T b) : ¬ t < cf_bw T b := by
  cases b with
  | none => exact Int32.not_lt.mpr hl
  | some c =>
    have hc := hb c rfl
    exact h.elim (fun z => absurd z (nI_pos (n := c) (by omega))) (fun z => z)
theorem cf_by_skip {T : Nat → Int32} {b : Option Nat} {t : Int32} (h : ¬ cf_enc b < 0 ∧ t < cf_by T b) : t < cf_bw T b := by
  cases b with
  | none => exact absurd (show cf_enc none < 0 by decide) h.1
  | some c => exact h.2
theorem yw_se0 {post : Int32 → SY → Prop} {J : Int32 → Int32 → Int32 → Int32 → Int32 → (Nat → Int32) → (Nat → Int32) → (Nat → Int32) → (Nat → Int32) → (Nat → Int32) → (Nat → Int32) → (Nat → Int32) → Prop} {k : Nat} {x1 x2 x3 x4 x5 vn mm : Int32} {fr ft co we qs lb us : Nat → Int32} (h : J x4 x5 (nI (k + 1)) vn mm fr ft co we qs lb us) : wY_search_54 post J x1 x2 x3 x4 x5 (nI k) 0 vn mm fr ft co we qs lb us :=
  br_t rfl (nm_r (nI_1 k) h)
theorem yw_se7 {post : Int32 → SY → Prop} {J : Int32 → Int32 → Int32 → Int32 → Int32 → (Nat → Int32) → (Nat → Int32) → (Nat → Int32) → (Nat → Int32) → (Nat → Int32) → (Nat → Int32) → (Nat → Int32) → Prop} {k m : Nat} {x1 x2 x3 x4 x5 vn : Int32} {fr ft co we qs lb us : Nat → Int32} (hk : k < 4096) (hm : m ≤ 12) (hfr : ∀ e, e < m → vp_in (fr e) 7) (hft : ∀ e, e < m → vp_in (ft e) 7) (hco : ∀ e, e < m → vp_in (co e) 4)
    (hs : cf_G (cf_at fr) (cf_at ft) (cf_at co) qs k m = false → ∀ lb us, J x4 x5 (nI (k + 1)) vn (nI m) fr ft co we qs lb us)
    (ht : cf_G (cf_at fr) (cf_at ft) (cf_at co) qs k m = true → ∀ lb us, J (nI k) (cf_tot we k m) (nI (k + 1)) vn (nI m) fr ft co we qs lb us) : wY_search_77 post J x1 x2 x3 x4 x5 (nI k) vn (nI m) fr ft co we qs lb us := by
  refine yw_good hk hm hfr hft hco (fun lb' us' => ?_)
  refine cf_bb _ (fun hg => ?_) (fun hg => ?_)
  · refine yw_wt hk hm ?_
    exact nm_r (nI_1 k) (ht hg lb' us')
  · exact nm_r (nI_1 k) (hs hg lb' us')
theorem yw_se1 {post : Int32 → SY → Prop} {J : Int32 → Int32 → Int32 → Int32 → Int32 → (Nat → Int32) → (Nat → Int32) → (Nat → Int32) → (Nat → Int32) → (Nat → Int32) → (Nat → Int32) → (Nat → Int32) → Prop} {k m : Nat} {x1 x2 x3 x4 x5 vn : Int32} {fr ft co we qs lb us : Nat → Int32} (hk : k < 4096) (hm : m ≤ 12) (hfr : ∀ e, e < m → vp_in (fr e) 7) (hft : ∀ e, e < m → vp_in (ft e) 7) (hco : ∀ e, e < m → vp_in (co e) 4)
    (hs : (cf_G (cf_at fr) (cf_at ft) (cf_at co) qs k m = true → ¬ x4 < 0 ∧ cf_tot we k m < x5) → ∀ lb us, J x4 x5 (nI (k + 1)) vn (nI m) fr ft co we qs lb us)
    (ht : cf_G (cf_at fr) (cf_at ft) (cf_at co) qs k m = true → (x4 < 0 ∨ ¬ cf_tot we k m < x5) → ∀ lb us, J (nI k) (cf_tot we k m) (nI (k + 1)) vn (nI m) fr ft co we qs lb us) : wY_search_54 post J x1 x2 x3 x4 x5 (nI k) 1 vn (nI m) fr ft co we qs lb us := by
  refine br_f (by decide) ?_
  by_cases h1 : x4 < 0
  · refine br_t h1 ?_
    exact yw_se7 hk hm hfr hft hco (fun hg => hs (fun z => by rw [hg] at z; cases z)) (fun hg => ht hg (Or.inl h1))
  · refine br_f h1 ?_
    refine yw_wt hk hm ?_
    by_cases h2 : cf_tot we k m < x5
    · exact br_t h2 (nm_r (nI_1 k) (hs (fun _ => ⟨h1, h2⟩) lb us))
    · refine br_f h2 ?_
      exact yw_se7 hk hm hfr hft hco (fun hg => hs (fun z => by rw [hg] at z; cases z)) (fun hg => ht hg (Or.inr h2))
theorem yw_se_l {post : Int32 → SY → Prop} {m : Nat} {q nd br vn : Int32} {fr ft co we qs : Nat → Int32} (hm : m ≤ 12) (hfr : ∀ e, e < m → vp_in (fr e) 7) (hft : ∀ e, e < m → vp_in (ft e) 7) (hco : ∀ e, e < m → vp_in (co e) 4) (hwe : ∀ e, e < m → -20 ≤ (we e).toInt ∧ (we e).toInt ≤ 50) (T : Nat → Int32) (P : Nat → Bool) (hT : T = fun s => cf_tot we s m) (hP : P = cf_PY (fun s => cf_G (cf_at fr) (cf_at ft) (cf_at co) qs s m) q nd br)
    (hp : ∀ lb us, post (cf_enc (cf_best T P (2 ^ m))) (vn, nI m, fr, ft, co, we, qs, lb, us)) : ∀ d k n lb us, k + d = 2 ^ m → d < n → wY_search_9 post q nd br n (cf_enc (cf_best T P k)) (cf_by T (cf_best T P k)) (nI k) vn (nI m) fr ft co we qs lb us := by
  have h12 := cf_p12 hm
  have hpw := cf_pw0 m
  have hsh := cf_shl1 m (by omega)
  intro d
  induction d with
  | zero =>
    intro k n lb us he hn
    obtain ⟨n, rfl⟩ : ∃ k, n = k + 1 := ⟨n - 1, by omega⟩
    have e1 : k = 2 ^ m := by omega
    subst e1
    exact br_t (by rw [hsh]; exact nI_le (Nat.le_refl _) (by omega)) (hp lb us)
  | succ d ih =>
    intro k n lb us he hn
    obtain ⟨n, rfl⟩ : ∃ k, n = k + 1 := ⟨n - 1, by omega⟩
    have ih' := fun lb us => ih (k + 1) n lb us (by omega) (by omega)
    have hk : k < 4096 := by omega
    have hlow : (-10000 : Int32) ≤ T k := by rw [hT]; exact cf_tot_ge we k m hm hwe
    have hbl : ∀ c, cf_best T P k = some c → c < 4096 := fun c hc => by
      have := cf_best_lt _ _ hc
      omega
    have hskip : (P k = true → ¬ cf_enc (cf_best T P k) < 0 ∧ T k < cf_by T (cf_best T P k)) → ∀ lb us, wY_search_9 post q nd br n (cf_enc (cf_best T P k)) (cf_by T (cf_best T P k)) (nI (k + 1)) vn (nI m) fr ft co we qs lb us := by
      intro h
      rw [cf_best_skip hlow (fun z => cf_by_skip (h z))] at ih'
      exact ih'
    have htake : P k = true → (cf_enc (cf_best T P k) < 0 ∨ ¬ T k < cf_by T (cf_best T P k)) → ∀ lb us, wY_search_9 post q nd br n (nI k) (cf_tot we k m) (nI (k + 1)) vn (nI m) fr ft co we qs lb us := by
      intro h1 h2
      rw [cf_best_take h1 (cf_by_take hlow hbl h2)] at ih'
      have e3 : cf_by T (some k) = cf_tot we k m := by rw [hT]; rfl
      rw [e3] at ih'
      exact ih'
    have hPv : P k = (decide (nI k &&& nd = nd) && (decide (nI k &&& br = 0) && (decide (q < 0 ∨ nI (cf_sz k 12) = q) && cf_G (cf_at fr) (cf_at ft) (cf_at co) qs k m))) := by rw [hP]; rfl
    have hTv : T k = cf_tot we k m := by rw [hT]
    rw [hTv] at hskip htake
    refine br_f (by rw [hsh]; exact nI_ge (by omega) (by omega)) ?_
    by_cases h1 : nI k &&& nd = nd
    · refine br_t h1 ?_
      rw [decide_eq_true h1, Bool.true_and] at hPv
      by_cases h2 : nI k &&& br = 0
      · refine br_t h2 ?_
        rw [decide_eq_true h2, Bool.true_and] at hPv
        have hyes : (q < 0 ∨ nI (cf_sz k 12) = q) → wY_search_49 post (wY_search_9 post q nd br n) q nd br (cf_enc (cf_best T P k)) (cf_by T (cf_best T P k)) (nI k) vn (nI m) fr ft co we qs lb us := by
          intro h3
          rw [decide_eq_true h3, Bool.true_and] at hPv
          rw [hPv] at hskip htake
          exact yw_se1 hk hm hfr hft hco hskip htake
        by_cases h3 : q < 0
        · exact br_t h3 (hyes (Or.inl h3))
        · refine br_f h3 ?_
          refine yw_size hk ?_
          by_cases h4 : nI (cf_sz k 12) = q
          · exact br_t h4 (hyes (Or.inr h4))
          · refine br_f h4 ?_
            rw [decide_eq_false (fun z => z.elim h3 h4), Bool.false_and] at hPv
            exact yw_se0 (hskip (fun z => by rw [hPv] at z; cases z) lb us)
      · refine br_f h2 ?_
        rw [decide_eq_false h2, Bool.false_and] at hPv
        exact yw_se0 (hskip (fun z => by rw [hPv] at z; cases z) lb us)
    · refine br_f h1 ?_
      rw [decide_eq_false h1, Bool.false_and] at hPv
      exact yw_se0 (hskip (fun z => by rw [hPv] at z; cases z) lb us)
theorem yw_se {post : Int32 → SY → Prop} {m : Nat} {q nd br vn : Int32} {fr ft co we qs lb us : Nat → Int32} (hm : m ≤ 12) (hfr : ∀ e, e < m → vp_in (fr e) 7) (hft : ∀ e, e < m → vp_in (ft e) 7) (hco : ∀ e, e < m → vp_in (co e) 4) (hwe : ∀ e, e < m → -20 ≤ (we e).toInt ∧ (we e).toInt ≤ 50)
    (hp : ∀ lb us, post (cf_enc (cf_best (fun s => cf_tot we s m) (cf_PY (fun s => cf_G (cf_at fr) (cf_at ft) (cf_at co) qs s m) q nd br) (2 ^ m))) (vn, nI m, fr, ft, co, we, qs, lb, us)) : wpY_search post (vn, nI m, fr, ft, co, we, qs, lb, us) q nd br :=
  ⟨2 ^ m + 1, yw_se_l hm hfr hft hco hwe _ _ rfl rfl hp (2 ^ m) 0 (2 ^ m + 1) lb us (by omega) (by omega)⟩
/-! ===== Y: most, rank ===== -/
theorem yw_mo_l {post : Int32 → SY → Prop} {m : Nat} {vn : Int32} {fr ft co we qs : Nat → Int32} (hm : m ≤ 12) (hfr : ∀ e, e < m → vp_in (fr e) 7) (hft : ∀ e, e < m → vp_in (ft e) 7) (hco : ∀ e, e < m → vp_in (co e) 4) (Z : Nat → Nat) (P : Nat → Bool) (hZ : Z = fun s => cf_sz s 12) (hP : P = fun s => cf_G (cf_at fr) (cf_at ft) (cf_at co) qs s m)
    (hp : ∀ lb us, post (nI (cf_mx Z P (2 ^ m))) (vn, nI m, fr, ft, co, we, qs, lb, us)) : ∀ d k n lb us, k + d = 2 ^ m → d < n → wY_most_4 post n (nI (cf_mx Z P k)) (nI k) vn (nI m) fr ft co we qs lb us := by
  have h12 := cf_p12 hm
  have hpw := cf_pw0 m
  have hsh := cf_shl1 m (by omega)
  intro d
  induction d with
  | zero =>
    intro k n lb us he hn
    obtain ⟨n, rfl⟩ : ∃ k, n = k + 1 := ⟨n - 1, by omega⟩
    have e1 : k = 2 ^ m := by omega
    subst e1
    exact br_t (by rw [hsh]; exact nI_le (Nat.le_refl _) (by omega)) (hp lb us)
  | succ d ih =>
    intro k n lb us he hn
    obtain ⟨n, rfl⟩ : ∃ k, n = k + 1 := ⟨n - 1, by omega⟩
    have ih' := fun lb us => ih (k + 1) n lb us (by omega) (by omega)
    have hk : k < 4096 := by omega
    have hz : Z k = cf_sz k 12 := by rw [hZ]
    have hzl := cf_sz_le k 12
    have hml : cf_mx Z P k ≤ 12 := cf_mx_ub Z P 12 k (fun s _ _ => by rw [hZ]; exact cf_sz_le s 12)
    refine br_f (by rw [hsh]; exact nI_ge (by omega) (by omega)) ?_
    refine yw_size hk ?_
    by_cases h1 : cf_sz k 12 ≤ cf_mx Z P k
    · rw [cf_mx_f (fun z => by have := z.1; omega)] at ih'
      exact br_t (nI_le h1 (by omega)) (nm_r (nI_1 k) (ih' lb us))
    · refine br_f (nI_ge (by omega) (by omega)) ?_
      refine yw_good hk hm hfr hft hco (fun lb' us' => ?_)
      refine cf_bb _ (fun hg => ?_) (fun hg => ?_)
      · rw [cf_mx_t (by omega) (by rw [hP]; exact hg), hz] at ih'
        refine yw_size hk ?_
        exact nm_r (nI_1 k) (ih' lb' us')
      · rw [cf_mx_f (fun z => by have h2 := z.2; rw [hP] at h2; rw [show cf_G (cf_at fr) (cf_at ft) (cf_at co) qs k m = true from h2] at hg; cases hg)] at ih'
        exact nm_r (nI_1 k) (ih' lb' us')
theorem yw_mo {post : Int32 → SY → Prop} {m : Nat} {vn : Int32} {fr ft co we qs lb us : Nat → Int32} (hm : m ≤ 12) (hfr : ∀ e, e < m → vp_in (fr e) 7) (hft : ∀ e, e < m → vp_in (ft e) 7) (hco : ∀ e, e < m → vp_in (co e) 4)
    (hp : ∀ lb us, post (nI (cf_mx (fun s => cf_sz s m) (fun s => cf_G (cf_at fr) (cf_at ft) (cf_at co) qs s m) (2 ^ m))) (vn, nI m, fr, ft, co, we, qs, lb, us)) : wpY_most post (vn, nI m, fr, ft, co, we, qs, lb, us) := by
  have e : cf_mx (fun s => cf_sz s m) (fun s => cf_G (cf_at fr) (cf_at ft) (cf_at co) qs s m) (2 ^ m) = cf_mx (fun s => cf_sz s 12) (fun s => cf_G (cf_at fr) (cf_at ft) (cf_at co) qs s m) (2 ^ m) := cf_mx_eq _ (fun s hs => ⟨(cf_sz12 hs hm).symm, rfl⟩)
  rw [e] at hp
  exact ⟨2 ^ m + 1, yw_mo_l hm hfr hft hco _ _ rfl rfl hp (2 ^ m) 0 (2 ^ m + 1) lb us (by omega) (by omega)⟩
theorem yw_rk_l {post : Int32 → SY → Prop} {m : Nat} {vn : Int32} {fr ft co we qs us : Nat → Int32} (hm : m ≤ 12) (hfr : ∀ e, e < m → vp_in (fr e) 7) (hft : ∀ e, e < m → vp_in (ft e) 7) (Z : Nat → Nat) (P : Nat → Bool) (hZ : Z = fun s => cf_sz s 12) (hP : P = fun s => cf_F (cf_at fr) (cf_at ft) s m)
    (hp : ∀ lb, post (nI (cf_mx Z P (2 ^ m))) (vn, nI m, fr, ft, co, we, qs, lb, us)) : ∀ d k n lb, k + d = 2 ^ m → d < n → wY_rank_4 post n (nI (cf_mx Z P k)) (nI k) vn (nI m) fr ft co we qs lb us := by
  have h12 := cf_p12 hm
  have hpw := cf_pw0 m
  have hsh := cf_shl1 m (by omega)
  intro d
  induction d with
  | zero =>
    intro k n lb he hn
    obtain ⟨n, rfl⟩ : ∃ k, n = k + 1 := ⟨n - 1, by omega⟩
    have e1 : k = 2 ^ m := by omega
    subst e1
    exact br_t (by rw [hsh]; exact nI_le (Nat.le_refl _) (by omega)) (hp lb)
  | succ d ih =>
    intro k n lb he hn
    obtain ⟨n, rfl⟩ : ∃ k, n = k + 1 := ⟨n - 1, by omega⟩
    have ih' := fun lb => ih (k + 1) n lb (by omega) (by omega)
    have hk : k < 4096 := by omega
    have hz : Z k = cf_sz k 12 := by rw [hZ]
    have hzl := cf_sz_le k 12
    have hml : cf_mx Z P k ≤ 12 := cf_mx_ub Z P 12 k (fun s _ _ => by rw [hZ]; exact cf_sz_le s 12)
    refine br_f (by rw [hsh]; exact nI_ge (by omega) (by omega)) ?_
    refine yw_size hk ?_
    by_cases h1 : cf_sz k 12 ≤ cf_mx Z P k
    · rw [cf_mx_f (fun z => by have := z.1; omega)] at ih'
      exact br_t (nI_le h1 (by omega)) (nm_r (nI_1 k) (ih' lb))
    · refine br_f (nI_ge (by omega) (by omega)) ?_
      refine yw_fo hk hm hfr hft (fun lb' => ?_)
      refine cf_bb _ (fun hg => ?_) (fun hg => ?_)
      · rw [cf_mx_t (by omega) (by rw [hP]; exact hg), hz] at ih'
        refine yw_size hk ?_
        exact nm_r (nI_1 k) (ih' lb')
      · rw [cf_mx_f (fun z => by have h2 := z.2; rw [hP] at h2; rw [show cf_F (cf_at fr) (cf_at ft) k m = true from h2] at hg; cases hg)] at ih'
        exact nm_r (nI_1 k) (ih' lb')
theorem yw_rk {post : Int32 → SY → Prop} {m : Nat} {vn : Int32} {fr ft co we qs lb us : Nat → Int32} (hm : m ≤ 12) (hfr : ∀ e, e < m → vp_in (fr e) 7) (hft : ∀ e, e < m → vp_in (ft e) 7)
    (hp : ∀ lb, post (nI (cf_J (cf_at fr) (cf_at ft) (2 ^ m - 1) m)) (vn, nI m, fr, ft, co, we, qs, lb, us)) : wpY_rank post (vn, nI m, fr, ft, co, we, qs, lb, us) := by
  have e : cf_mx (fun s => cf_sz s m) (fun s => cf_F (cf_at fr) (cf_at ft) s m) (2 ^ m) = cf_mx (fun s => cf_sz s 12) (fun s => cf_F (cf_at fr) (cf_at ft) s m) (2 ^ m) := cf_mx_eq _ (fun s hs => ⟨(cf_sz12 hs hm).symm, rfl⟩)
  rw [← cf_rank (cf_at fr) (cf_at ft) m (cf_at_lt (Nat.le_refl 7) hfr) (cf_at_lt (Nat.le_refl 7) hft), e] at hp
  exact ⟨2 ^ m + 1, yw_rk_l hm hfr hft _ _ rfl rfl hp (2 ^ m) 0 (2 ^ m + 1) lb (by omega) (by omega)⟩
/-! ===== Y: replaces, spares ===== -/
theorem yw_cr_l {post : Int32 → SY → Prop} {s e m : Nat} {vn : Int32} {fr ft co we qs : Nat → Int32} (hs : s < 2 ^ m) (he : e < m) (hm : m ≤ 12) (hfr : ∀ e, e < m → vp_in (fr e) 7) (hft : ∀ e, e < m → vp_in (ft e) 7) (hco : ∀ e, e < m → vp_in (co e) 4) (G : Nat → Bool) (hG : G = fun s => cf_G (cf_at fr) (cf_at ft) (cf_at co) qs s m)
    (hp : ∀ lb us, post (cf_b (cf_rep G s e m)) (vn, nI m, fr, ft, co, we, qs, lb, us)) : ∀ d f n lb us, f + d = m → d < n → cf_rep G s e f = false → wY_replaces_2 post (nI s) (nI e) n (nI f) vn (nI m) fr ft co we qs lb us := by
  have h12 := cf_p12 hm
  intro d
  induction d with
  | zero =>
    intro f n lb us hf hn h
    obtain ⟨n, rfl⟩ : ∃ k, n = k + 1 := ⟨n - 1, by omega⟩
    have e1 : f = m := by omega
    subst e1
    have h1 := hp lb us
    rw [h] at h1
    exact br_t (nI_le (Nat.le_refl _) (by omega)) h1
  | succ d ih =>
    intro f n lb us hf hn h
    obtain ⟨n, rfl⟩ : ∃ k, n = k + 1 := ⟨n - 1, by omega⟩
    have ih' := fun lb us => ih (f + 1) n lb us (by omega) (by omega)
    have hsw : (s ^^^ 2 ^ f) ||| 2 ^ e < 2 ^ m := cf_swl hs (by omega) he
    refine br_f (nI_ge (by omega) (by omega)) ?_
    refine br_f (nI_ge (b := 12) (by omega) (by decide)) ?_
    by_cases hb : s.testBit f = true
    · refine yw_in_t (by omega) (by omega) hb ?_
      refine br_f (by decide) ?_
      have hv : (nI s &&& (((1 : Int32) <<< (nI f &&& 31)) ^^^ (-1))) ||| ((1 : Int32) <<< (nI e &&& 31)) = nI ((s ^^^ 2 ^ f) ||| 2 ^ e) := by
        rw [cf_shl1 f (by omega), cf_shl1 e (by omega), cf_swp hb, cf_or]
      rw [hv]
      refine yw_good (by omega) hm hfr hft hco (fun lb' us' => ?_)
      refine cf_bb _ (fun hg => ?_) (fun hg => ?_)
      · have h1 := hp lb' us'
        rw [cf_rep_t G s e f hb (by rw [hG]; exact hg) m (by omega)] at h1
        exact h1
      · exact nm_r (nI_1 f) (ih' lb' us' (cf_rep_f h (fun z => by have h2 := z.2; rw [hG] at h2; rw [show cf_G (cf_at fr) (cf_at ft) (cf_at co) qs ((s ^^^ 2 ^ f) ||| 2 ^ e) m = true from h2] at hg; cases hg)))
    · refine yw_in_f (by omega) (by omega) hb ?_
      exact br_t rfl (nm_r (nI_1 f) (ih' lb us (cf_rep_f h (fun z => hb z.1))))
theorem yw_cr {post : Int32 → SY → Prop} {s e m : Nat} {vn : Int32} {fr ft co we qs lb us : Nat → Int32} (hs : s < 2 ^ m) (he : e < m) (hm : m ≤ 12) (hfr : ∀ e, e < m → vp_in (fr e) 7) (hft : ∀ e, e < m → vp_in (ft e) 7) (hco : ∀ e, e < m → vp_in (co e) 4) (G : Nat → Bool) (hG : G = fun s => cf_G (cf_at fr) (cf_at ft) (cf_at co) qs s m)
    (hp : ∀ lb us, post (cf_b (cf_rep G s e m)) (vn, nI m, fr, ft, co, we, qs, lb, us)) : wpY_replaces post (vn, nI m, fr, ft, co, we, qs, lb, us) (nI s) (nI e) :=
  ⟨m + 1, yw_cr_l hs he hm hfr hft hco G hG hp m 0 (m + 1) lb us (by omega) (by omega) rfl⟩
theorem yw_sp_l {post : Int32 → SY → Prop} {s m : Nat} {vn : Int32} {fr ft co we qs : Nat → Int32} (hs : s < 2 ^ m) (hm : m ≤ 12) (hfr : ∀ e, e < m → vp_in (fr e) 7) (hft : ∀ e, e < m → vp_in (ft e) 7) (hco : ∀ e, e < m → vp_in (co e) 4) (G : Nat → Bool) (hG : G = fun s => cf_G (cf_at fr) (cf_at ft) (cf_at co) qs s m)
    (hp : ∀ lb us, post (nI (cf_spc G s m m)) (vn, nI m, fr, ft, co, we, qs, lb, us)) : ∀ d e n lb us, e + d = m → d < n → wY_spares_18 post (nI s) n (nI (cf_spc G s m e)) (nI e) vn (nI m) fr ft co we qs lb us := by
  have h12 := cf_p12 hm
  intro d
  induction d with
  | zero =>
    intro e n lb us he hn
    obtain ⟨n, rfl⟩ : ∃ k, n = k + 1 := ⟨n - 1, by omega⟩
    have e1 : e = m := by omega
    subst e1
    exact br_t (nI_le (Nat.le_refl _) (by omega)) (hp lb us)
  | succ d ih =>
    intro e n lb us he hn
    obtain ⟨n, rfl⟩ : ∃ k, n = k + 1 := ⟨n - 1, by omega⟩
    have ih' := fun lb us => ih (e + 1) n lb us (by omega) (by omega)
    refine br_f (nI_ge (by omega) (by omega)) ?_
    refine br_f (nI_ge (b := 12) (by omega) (by decide)) ?_
    by_cases hb : s.testBit e = true
    · rw [cf_spc_f (fun z => z.1 hb)] at ih'
      refine yw_in_t (by omega) (by omega) hb ?_
      exact br_f (by decide) (nm_r (nI_1 e) (ih' lb us))
    · refine yw_in_f (by omega) (by omega) hb ?_
      refine br_t rfl ?_
      refine yw_cr hs (by omega) hm hfr hft hco G hG (fun lb' us' => ?_)
      refine cf_bb _ (fun hg => ?_) (fun hg => ?_)
      · rw [cf_spc_t hb hg] at ih'
        exact nm_r (nI_1 _) (nm_r (nI_1 e) (ih' lb' us'))
      · rw [cf_spc_f (fun z => by have h2 := z.2; rw [hg] at h2; cases h2)] at ih'
        exact nm_r (nI_1 e) (ih' lb' us')
theorem yw_sp_m {post : Int32 → SY → Prop} {m : Nat} {vn : Int32} {fr ft co we qs lb us : Nat → Int32} (hm : m ≤ 12) (hp : post 0 (vn, nI m, fr, ft, co, we, qs, lb, us)) : ∀ d e n, e + d = m → d < n → wY_spares_18 post (-1) n 0 (nI e) vn (nI m) fr ft co we qs lb us := by
  intro d
  induction d with
  | zero =>
    intro e n he hn
    obtain ⟨n, rfl⟩ : ∃ k, n = k + 1 := ⟨n - 1, by omega⟩
    have e1 : e = m := by omega
    subst e1
    exact br_t (nI_le (Nat.le_refl _) (by omega)) hp
  | succ d ih =>
    intro e n he hn
    obtain ⟨n, rfl⟩ : ∃ k, n = k + 1 := ⟨n - 1, by omega⟩
    refine br_f (nI_ge (by omega) (by omega)) ?_
    refine br_f (nI_ge (b := 12) (by omega) (by decide)) ?_
    refine yw_in_m (by omega) ?_
    exact br_f (by decide) (nm_r (nI_1 e) (ih (e + 1) n (by omega) (by omega)))
theorem yw_sp {post : Int32 → SY → Prop} {m : Nat} {vn : Int32} {fr ft co we qs lb us : Nat → Int32} (hm : m ≤ 12) (hfr : ∀ e, e < m → vp_in (fr e) 7) (hft : ∀ e, e < m → vp_in (ft e) 7) (hco : ∀ e, e < m → vp_in (co e) 4) (hwe : ∀ e, e < m → -20 ≤ (we e).toInt ∧ (we e).toInt ≤ 50) (G : Nat → Bool) (hG : G = fun s => cf_G (cf_at fr) (cf_at ft) (cf_at co) qs s m) (T : Nat → Int32) (hT : T = fun s => cf_tot we s m) (q : Int32) (hq : q = nI (cf_mx (fun s => cf_sz s m) G (2 ^ m)))
    (hp : ∀ lb us, post (nI (cf_sp G m (cf_best T (cf_PY G q 0 0) (2 ^ m)))) (vn, nI m, fr, ft, co, we, qs, lb, us)) : wpY_spares post (vn, nI m, fr, ft, co, we, qs, lb, us) := by
  subst hG hT hq
  refine yw_mo hm hfr hft hco (fun lb' us' => ?_)
  refine yw_se hm hfr hft hco hwe (fun lb'' us'' => ?_)
  cases hb : cf_best (fun s => cf_tot we s m) (cf_PY (fun s => cf_G (cf_at fr) (cf_at ft) (cf_at co) qs s m) (nI (cf_mx (fun s => cf_sz s m) (fun s => cf_G (cf_at fr) (cf_at ft) (cf_at co) qs s m) (2 ^ m))) 0 0) (2 ^ m) with
  | none =>
    rw [hb] at hp
    exact ⟨m + 1, yw_sp_m hm (hp lb'' us'') m 0 (m + 1) (by omega) (by omega)⟩
  | some s =>
    rw [hb] at hp
    exact ⟨m + 1, yw_sp_l (cf_best_lt _ _ hb) hm hfr hft hco _ rfl hp m 0 (m + 1) lb'' us'' (by omega) (by omega)⟩
