/-! ===== X: bestAmong ===== -/
theorem xw_ba0 {post : Int32 → SX → Prop} {J : Int32 → Int32 → Int32 → Int32 → Int32 → (Nat → Int32) → (Nat → Int32) → (Nat → Int32) → (Nat → Int32) → (Nat → Int32) → (Nat → Int32) → (Nat → Int32) → Prop} {k m : Nat} {x1 x2 x3 x4 x5 x6 x7 vn : Int32} {fr ft co we qs tr us : Nat → Int32} (hk : k < 4096) (hm : m ≤ 12) (h : J x5 x6 (nI (k + 1)) vn (nI m) fr ft co we qs tr us) : wX_bestAmong_44 post J x1 x2 x3 x4 x5 x6 x7 (nI k) 0 vn (nI m) fr ft co we qs tr us := by
  refine xw_size hk hm ?_
  refine xw_wt hk hm ?_
  exact br_t rfl (nm_r (nI_1 k) h)
theorem xw_ba1 {post : Int32 → SX → Prop} {J : Int32 → Int32 → Int32 → Int32 → Int32 → (Nat → Int32) → (Nat → Int32) → (Nat → Int32) → (Nat → Int32) → (Nat → Int32) → (Nat → Int32) → (Nat → Int32) → Prop} {k m : Nat} {x1 x2 x3 x4 x5 x6 x7 vn : Int32} {fr ft co we qs tr us : Nat → Int32} (hk : k < 4096) (hm : m ≤ 12) (hfr : ∀ e, e < m → vp_in (fr e) 7) (hft : ∀ e, e < m → vp_in (ft e) 7) (hco : ∀ e, e < m → vp_in (co e) 4)
    (hs : (x3 ≤ nI (cf_sz k m) → nI (cf_sz k m) ≤ x4 → cf_G (cf_at fr) (cf_at ft) (cf_at co) qs k m = true → cf_tot we k m < x6) → ∀ tr us, J x5 x6 (nI (k + 1)) vn (nI m) fr ft co we qs tr us)
    (ht : x3 ≤ nI (cf_sz k m) → nI (cf_sz k m) ≤ x4 → cf_G (cf_at fr) (cf_at ft) (cf_at co) qs k m = true → ¬ cf_tot we k m < x6 → ∀ tr us, J (nI k) (cf_tot we k m) (nI (k + 1)) vn (nI m) fr ft co we qs tr us) : wX_bestAmong_44 post J x1 x2 x3 x4 x5 x6 x7 (nI k) 1 vn (nI m) fr ft co we qs tr us := by
  refine xw_size hk hm ?_
  refine xw_wt hk hm ?_
  refine br_f (by decide) ?_
  by_cases h1 : nI (cf_sz k m) < x3
  · exact br_t h1 (nm_r (nI_1 k) (hs (fun z => absurd h1 (Int32.not_lt.mpr z)) tr us))
  · have h1' := Int32.not_lt.mp h1
    refine br_f h1 ?_
    by_cases h2 : x4 < nI (cf_sz k m)
    · exact br_t h2 (nm_r (nI_1 k) (hs (fun _ z => absurd h2 (Int32.not_lt.mpr z)) tr us))
    · have h2' := Int32.not_lt.mp h2
      refine br_f h2 ?_
      by_cases h3 : cf_tot we k m < x6
      · exact br_t h3 (nm_r (nI_1 k) (hs (fun _ _ _ => h3) tr us))
      · refine br_f h3 ?_
        refine xw_good hk hm hfr hft hco (fun tr' us' => ?_)
        refine cf_bb _ (fun hg => ?_) (fun hg => ?_)
        · exact nm_r (nI_1 k) (ht h1' h2' hg h3 tr' us')
        · exact nm_r (nI_1 k) (hs (fun _ _ z => by rw [hg] at z; cases z) tr' us')
theorem xw_ba_l {post : Int32 → SX → Prop} {m : Nat} {nd br lo hi vn : Int32} {fr ft co we qs : Nat → Int32} (hm : m ≤ 12) (hfr : ∀ e, e < m → vp_in (fr e) 7) (hft : ∀ e, e < m → vp_in (ft e) 7) (hco : ∀ e, e < m → vp_in (co e) 4) (hwe : ∀ e, e < m → -20 ≤ (we e).toInt ∧ (we e).toInt ≤ 50) (T : Nat → Int32) (P : Nat → Bool) (hT : T = fun s => cf_tot we s m) (hP : P = cf_PX (fun s => cf_G (cf_at fr) (cf_at ft) (cf_at co) qs s m) m nd br lo hi)
    (hp : ∀ tr us, post (cf_enc (cf_best T P (2 ^ m))) (vn, nI m, fr, ft, co, we, qs, tr, us)) : ∀ d k n tr us, k + d = 2 ^ m → d < n → wX_bestAmong_17 post nd br lo hi (nI (2 ^ m - 1)) n (cf_enc (cf_best T P k)) (cf_bw T (cf_best T P k)) (nI k) vn (nI m) fr ft co we qs tr us := by
  have h12 := cf_p12 hm
  have hpw := cf_pw0 m
  intro d
  induction d with
  | zero =>
    intro k n tr us he hn
    obtain ⟨n, rfl⟩ : ∃ k, n = k + 1 := ⟨n - 1, by omega⟩
    have e1 : k = 2 ^ m := by omega
    subst e1
    exact br_t (nI_lt (by omega) (by omega)) (hp tr us)
  | succ d ih =>
    intro k n tr us he hn
    obtain ⟨n, rfl⟩ : ∃ k, n = k + 1 := ⟨n - 1, by omega⟩
    have ih' := fun tr us => ih (k + 1) n tr us (by omega) (by omega)
    have hk : k < 4096 := by omega
    have hlow : (-10000 : Int32) ≤ T k := by rw [hT]; exact cf_tot_ge we k m hm hwe
    have hskip : (P k = true → T k < cf_bw T (cf_best T P k)) → ∀ tr us, wX_bestAmong_17 post nd br lo hi (nI (2 ^ m - 1)) n (cf_enc (cf_best T P k)) (cf_bw T (cf_best T P k)) (nI (k + 1)) vn (nI m) fr ft co we qs tr us := by
      intro h
      rw [cf_best_skip hlow h] at ih'
      exact ih'
    refine br_f (nI_nlt (by omega) (by omega)) ?_
    by_cases h1 : nI k &&& nd = nd
    · refine br_t h1 ?_
      by_cases h2 : nI k &&& br = 0
      · refine br_t h2 ?_
        refine xw_ba1 hk hm hfr hft hco (fun h => hskip (fun hpk => ?_)) (fun a b c e => ?_)
        · rw [hP] at hpk
          unfold cf_PX at hpk
          rw [Bool.and_eq_true, Bool.and_eq_true, Bool.and_eq_true, Bool.and_eq_true] at hpk
          obtain ⟨_, _, q1, q2, q3⟩ := hpk
          have h3 := h (of_decide_eq_true q1) (of_decide_eq_true q2) q3
          rw [hT] at h3 ⊢
          exact h3
        · have hpk : P k = true := by
            rw [hP]
            unfold cf_PX
            rw [decide_eq_true h1, decide_eq_true h2, decide_eq_true a, decide_eq_true b]
            exact c
          have e' : ¬ T k < cf_bw T (cf_best T P k) := by rw [hT] at e ⊢; exact e
          rw [cf_best_take hpk e'] at ih'
          have e3 : cf_bw T (some k) = cf_tot we k m := by rw [hT]; rfl
          rw [e3] at ih'
          exact ih'
      · refine br_f h2 ?_
        refine xw_ba0 hk hm (hskip (fun hpk => ?_) tr us)
        rw [hP] at hpk
        unfold cf_PX at hpk
        rw [decide_eq_false h2, Bool.false_and, Bool.and_false] at hpk
        cases hpk
    · refine br_f h1 ?_
      refine xw_ba0 hk hm (hskip (fun hpk => ?_) tr us)
      rw [hP] at hpk
      unfold cf_PX at hpk
      rw [decide_eq_false h1, Bool.false_and] at hpk
      cases hpk
theorem xw_ba {post : Int32 → SX → Prop} {m : Nat} {nd br lo hi vn : Int32} {fr ft co we qs tr us : Nat → Int32} (hm : m ≤ 12) (hfr : ∀ e, e < m → vp_in (fr e) 7) (hft : ∀ e, e < m → vp_in (ft e) 7) (hco : ∀ e, e < m → vp_in (co e) 4) (hwe : ∀ e, e < m → -20 ≤ (we e).toInt ∧ (we e).toInt ≤ 50)
    (hp : ∀ tr us, post (cf_enc (cf_best (fun s => cf_tot we s m) (cf_PX (fun s => cf_G (cf_at fr) (cf_at ft) (cf_at co) qs s m) m nd br lo hi) (2 ^ m))) (vn, nI m, fr, ft, co, we, qs, tr, us)) : wpX_bestAmong post (vn, nI m, fr, ft, co, we, qs, tr, us) nd br lo hi := by
  show ∃ n17 : Nat, wX_bestAmong_17 post nd br lo hi (((1 : Int32) <<< (nI m &&& 31)) - 1) n17 (-1) (-10000) 0 vn (nI m) fr ft co we qs tr us
  rw [cf_allI m (by omega)]
  exact ⟨2 ^ m + 1, xw_ba_l hm hfr hft hco hwe _ _ rfl rfl hp (2 ^ m) 0 (2 ^ m + 1) tr us (by omega) (by omega)⟩
/-! ===== X: greatest ===== -/
theorem xw_gr_l {post : Int32 → SX → Prop} {m : Nat} {vn : Int32} {fr ft co we qs : Nat → Int32} (hm : m ≤ 12) (hfr : ∀ e, e < m → vp_in (fr e) 7) (hft : ∀ e, e < m → vp_in (ft e) 7) (hco : ∀ e, e < m → vp_in (co e) 4) (Z : Nat → Nat) (P : Nat → Bool) (hZ : Z = fun s => cf_sz s m) (hP : P = fun s => cf_G (cf_at fr) (cf_at ft) (cf_at co) qs s m)
    (hp : ∀ tr us, post (nI (cf_mx Z P (2 ^ m))) (vn, nI m, fr, ft, co, we, qs, tr, us)) : ∀ d k n tr us, k + d = 2 ^ m → d < n → wX_greatest_9 post (nI (2 ^ m - 1)) n (nI (cf_mx Z P k)) (nI k) vn (nI m) fr ft co we qs tr us := by
  have h12 := cf_p12 hm
  have hpw := cf_pw0 m
  intro d
  induction d with
  | zero =>
    intro k n tr us he hn
    obtain ⟨n, rfl⟩ : ∃ k, n = k + 1 := ⟨n - 1, by omega⟩
    have e1 : k = 2 ^ m := by omega
    subst e1
    exact br_t (nI_lt (by omega) (by omega)) (hp tr us)
  | succ d ih =>
    intro k n tr us he hn
    obtain ⟨n, rfl⟩ : ∃ k, n = k + 1 := ⟨n - 1, by omega⟩
    have ih' := fun tr us => ih (k + 1) n tr us (by omega) (by omega)
    have hk : k < 4096 := by omega
    have hz : Z k = cf_sz k m := by rw [hZ]
    have hzl := cf_sz_le k m
    have hml : cf_mx Z P k ≤ 12 := cf_mx_ub Z P 12 k (fun s _ _ => by rw [hZ]; have := cf_sz_le s m; show cf_sz s m ≤ 12; omega)
    refine br_f (nI_nlt (by omega) (by omega)) ?_
    refine xw_size hk hm ?_
    by_cases h1 : cf_sz k m ≤ cf_mx Z P k
    · rw [cf_mx_f (fun z => by have := z.1; omega)] at ih'
      exact br_t (nI_le h1 (by omega)) (nm_r (nI_1 k) (ih' tr us))
    · refine br_f (nI_ge (by omega) (by omega)) ?_
      refine xw_good hk hm hfr hft hco (fun tr' us' => ?_)
      refine cf_bb _ (fun hg => ?_) (fun hg => ?_)
      · rw [cf_mx_t (by omega) (by rw [hP]; exact hg), hz] at ih'
        exact nm_r (nI_1 k) (ih' tr' us')
      · rw [cf_mx_f (fun z => by have h2 := z.2; rw [hP] at h2; rw [show cf_G (cf_at fr) (cf_at ft) (cf_at co) qs k m = true from h2] at hg; cases hg)] at ih'
        exact nm_r (nI_1 k) (ih' tr' us')
theorem xw_gr {post : Int32 → SX → Prop} {m : Nat} {vn : Int32} {fr ft co we qs tr us : Nat → Int32} (hm : m ≤ 12) (hfr : ∀ e, e < m → vp_in (fr e) 7) (hft : ∀ e, e < m → vp_in (ft e) 7) (hco : ∀ e, e < m → vp_in (co e) 4)
    (hp : ∀ tr us, post (nI (cf_mx (fun s => cf_sz s m) (fun s => cf_G (cf_at fr) (cf_at ft) (cf_at co) qs s m) (2 ^ m))) (vn, nI m, fr, ft, co, we, qs, tr, us)) : wpX_greatest post (vn, nI m, fr, ft, co, we, qs, tr, us) := by
  show ∃ n9 : Nat, wX_greatest_9 post (((1 : Int32) <<< (nI m &&& 31)) - 1) n9 0 0 vn (nI m) fr ft co we qs tr us
  rw [cf_allI m (by omega)]
  exact ⟨2 ^ m + 1, xw_gr_l hm hfr hft hco _ _ rfl rfl hp (2 ^ m) 0 (2 ^ m + 1) tr us (by omega) (by omega)⟩
/-! ===== X: canReplaceOne, spares ===== -/
theorem xw_cr_l {post : Int32 → SX → Prop} {s e m : Nat} {vn : Int32} {fr ft co we qs : Nat → Int32} (hs : s < 2 ^ m) (he : e < m) (hm : m ≤ 12) (hfr : ∀ e, e < m → vp_in (fr e) 7) (hft : ∀ e, e < m → vp_in (ft e) 7) (hco : ∀ e, e < m → vp_in (co e) 4) (G : Nat → Bool) (hG : G = fun s => cf_G (cf_at fr) (cf_at ft) (cf_at co) qs s m)
    (hp : ∀ tr us, post (cf_b (cf_rep G s e m)) (vn, nI m, fr, ft, co, we, qs, tr, us)) : ∀ d f n tr us, f + d = m → d < n → cf_rep G s e f = false → wX_canReplaceOne_2 post (nI s) (nI e) n (nI f) vn (nI m) fr ft co we qs tr us := by
  have h12 := cf_p12 hm
  intro d
  induction d with
  | zero =>
    intro f n tr us hf hn h
    obtain ⟨n, rfl⟩ : ∃ k, n = k + 1 := ⟨n - 1, by omega⟩
    have e1 : f = m := by omega
    subst e1
    have h1 := hp tr us
    rw [h] at h1
    exact br_t (nI_le (Nat.le_refl _) (by omega)) h1
  | succ d ih =>
    intro f n tr us hf hn h
    obtain ⟨n, rfl⟩ : ∃ k, n = k + 1 := ⟨n - 1, by omega⟩
    have ih' := fun tr us => ih (f + 1) n tr us (by omega) (by omega)
    have hsw : (s ^^^ 2 ^ f) ||| 2 ^ e < 2 ^ m := cf_swl hs (by omega) he
    refine br_f (nI_ge (by omega) (by omega)) ?_
    refine nm_r (e' := nI ((s ^^^ 2 ^ f) ||| 2 ^ e)) (by rw [cf_shl1 f (by omega), cf_shl1 e (by omega), nx_xor, cf_or]) ?_
    by_cases hb : s.testBit f = true
    · refine xw_con_t (by omega) (by omega) hb ?_
      refine br_f (by decide) ?_
      refine xw_good (by omega) hm hfr hft hco (fun tr' us' => ?_)
      refine cf_bb _ (fun hg => ?_) (fun hg => ?_)
      · have h1 := hp tr' us'
        rw [cf_rep_t G s e f hb (by rw [hG]; exact hg) m (by omega)] at h1
        exact h1
      · exact nm_r (nI_1 f) (ih' tr' us' (cf_rep_f h (fun z => by have h2 := z.2; rw [hG] at h2; rw [show cf_G (cf_at fr) (cf_at ft) (cf_at co) qs ((s ^^^ 2 ^ f) ||| 2 ^ e) m = true from h2] at hg; cases hg)))
    · refine xw_con_f (by omega) (by omega) hb ?_
      exact br_t rfl (nm_r (nI_1 f) (ih' tr us (cf_rep_f h (fun z => hb z.1))))
theorem xw_cr {post : Int32 → SX → Prop} {s e m : Nat} {vn : Int32} {fr ft co we qs tr us : Nat → Int32} (hs : s < 2 ^ m) (he : e < m) (hm : m ≤ 12) (hfr : ∀ e, e < m → vp_in (fr e) 7) (hft : ∀ e, e < m → vp_in (ft e) 7) (hco : ∀ e, e < m → vp_in (co e) 4) (G : Nat → Bool) (hG : G = fun s => cf_G (cf_at fr) (cf_at ft) (cf_at co) qs s m)
    (hp : ∀ tr us, post (cf_b (cf_rep G s e m)) (vn, nI m, fr, ft, co, we, qs, tr, us)) : wpX_canReplaceOne post (vn, nI m, fr, ft, co, we, qs, tr, us) (nI s) (nI e) :=
  ⟨m + 1, xw_cr_l hs he hm hfr hft hco G hG hp m 0 (m + 1) tr us (by omega) (by omega) rfl⟩
theorem xw_sp_l {post : Int32 → SX → Prop} {s m : Nat} {vn : Int32} {fr ft co we qs : Nat → Int32} (hs : s < 2 ^ m) (hm : m ≤ 12) (hfr : ∀ e, e < m → vp_in (fr e) 7) (hft : ∀ e, e < m → vp_in (ft e) 7) (hco : ∀ e, e < m → vp_in (co e) 4) (G : Nat → Bool) (hG : G = fun s => cf_G (cf_at fr) (cf_at ft) (cf_at co) qs s m)
    (hp : ∀ tr us, post (nI (cf_spc G s m m)) (vn, nI m, fr, ft, co, we, qs, tr, us)) : ∀ d e n tr us, e + d = m → d < n → wX_spares_19 post (nI s) n (nI (cf_spc G s m e)) (nI e) vn (nI m) fr ft co we qs tr us := by
  have h12 := cf_p12 hm
  intro d
  induction d with
  | zero =>
    intro e n tr us he hn
    obtain ⟨n, rfl⟩ : ∃ k, n = k + 1 := ⟨n - 1, by omega⟩
    have e1 : e = m := by omega
    subst e1
    exact br_t (nI_le (Nat.le_refl _) (by omega)) (hp tr us)
  | succ d ih =>
    intro e n tr us he hn
    obtain ⟨n, rfl⟩ : ∃ k, n = k + 1 := ⟨n - 1, by omega⟩
    have ih' := fun tr us => ih (e + 1) n tr us (by omega) (by omega)
    refine br_f (nI_ge (by omega) (by omega)) ?_
    by_cases hb : s.testBit e = true
    · rw [cf_spc_f (fun z => z.1 hb)] at ih'
      refine xw_con_t (by omega) (by omega) hb ?_
      exact br_f (by decide) (nm_r (nI_1 e) (ih' tr us))
    · refine xw_con_f (by omega) (by omega) hb ?_
      refine br_t rfl ?_
      refine xw_cr hs (by omega) hm hfr hft hco G hG (fun tr' us' => ?_)
      refine cf_bb _ (fun hg => ?_) (fun hg => ?_)
      · rw [cf_spc_t hb hg] at ih'
        exact nm_r (nI_1 _) (nm_r (nI_1 e) (ih' tr' us'))
      · rw [cf_spc_f (fun z => by have h2 := z.2; rw [hg] at h2; cases h2)] at ih'
        exact nm_r (nI_1 e) (ih' tr' us')
theorem xw_sp_m {post : Int32 → SX → Prop} {m : Nat} {vn : Int32} {fr ft co we qs tr us : Nat → Int32} (hm : m ≤ 12) (hp : post 0 (vn, nI m, fr, ft, co, we, qs, tr, us)) : ∀ d e n, e + d = m → d < n → wX_spares_19 post (-1) n 0 (nI e) vn (nI m) fr ft co we qs tr us := by
  intro d
  induction d with
  | zero =>
    intro e n he hn
    obtain ⟨n, rfl⟩ : ∃ k, n = k + 1 := ⟨n - 1, by omega⟩
    have e1 : e = m := by omega
    subst e1
    exact br_t (nI_le (Nat.le_refl _) (by omega)) hp
  | succ d ih =>
    intro e n he hn
    obtain ⟨n, rfl⟩ : ∃ k, n = k + 1 := ⟨n - 1, by omega⟩
    refine br_f (nI_ge (by omega) (by omega)) ?_
    refine xw_con_m (by omega) ?_
    exact br_f (by decide) (nm_r (nI_1 e) (ih (e + 1) n (by omega) (by omega)))
theorem xw_sp {post : Int32 → SX → Prop} {m : Nat} {vn : Int32} {fr ft co we qs tr us : Nat → Int32} (hm : m ≤ 12) (hfr : ∀ e, e < m → vp_in (fr e) 7) (hft : ∀ e, e < m → vp_in (ft e) 7) (hco : ∀ e, e < m → vp_in (co e) 4) (hwe : ∀ e, e < m → -20 ≤ (we e).toInt ∧ (we e).toInt ≤ 50) (G : Nat → Bool) (hG : G = fun s => cf_G (cf_at fr) (cf_at ft) (cf_at co) qs s m) (T : Nat → Int32) (hT : T = fun s => cf_tot we s m) (q : Int32) (hq : q = nI (cf_mx (fun s => cf_sz s m) G (2 ^ m)))
    (hp : ∀ tr us, post (nI (cf_sp G m (cf_best T (cf_PX G m 0 0 q q) (2 ^ m)))) (vn, nI m, fr, ft, co, we, qs, tr, us)) : wpX_spares post (vn, nI m, fr, ft, co, we, qs, tr, us) := by
  subst hG hT hq
  refine xw_gr hm hfr hft hco (fun tr' us' => ?_)
  refine xw_ba hm hfr hft hco hwe (fun tr'' us'' => ?_)
  cases hb : cf_best (fun s => cf_tot we s m) (cf_PX (fun s => cf_G (cf_at fr) (cf_at ft) (cf_at co) qs s m) m 0 0 (nI (cf_mx (fun s => cf_sz s m) (fun s => cf_G (cf_at fr) (cf_at ft) (cf_at co) qs s m) (2 ^ m))) (nI (cf_mx (fun s => cf_sz s m) (fun s => cf_G (cf_at fr) (cf_at ft) (cf_at co) qs s m) (2 ^ m)))) (2 ^ m) with
  | none =>
    rw [hb] at hp
    exact ⟨m + 1, xw_sp_m hm (hp tr'' us'') m 0 (m + 1) (by omega) (by omega)⟩
  | some s =>
    rw [hb] at hp
    exact ⟨m + 1, xw_sp_l (cf_best_lt _ _ hb) hm hfr hft hco _ rfl hp m 0 (m + 1) tr'' us'' (by omega) (by omega)⟩
theorem xw_rk {post : Int32 → SX → Prop} {m : Nat} {vn : Int32} {fr ft co we qs tr us : Nat → Int32} (hm : m ≤ 12) (hfr : ∀ e, e < m → vp_in (fr e) 7) (hft : ∀ e, e < m → vp_in (ft e) 7)
    (hp : ∀ tr, post (nI (cf_J (cf_at fr) (cf_at ft) (2 ^ m - 1) m)) (vn, nI m, fr, ft, co, we, qs, tr, us)) : wpX_rank post (vn, nI m, fr, ft, co, we, qs, tr, us) := by
  have h12 := cf_p12 hm
  have hpw := cf_pw0 m
  have h : wpX_treesJoined (fun r u => match u with | (a1, a2, a3, a4, a5, a6, a7, a8, a9) => post r (a1, a2, a3, a4, a5, a6, a7, a8, a9)) (vn, nI m, fr, ft, co, we, qs, tr, us) (nI (2 ^ m - 1)) := xw_tj (by omega) hm hfr hft hp
  rw [← cf_allI m (by omega)] at h
  exact h
