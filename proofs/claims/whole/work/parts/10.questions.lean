/-! ===== questions ===== -/
theorem cf_Gq {A B C : Nat → Nat} {qs qy : Nat → Int32} {m : Nat} (hq : ∀ c, c < 4 → qs c = qy c) : (fun s => cf_G A B C qs s m) = (fun s => cf_G A B C qy s m) := by
  funext s
  unfold cf_G cf_W
  rw [cf_q4_eq 4 hq]
theorem cf_PX_0 {G : Nat → Bool} {m : Nat} (hm : m ≤ 12) (hG : G 0 = true) (br : Int32) : cf_PX G m 0 br 0 12 0 = true := by
  have hle := cf_sz_le 0 m
  have h1 : (0 : Int32) ≤ nI (cf_sz 0 m) := nI_pos' (by omega)
  have h2 : nI (cf_sz 0 m) ≤ 12 := nI_le (b := 12) (by omega) (by decide)
  have h3 : nI 0 &&& br = 0 := by rw [nI_0]; exact Int32.zero_and
  unfold cf_PX
  rw [decide_eq_true h1, decide_eq_true h2, decide_eq_true h3, hG]
  decide
theorem cf_bXa {T : Nat → Int32} (G : Nat → Bool) {m : Nat} (hm : m ≤ 12) (nd br : Int32) : cf_best T (cf_PX G m nd br 0 12) (2 ^ m) = cf_best T (cf_PY G (-1) nd br) (2 ^ m) := cf_best_eq _ (fun _ _ => cf_PXY_a G hm nd br)
theorem cf_bXk {T : Nat → Int32} (G : Nat → Bool) {m : Nat} (hm : m ≤ 12) {q : Int32} (hq : ¬ q < 0) (nd br : Int32) : cf_best T (cf_PX G m nd br q q) (2 ^ m) = cf_best T (cf_PY G q nd br) (2 ^ m) := cf_best_eq _ (fun _ hs => cf_PXY_k G hm hq nd br hs)
theorem cf_b0 {T : Nat → Int32} {G : Nat → Bool} {m : Nat} (hm : m ≤ 12) (hG : G 0 = true) (br : Int32) : ∃ b, cf_best T (cf_PX G m 0 br 0 12) (2 ^ m) = some b ∧ b < 4096 := by
  have h12 := cf_p12 hm
  have hpw := cf_pw0 m
  obtain ⟨b, hb⟩ := cf_best_some (T := T) (P := cf_PX G m 0 br 0 12) (cf_PX_0 hm hG br) (2 ^ m - 1)
  rw [show 2 ^ m - 1 + 1 = 2 ^ m by omega] at hb
  have := cf_best_lt _ _ hb
  exact ⟨b, hb, by omega⟩
theorem xw_all {post : Int32 → Prop} {m : Nat} {vn : Int32} {fr ft co we qs tr us : Nat → Int32} (hm : m ≤ 12) (hp : post (nI (2 ^ m - 1))) : wpX_allEdges post (vn, nI m, fr, ft, co, we, qs, tr, us) := by
  rw [← cf_allI m (by omega)] at hp
  exact hp
theorem xw_won_m {post : Int32 → Prop} {vn mm : Int32} {fr ft co we qs tr us : Nat → Int32} (hp : post (-10000)) : wpX_weightOrNone post (vn, mm, fr, ft, co, we, qs, tr, us) (-1) := br_t rfl hp
theorem cf_enc_s (b : Nat) : cf_enc (some b) = nI b := rfl
theorem cf_enc_n : cf_enc none = -1 := rfl
theorem i_vc_isGood {k : Nat} {u : SX} {v : SY} (I : i_Rel k u v) (hk : k + 4 ≤ 2049) (v1 : Int32) : wpX_isGood (fun r u' => wpY_isGood (fun r' v' => r' = r ∧ i_Rel (k + 4) u' v') v v1) u v1 := by
  have I0 : i_Rel (k + 4) u v := I
  obtain ⟨n, m, fr, ft, co, we, qs, tr, us, qy, lb, uy, rfl, rfl, ⟨hn, hm, hfr, hft, hco, hwe, hqs⟩, hq⟩ := I
  have R : ∀ tr us lb uy : Nat → Int32, i_Rel (k + 4) (nI n, nI m, fr, ft, co, we, qs, tr, us) (nI n, nI m, fr, ft, co, we, qy, lb, uy) := fun tr us lb uy => ⟨n, m, fr, ft, co, we, qs, tr, us, qy, lb, uy, rfl, rfl, ⟨hn, hm, hfr, hft, hco, hwe, hqs⟩, hq⟩
  have h12 := cf_p12 hm
  have hpw := cf_pw0 m
  have hsh := cf_shl1 m (by omega)
  unfold wpX_isGood wpY_isGood
  dsimp only
  by_cases h0 : v1 < 0
  · exact br_t h0 (br_t h0 ⟨rfl, I0⟩)
  · obtain ⟨s, hs, rfl⟩ := nI_of h0
    have hGs : cf_G (cf_at fr) (cf_at ft) (cf_at co) qs s m = cf_G (cf_at fr) (cf_at ft) (cf_at co) qy s m := congrFun (cf_Gq hq) s
    refine br_f h0 ?_
    refine xw_all hm ?_
    by_cases hl : s < 2 ^ m
    · have hl' : nI s < (1 : Int32) <<< (nI m &&& 31) := by rw [hsh]; exact nI_lt hl (by omega)
      refine br_t (nI_le (by omega) (by omega)) ?_
      refine xw_good (by omega) hm hfr hft hco (fun tr' us' => ?_)
      refine cf_bb _ (fun hg => ?_) (fun hg => ?_)
      · refine br_f h0 ?_
        refine br_t hl' ?_
        refine yw_good (by omega) hm hfr hft hco (fun lb' uy' => ?_)
        rw [← hGs, hg]
        exact br_f (by decide) ⟨rfl, R tr' us' lb' uy'⟩
      · refine br_f h0 ?_
        refine br_t hl' ?_
        refine yw_good (by omega) hm hfr hft hco (fun lb' uy' => ?_)
        rw [← hGs, hg]
        exact br_t rfl ⟨rfl, R tr' us' lb' uy'⟩
    · refine br_f (nI_ge (by omega) (by omega)) ?_
      refine br_f h0 ?_
      exact br_f (by rw [hsh]; exact nI_nlt (by omega) (by omega)) ⟨rfl, I0⟩
theorem i_vc_best {k : Nat} {u : SX} {v : SY} (I : i_Rel k u v) (hk : k + 4 ≤ 2049) : wpX_best (fun r u' => wpY_best (fun r' v' => r' = r ∧ i_Rel (k + 4) u' v') v) u := by
  obtain ⟨n, m, fr, ft, co, we, qs, tr, us, qy, lb, uy, rfl, rfl, ⟨hn, hm, hfr, hft, hco, hwe, hqs⟩, hq⟩ := I
  have R : ∀ tr us lb uy : Nat → Int32, i_Rel (k + 4) (nI n, nI m, fr, ft, co, we, qs, tr, us) (nI n, nI m, fr, ft, co, we, qy, lb, uy) := fun tr us lb uy => ⟨n, m, fr, ft, co, we, qs, tr, us, qy, lb, uy, rfl, rfl, ⟨hn, hm, hfr, hft, hco, hwe, hqs⟩, hq⟩
  obtain ⟨b, hb, hbl⟩ := cf_b0 (T := fun s => cf_tot we s m) (G := fun s => cf_G (cf_at fr) (cf_at ft) (cf_at co) qs s m) hm (cf_G_0 _ _ _ _ _ hqs) 0
  unfold wpX_best wpY_best
  dsimp only
  refine xw_ba hm hfr hft hco hwe (fun tr' us' => ?_)
  rw [hb, cf_enc_s]
  refine xw_won hbl hm ?_
  refine yw_se hm hfr hft hco hwe (fun lb' uy' => ?_)
  rw [← cf_Gq hq, ← cf_bXa _ hm, hb, cf_enc_s]
  refine yw_wt hbl hm ?_
  exact ⟨rfl, R tr' us' lb' uy'⟩
theorem i_vc_bestSet {k : Nat} {u : SX} {v : SY} (I : i_Rel k u v) (hk : k + 4 ≤ 2049) : wpX_bestSet (fun r u' => wpY_bestSet (fun r' v' => r' = r ∧ i_Rel (k + 4) u' v') v) u := by
  obtain ⟨n, m, fr, ft, co, we, qs, tr, us, qy, lb, uy, rfl, rfl, ⟨hn, hm, hfr, hft, hco, hwe, hqs⟩, hq⟩ := I
  have R : ∀ tr us lb uy : Nat → Int32, i_Rel (k + 4) (nI n, nI m, fr, ft, co, we, qs, tr, us) (nI n, nI m, fr, ft, co, we, qy, lb, uy) := fun tr us lb uy => ⟨n, m, fr, ft, co, we, qs, tr, us, qy, lb, uy, rfl, rfl, ⟨hn, hm, hfr, hft, hco, hwe, hqs⟩, hq⟩
  unfold wpX_bestSet wpY_bestSet
  dsimp only
  refine xw_ba hm hfr hft hco hwe (fun tr' us' => ?_)
  refine yw_se hm hfr hft hco hwe (fun lb' uy' => ?_)
  rw [← cf_Gq hq, ← cf_bXa _ hm]
  exact ⟨rfl, R tr' us' lb' uy'⟩
theorem i_vc_bestOf {k : Nat} {u : SX} {v : SY} (I : i_Rel k u v) (hk : k + 4 ≤ 2049) (v1 : Int32) : wpX_bestOf (fun r u' => wpY_bestOf (fun r' v' => r' = r ∧ i_Rel (k + 4) u' v') v v1) u v1 := by
  obtain ⟨n, m, fr, ft, co, we, qs, tr, us, qy, lb, uy, rfl, rfl, ⟨hn, hm, hfr, hft, hco, hwe, hqs⟩, hq⟩ := I
  have R : ∀ tr us lb uy : Nat → Int32, i_Rel (k + 4) (nI n, nI m, fr, ft, co, we, qs, tr, us) (nI n, nI m, fr, ft, co, we, qy, lb, uy) := fun tr us lb uy => ⟨n, m, fr, ft, co, we, qs, tr, us, qy, lb, uy, rfl, rfl, ⟨hn, hm, hfr, hft, hco, hwe, hqs⟩, hq⟩
  have h12 := cf_p12 hm
  unfold wpX_bestOf wpY_bestOf
  dsimp only
  refine xw_ba hm hfr hft hco hwe (fun tr' us' => ?_)
  by_cases h0 : v1 < 0
  · rw [cf_best_none _ (fun s _ => cf_PX_n _ hm h0 0 0 s), cf_enc_n]
    refine xw_won_m ?_
    refine br_f (Int32.not_le.mpr h0) ?_
    exact br_f (by decide) ⟨rfl, R tr' us' lb uy⟩
  · have h0' : 0 ≤ v1 := Int32.not_lt.mp h0
    cases hb : cf_best (fun s => cf_tot we s m) (cf_PX (fun s => cf_G (cf_at fr) (cf_at ft) (cf_at co) qs s m) m 0 0 v1 v1) (2 ^ m) with
    | none =>
      rw [cf_enc_n]
      refine xw_won_m ?_
      refine br_t h0' ?_
      refine yw_se hm hfr hft hco hwe (fun lb' uy' => ?_)
      rw [← cf_Gq hq, ← cf_bXk _ hm h0, hb, cf_enc_n]
      exact br_f (by decide) ⟨rfl, R tr' us' lb' uy'⟩
    | some b =>
      have hbl := cf_best_lt _ _ hb
      rw [cf_enc_s]
      refine xw_won (by omega) hm ?_
      refine br_t h0' ?_
      refine yw_se hm hfr hft hco hwe (fun lb' uy' => ?_)
      rw [← cf_Gq hq, ← cf_bXk _ hm h0, hb, cf_enc_s]
      refine br_t (nI_pos' (by omega)) ?_
      refine yw_wt (by omega) hm ?_
      exact ⟨rfl, R tr' us' lb' uy'⟩
theorem i_vc_bestSetOf {k : Nat} {u : SX} {v : SY} (I : i_Rel k u v) (hk : k + 4 ≤ 2049) (v1 : Int32) : wpX_bestSetOf (fun r u' => wpY_bestSetOf (fun r' v' => r' = r ∧ i_Rel (k + 4) u' v') v v1) u v1 := by
  obtain ⟨n, m, fr, ft, co, we, qs, tr, us, qy, lb, uy, rfl, rfl, ⟨hn, hm, hfr, hft, hco, hwe, hqs⟩, hq⟩ := I
  have R : ∀ tr us lb uy : Nat → Int32, i_Rel (k + 4) (nI n, nI m, fr, ft, co, we, qs, tr, us) (nI n, nI m, fr, ft, co, we, qy, lb, uy) := fun tr us lb uy => ⟨n, m, fr, ft, co, we, qs, tr, us, qy, lb, uy, rfl, rfl, ⟨hn, hm, hfr, hft, hco, hwe, hqs⟩, hq⟩
  unfold wpX_bestSetOf wpY_bestSetOf
  dsimp only
  refine xw_ba hm hfr hft hco hwe (fun tr' us' => ?_)
  by_cases h0 : v1 < 0
  · rw [cf_best_none _ (fun s _ => cf_PX_n _ hm h0 0 0 s), cf_enc_n]
    exact br_f (Int32.not_le.mpr h0) ⟨rfl, R tr' us' lb uy⟩
  · refine br_t (Int32.not_lt.mp h0) ?_
    refine yw_se hm hfr hft hco hwe (fun lb' uy' => ?_)
    rw [← cf_Gq hq, ← cf_bXk _ hm h0]
    exact ⟨rfl, R tr' us' lb' uy'⟩
theorem i_vc_greatest {k : Nat} {u : SX} {v : SY} (I : i_Rel k u v) (hk : k + 4 ≤ 2049) : wpX_greatest (fun r u' => wpY_greatest (fun r' v' => r' = r ∧ i_Rel (k + 4) u' v') v) u := by
  obtain ⟨n, m, fr, ft, co, we, qs, tr, us, qy, lb, uy, rfl, rfl, ⟨hn, hm, hfr, hft, hco, hwe, hqs⟩, hq⟩ := I
  have R : ∀ tr us lb uy : Nat → Int32, i_Rel (k + 4) (nI n, nI m, fr, ft, co, we, qs, tr, us) (nI n, nI m, fr, ft, co, we, qy, lb, uy) := fun tr us lb uy => ⟨n, m, fr, ft, co, we, qs, tr, us, qy, lb, uy, rfl, rfl, ⟨hn, hm, hfr, hft, hco, hwe, hqs⟩, hq⟩
  unfold wpY_greatest
  dsimp only
  refine xw_gr hm hfr hft hco (fun tr' us' => ?_)
  refine yw_mo hm hfr hft hco (fun lb' uy' => ?_)
  rw [← cf_Gq hq]
  exact ⟨rfl, R tr' us' lb' uy'⟩
theorem i_vc_bestWith {k : Nat} {u : SX} {v : SY} (I : i_Rel k u v) (hk : k + 4 ≤ 2049) (v1 : Int32) : wpX_bestWith (fun r u' => wpY_bestWith (fun r' v' => r' = r ∧ i_Rel (k + 4) u' v') v v1) u v1 := by
  have I0 : i_Rel (k + 4) u v := I
  obtain ⟨n, m, fr, ft, co, we, qs, tr, us, qy, lb, uy, rfl, rfl, ⟨hn, hm, hfr, hft, hco, hwe, hqs⟩, hq⟩ := I
  have R : ∀ tr us lb uy : Nat → Int32, i_Rel (k + 4) (nI n, nI m, fr, ft, co, we, qs, tr, us) (nI n, nI m, fr, ft, co, we, qy, lb, uy) := fun tr us lb uy => ⟨n, m, fr, ft, co, we, qs, tr, us, qy, lb, uy, rfl, rfl, ⟨hn, hm, hfr, hft, hco, hwe, hqs⟩, hq⟩
  have h12 := cf_p12 hm
  unfold wpX_bestWith wpY_bestWith
  dsimp only
  rcases cf_ix v1 (n := m) (by omega) with hc | ⟨j, hj, rfl⟩
  · refine xw_edg_f hc ?_
    refine br_t rfl ?_
    refine yw_edg_f hc ?_
    exact br_f (by decide) ⟨rfl, I0⟩
  · refine xw_edg_t hm hj ?_
    refine br_f (by decide) ?_
    refine xw_ba hm hfr hft hco hwe (fun tr' us' => ?_)
    cases hb : cf_best (fun s => cf_tot we s m) (cf_PX (fun s => cf_G (cf_at fr) (cf_at ft) (cf_at co) qs s m) m ((1 : Int32) <<< (nI j &&& 31)) 0 0 12) (2 ^ m) with
    | none =>
      rw [cf_enc_n]
      refine xw_won_m ?_
      refine yw_edg_t hm hj ?_
      refine br_t rfl ?_
      refine yw_se hm hfr hft hco hwe (fun lb' uy' => ?_)
      rw [← cf_Gq hq, ← cf_bXa _ hm, hb, cf_enc_n]
      exact br_f (by decide) ⟨rfl, R tr' us' lb' uy'⟩
    | some b =>
      have hbl := cf_best_lt _ _ hb
      rw [cf_enc_s]
      refine xw_won (by omega) hm ?_
      refine yw_edg_t hm hj ?_
      refine br_t rfl ?_
      refine yw_se hm hfr hft hco hwe (fun lb' uy' => ?_)
      rw [← cf_Gq hq, ← cf_bXa _ hm, hb, cf_enc_s]
      refine br_t (nI_pos' (by omega)) ?_
      refine yw_wt (by omega) hm ?_
      exact ⟨rfl, R tr' us' lb' uy'⟩
theorem i_vc_bestWithout {k : Nat} {u : SX} {v : SY} (I : i_Rel k u v) (hk : k + 4 ≤ 2049) (v1 : Int32) : wpX_bestWithout (fun r u' => wpY_bestWithout (fun r' v' => r' = r ∧ i_Rel (k + 4) u' v') v v1) u v1 := by
  have I0 : i_Rel (k + 4) u v := I
  obtain ⟨n, m, fr, ft, co, we, qs, tr, us, qy, lb, uy, rfl, rfl, ⟨hn, hm, hfr, hft, hco, hwe, hqs⟩, hq⟩ := I
  have R : ∀ tr us lb uy : Nat → Int32, i_Rel (k + 4) (nI n, nI m, fr, ft, co, we, qs, tr, us) (nI n, nI m, fr, ft, co, we, qy, lb, uy) := fun tr us lb uy => ⟨n, m, fr, ft, co, we, qs, tr, us, qy, lb, uy, rfl, rfl, ⟨hn, hm, hfr, hft, hco, hwe, hqs⟩, hq⟩
  unfold wpX_bestWithout wpY_bestWithout
  dsimp only
  rcases cf_ix v1 (n := m) (by omega) with hc | ⟨j, hj, rfl⟩
  · refine xw_edg_f hc ?_
    refine br_t rfl ?_
    refine yw_edg_f hc ?_
    exact br_f (by decide) ⟨rfl, I0⟩
  · obtain ⟨b, hb, hbl⟩ := cf_b0 (T := fun s => cf_tot we s m) (G := fun s => cf_G (cf_at fr) (cf_at ft) (cf_at co) qs s m) hm (cf_G_0 _ _ _ _ _ hqs) ((1 : Int32) <<< (nI j &&& 31))
    refine xw_edg_t hm hj ?_
    refine br_f (by decide) ?_
    refine xw_ba hm hfr hft hco hwe (fun tr' us' => ?_)
    rw [hb, cf_enc_s]
    refine xw_won hbl hm ?_
    refine yw_edg_t hm hj ?_
    refine br_t rfl ?_
    refine yw_se hm hfr hft hco hwe (fun lb' uy' => ?_)
    rw [← cf_Gq hq, ← cf_bXa _ hm, hb, cf_enc_s]
    refine yw_wt hbl hm ?_
    exact ⟨rfl, R tr' us' lb' uy'⟩
theorem i_vc_spares {k : Nat} {u : SX} {v : SY} (I : i_Rel k u v) (hk : k + 4 ≤ 2049) : wpX_spares (fun r u' => wpY_spares (fun r' v' => r' = r ∧ i_Rel (k + 4) u' v') v) u := by
  obtain ⟨n, m, fr, ft, co, we, qs, tr, us, qy, lb, uy, rfl, rfl, ⟨hn, hm, hfr, hft, hco, hwe, hqs⟩, hq⟩ := I
  have R : ∀ tr us lb uy : Nat → Int32, i_Rel (k + 4) (nI n, nI m, fr, ft, co, we, qs, tr, us) (nI n, nI m, fr, ft, co, we, qy, lb, uy) := fun tr us lb uy => ⟨n, m, fr, ft, co, we, qs, tr, us, qy, lb, uy, rfl, rfl, ⟨hn, hm, hfr, hft, hco, hwe, hqs⟩, hq⟩
  have hml : cf_mx (fun s => cf_sz s m) (fun s => cf_G (cf_at fr) (cf_at ft) (cf_at co) qs s m) (2 ^ m) ≤ 12 := cf_mx_ub _ _ 12 _ (fun s _ _ => Nat.le_trans (cf_sz_le s m) hm)
  have h0 : ¬ nI (cf_mx (fun s => cf_sz s m) (fun s => cf_G (cf_at fr) (cf_at ft) (cf_at co) qs s m) (2 ^ m)) < 0 := nI_pos (by omega)
  refine xw_sp hm hfr hft hco hwe _ rfl _ rfl _ rfl (fun tr' us' => ?_)
  refine yw_sp hm hfr hft hco hwe (fun s => cf_G (cf_at fr) (cf_at ft) (cf_at co) qs s m) (cf_Gq hq) _ rfl _ rfl (fun lb' uy' => ?_)
  rw [cf_bXk _ hm h0]
  exact ⟨rfl, R tr' us' lb' uy'⟩
theorem i_vc_rank {k : Nat} {u : SX} {v : SY} (I : i_Rel k u v) (hk : k + 4 ≤ 2049) : wpX_rank (fun r u' => wpY_rank (fun r' v' => r' = r ∧ i_Rel (k + 4) u' v') v) u := by
  obtain ⟨n, m, fr, ft, co, we, qs, tr, us, qy, lb, uy, rfl, rfl, ⟨hn, hm, hfr, hft, hco, hwe, hqs⟩, hq⟩ := I
  have R : ∀ tr us lb uy : Nat → Int32, i_Rel (k + 4) (nI n, nI m, fr, ft, co, we, qs, tr, us) (nI n, nI m, fr, ft, co, we, qy, lb, uy) := fun tr us lb uy => ⟨n, m, fr, ft, co, we, qs, tr, us, qy, lb, uy, rfl, rfl, ⟨hn, hm, hfr, hft, hco, hwe, hqs⟩, hq⟩
  refine xw_rk hm hfr hft (fun tr' => ?_)
  refine yw_rk hm hfr hft (fun lb' => ?_)
  exact ⟨rfl, R tr' us lb' uy⟩
