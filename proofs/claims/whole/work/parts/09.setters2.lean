/-! ===== cut ===== -/
def cf_sh (a : Nat → Int32) (j e : Nat) : Nat → Int32 := fun i => if j ≤ i ∧ i < e then a (i + 1) else a i
theorem cf_sh_0 (a : Nat → Int32) (j : Nat) : cf_sh a j j = a := by
  funext i
  unfold cf_sh
  rw [if_neg (by omega)]
theorem cf_sh_s (a : Nat → Int32) {j e : Nat} (h : j ≤ e) : upd (cf_sh a j e) e (cf_sh a j e (e + 1)) = cf_sh a j (e + 1) := by
  funext i
  by_cases q : i = e
  · subst q
    rw [pk_us]
    unfold cf_sh
    rw [if_neg (by omega), if_pos ⟨h, by omega⟩]
  · rw [pk_un q]
    unfold cf_sh
    by_cases z : j ≤ i ∧ i < e
    · rw [if_pos z, if_pos ⟨z.1, by omega⟩]
    · rw [if_neg z, if_neg (by omega)]
theorem cf_sh_all {P : Int32 → Prop} {a : Nat → Int32} {j p : Nat} (h : ∀ e, e < p + 1 → P (a e)) : ∀ e, e < p → P (cf_sh a j p e) := by
  intro e he
  unfold cf_sh
  split
  · exact h (e + 1) (by omega)
  · exact h e (by omega)
theorem xw_cut_l {post : Int32 → SX → Prop} {vn : Int32} {fr ft co we qs tr us : Nat → Int32} {j p : Nat} (hp12 : p + 1 ≤ 12) (hp : post (nI p) (vn, nI p, cf_sh fr j p, cf_sh ft j p, cf_sh co j p, cf_sh we j p, qs, tr, us)) : ∀ d e n, e + d = p → j ≤ e → d < n → wX_cut_12 post vn (nI (p + 1)) n (nI e) (cf_sh fr j e) (cf_sh ft j e) (cf_sh co j e) (cf_sh we j e) qs tr us := by
  have hpr : nI (p + 1) - 1 = nI p := nI_pred p
  intro d
  induction d with
  | zero =>
    intro e n he hj hn
    obtain ⟨n, rfl⟩ : ∃ k, n = k + 1 := ⟨n - 1, by omega⟩
    have e1 : e = p := by omega
    subst e1
    exact br_t (by rw [hpr]; exact nI_le (Nat.le_refl _) (by omega)) (nm_r hpr hp)
  | succ d ih =>
    intro e n he hj hn
    obtain ⟨n, rfl⟩ : ∃ k, n = k + 1 := ⟨n - 1, by omega⟩
    have h := ih (e + 1) n (by omega) (by omega) (by omega)
    have hc : (nI e).toNatClampNeg = e := nI_clamp (by omega)
    have hc1 : (nI e + 1).toNatClampNeg = e + 1 := by rw [nI_1]; exact nI_clamp (by omega)
    have hi : vp_in (nI e) 12 := vp_in_nI (by omega) (by decide)
    have hi1 : vp_in (nI e + 1) 12 := by rw [nI_1]; exact vp_in_nI (by omega) (by decide)
    refine br_f (by rw [hpr]; exact nI_ge (by omega) (by omega)) ⟨hi1, hi, ?_⟩
    refine nm_r (e' := cf_sh fr j (e + 1)) (by rw [hc, hc1]; exact cf_sh_s fr hj) ⟨hi1, hi, ?_⟩
    refine nm_r (e' := cf_sh ft j (e + 1)) (by rw [hc, hc1]; exact cf_sh_s ft hj) ⟨hi1, hi, ?_⟩
    refine nm_r (e' := cf_sh co j (e + 1)) (by rw [hc, hc1]; exact cf_sh_s co hj) ⟨hi1, hi, ?_⟩
    refine nm_r (e' := cf_sh we j (e + 1)) (by rw [hc, hc1]; exact cf_sh_s we hj) ?_
    exact nm_r (nI_1 e) h
theorem yw_cut_l {post : Int32 → SY → Prop} {vn : Int32} {fr ft co we qs lb us : Nat → Int32} {j p : Nat} (hp12 : p + 1 ≤ 12) (hp : post (nI p) (vn, nI p, cf_sh fr j p, cf_sh ft j p, cf_sh co j p, cf_sh we j p, qs, lb, us)) : ∀ d e n, e + d = p → j ≤ e → d < n → wY_cut_12 post vn (nI (p + 1)) n (nI e) (cf_sh fr j e) (cf_sh ft j e) (cf_sh co j e) (cf_sh we j e) qs lb us := by
  have hpr : nI (p + 1) - 1 = nI p := nI_pred p
  intro d
  induction d with
  | zero =>
    intro e n he hj hn
    obtain ⟨n, rfl⟩ : ∃ k, n = k + 1 := ⟨n - 1, by omega⟩
    have e1 : e = p := by omega
    subst e1
    refine br_t (by rw [hpr]; exact nI_le (Nat.le_refl _) (by omega)) ?_
    exact nm_r hpr hp
  | succ d ih =>
    intro e n he hj hn
    obtain ⟨n, rfl⟩ : ∃ k, n = k + 1 := ⟨n - 1, by omega⟩
    have h := ih (e + 1) n (by omega) (by omega) (by omega)
    have hc : (nI e).toNatClampNeg = e := nI_clamp (by omega)
    have hc1 : (nI e + 1).toNatClampNeg = e + 1 := by rw [nI_1]; exact nI_clamp (by omega)
    have hi : vp_in (nI e) 12 := vp_in_nI (by omega) (by decide)
    have hi1 : vp_in (nI e + 1) 12 := by rw [nI_1]; exact vp_in_nI (by omega) (by decide)
    refine br_f (by rw [hpr]; exact nI_ge (by omega) (by omega)) ?_
    refine br_f (nI_ge (b := 11) (by omega) (by decide)) ⟨hi1, hi, ?_⟩
    refine nm_r (e' := cf_sh fr j (e + 1)) (by rw [hc, hc1]; exact cf_sh_s fr hj) ⟨hi1, hi, ?_⟩
    refine nm_r (e' := cf_sh ft j (e + 1)) (by rw [hc, hc1]; exact cf_sh_s ft hj) ⟨hi1, hi, ?_⟩
    refine nm_r (e' := cf_sh co j (e + 1)) (by rw [hc, hc1]; exact cf_sh_s co hj) ⟨hi1, hi, ?_⟩
    refine nm_r (e' := cf_sh we j (e + 1)) (by rw [hc, hc1]; exact cf_sh_s we hj) ?_
    exact nm_r (nI_1 e) h
theorem i_vc_cut {k : Nat} {u : SX} {v : SY} (I : i_Rel k u v) (hk : k + 4 ≤ 2049) (v1 : Int32) : wpX_cut (fun r u' => wpY_cut (fun r' v' => r' = r ∧ i_Rel (k + 4) u' v') v v1) u v1 := by
  have I0 : i_Rel (k + 4) u v := I
  obtain ⟨n, m, fr, ft, co, we, qs, tr, us, qy, lb, uy, rfl, rfl, ⟨⟨hn2, hn7⟩, hm, hfr, hft, hco, hwe, hqs⟩, hq⟩ := I
  unfold wpX_cut wpY_cut
  dsimp only
  rcases cf_ix v1 (n := m) (by omega) with hc | ⟨j, hj, rfl⟩
  · refine xw_edg_f hc ?_
    refine br_t rfl ?_
    refine yw_edg_f hc ?_
    exact br_f (by decide) ⟨rfl, I0⟩
  · obtain ⟨p, rfl⟩ : ∃ p, m = p + 1 := ⟨m - 1, by omega⟩
    have R : i_Rel (k + 4) (nI n, nI p, cf_sh fr j p, cf_sh ft j p, cf_sh co j p, cf_sh we j p, qs, tr, us) (nI n, nI p, cf_sh fr j p, cf_sh ft j p, cf_sh co j p, cf_sh we j p, qy, lb, uy) :=
      ⟨n, p, _, _, _, _, qs, tr, us, qy, lb, uy, rfl, rfl, ⟨⟨hn2, hn7⟩, by omega, cf_sh_all (P := fun x => vp_in x 7) hfr, cf_sh_all (P := fun x => vp_in x 7) hft, cf_sh_all (P := fun x => vp_in x 4) hco, cf_sh_all (P := fun x => -20 ≤ x.toInt ∧ x.toInt ≤ 50) hwe, hqs⟩, hq⟩
    refine xw_edg_t hm hj ?_
    refine br_f (by decide) ?_
    have hX := xw_cut_l (post := fun r u' => wpY_cut (fun r' v' => r' = r ∧ i_Rel (k + 4) u' v') (nI n, nI (p + 1), fr, ft, co, we, qy, lb, uy) (nI j)) (vn := nI n) (fr := fr) (ft := ft) (co := co) (we := we) (qs := qs) (tr := tr) (us := us) (j := j) (p := p) hm ?_ (p - j) j (p - j + 1) (by omega) (Nat.le_refl j) (by omega)
    · rw [cf_sh_0, cf_sh_0, cf_sh_0, cf_sh_0] at hX
      exact ⟨_, hX⟩
    · unfold wpY_cut
      dsimp only
      refine yw_edg_t hm hj ?_
      refine br_t rfl ?_
      have hY := yw_cut_l (post := fun r' v' => r' = nI p ∧ i_Rel (k + 4) (nI n, nI p, cf_sh fr j p, cf_sh ft j p, cf_sh co j p, cf_sh we j p, qs, tr, us) v') (vn := nI n) (fr := fr) (ft := ft) (co := co) (we := we) (qs := qy) (lb := lb) (us := uy) (j := j) (p := p) hm ⟨rfl, R⟩ (p - j) j (p - j + 1) (by omega) (Nat.le_refl j) (by omega)
      rw [cf_sh_0, cf_sh_0, cf_sh_0, cf_sh_0] at hY
      exact ⟨_, hY⟩
/-! ===== weigh, paint, quota, edges ===== -/
theorem i_vc_weigh {k : Nat} {u : SX} {v : SY} (I : i_Rel k u v) (hk : k + 4 ≤ 2049) (v1 : Int32) (v2 : Int32) : wpX_weigh (fun r u' => wpY_weigh (fun r' v' => r' = r ∧ i_Rel (k + 4) u' v') v v1 v2) u v1 v2 := by
  have I0 : i_Rel (k + 4) u v := I
  obtain ⟨n, m, fr, ft, co, we, qs, tr, us, qy, lb, uy, rfl, rfl, ⟨⟨hn2, hn7⟩, hm, hfr, hft, hco, hwe, hqs⟩, hq⟩ := I
  unfold wpX_weigh wpY_weigh
  dsimp only
  rcases cf_ix v1 (n := m) (by omega) with hc | ⟨j, hj, rfl⟩
  · refine xw_edg_f hc ?_
    refine br_t rfl ?_
    refine yw_edg_f hc ?_
    exact br_f (by decide) ⟨rfl, I0⟩
  · refine xw_edg_t hm hj ?_
    refine br_f (by decide) ?_
    by_cases hw : ¬ v2 < -20 ∧ ¬ 50 < v2
    · have hcl : (nI j).toNatClampNeg = j := nI_clamp (by omega)
      have hi : vp_in (nI j) 12 := vp_in_nI (by omega) (by decide)
      have R : i_Rel (k + 4) (nI n, nI m, fr, ft, co, upd we j v2, qs, tr, us) (nI n, nI m, fr, ft, co, upd we j v2, qy, lb, uy) :=
        ⟨n, m, _, _, _, _, qs, tr, us, qy, lb, uy, rfl, rfl, ⟨⟨hn2, hn7⟩, hm, hfr, hft, hco, cf_up_s (P := fun x => -20 ≤ x.toInt ∧ x.toInt ≤ 50) hwe (cf_wb hw.1 hw.2), hqs⟩, hq⟩
      refine xw_wei_t hw.1 hw.2 ?_
      refine br_f (by decide) ⟨hi, ?_⟩
      refine nm_r (e' := we j) (by rw [hcl]) ⟨hi, ?_⟩
      refine nm_r (e' := upd we j v2) (by rw [hcl]) ?_
      refine yw_edg_t hm hj ?_
      refine br_t rfl ?_
      refine yw_wei_t hw.1 hw.2 ?_
      refine br_t rfl ⟨hi, ?_⟩
      refine nm_r (e' := we j) (by rw [hcl]) ⟨hi, ?_⟩
      exact nm_r (e' := upd we j v2) (by rw [hcl]) ⟨rfl, R⟩
    · refine xw_wei_f hw ?_
      refine br_t rfl ?_
      refine yw_edg_t hm hj ?_
      refine br_t rfl ?_
      refine yw_wei_f hw ?_
      exact br_f (by decide) ⟨rfl, I0⟩
theorem i_vc_paint {k : Nat} {u : SX} {v : SY} (I : i_Rel k u v) (hk : k + 4 ≤ 2049) (v1 : Int32) (v2 : Int32) : wpX_paint (fun r u' => wpY_paint (fun r' v' => r' = r ∧ i_Rel (k + 4) u' v') v v1 v2) u v1 v2 := by
  have I0 : i_Rel (k + 4) u v := I
  obtain ⟨n, m, fr, ft, co, we, qs, tr, us, qy, lb, uy, rfl, rfl, ⟨⟨hn2, hn7⟩, hm, hfr, hft, hco, hwe, hqs⟩, hq⟩ := I
  unfold wpX_paint wpY_paint
  dsimp only
  rcases cf_ix v1 (n := m) (by omega) with hc | ⟨j, hj, rfl⟩
  · refine xw_edg_f hc ?_
    refine br_t rfl ?_
    refine yw_edg_f hc ?_
    exact br_f (by decide) ⟨rfl, I0⟩
  · refine xw_edg_t hm hj ?_
    refine br_f (by decide) ?_
    rcases cf_ix v2 (n := 4) (by decide) with hc | ⟨c, hc, rfl⟩
    · refine xw_col_f hc ?_
      refine br_t rfl ?_
      refine yw_edg_t hm hj ?_
      refine br_t rfl ?_
      refine yw_col_f hc ?_
      exact br_f (by decide) ⟨rfl, I0⟩
    · have hcl : (nI j).toNatClampNeg = j := nI_clamp (by omega)
      have hi : vp_in (nI j) 12 := vp_in_nI (by omega) (by decide)
      have R : i_Rel (k + 4) (nI n, nI m, fr, ft, upd co j (nI c), we, qs, tr, us) (nI n, nI m, fr, ft, upd co j (nI c), we, qy, lb, uy) :=
        ⟨n, m, _, _, _, _, qs, tr, us, qy, lb, uy, rfl, rfl, ⟨⟨hn2, hn7⟩, hm, hfr, hft, cf_up_s (P := fun x => vp_in x 4) hco (vp_in_nI hc (by decide)), hwe, hqs⟩, hq⟩
      refine xw_col_t hc ?_
      refine br_f (by decide) ⟨hi, ?_⟩
      refine nm_r (e' := co j) (by rw [hcl]) ⟨hi, ?_⟩
      refine nm_r (e' := upd co j (nI c)) (by rw [hcl]) ?_
      refine yw_edg_t hm hj ?_
      refine br_t rfl ?_
      refine yw_col_t hc ?_
      refine br_t rfl ⟨hi, ?_⟩
      refine nm_r (e' := co j) (by rw [hcl]) ⟨hi, ?_⟩
      exact nm_r (e' := upd co j (nI c)) (by rw [hcl]) ⟨rfl, R⟩
theorem i_vc_quota {k : Nat} {u : SX} {v : SY} (I : i_Rel k u v) (hk : k + 4 ≤ 2049) (v1 : Int32) (v2 : Int32) : wpX_quota (fun r u' => wpY_quota (fun r' v' => r' = r ∧ i_Rel (k + 4) u' v') v v1 v2) u v1 v2 := by
  have I0 : i_Rel (k + 4) u v := I
  obtain ⟨n, m, fr, ft, co, we, qs, tr, us, qy, lb, uy, rfl, rfl, ⟨⟨hn2, hn7⟩, hm, hfr, hft, hco, hwe, hqs⟩, hq⟩ := I
  unfold wpX_quota wpY_quota
  dsimp only
  rcases cf_ix v1 (n := 4) (by decide) with hc | ⟨c, hc, rfl⟩
  · refine xw_col_f hc ?_
    refine br_t rfl ?_
    refine yw_col_f hc ?_
    exact br_f (by decide) ⟨rfl, I0⟩
  · refine xw_col_t hc ?_
    refine br_f (by decide) ?_
    by_cases h0 : v2 < 0
    · refine br_t h0 ?_
      refine yw_col_t hc ?_
      refine br_t rfl ?_
      exact br_t h0 ⟨rfl, I0⟩
    · refine br_f h0 ?_
      by_cases h6 : v2 ≤ 6
      · have hcl : (nI c).toNatClampNeg = c := nI_clamp (by omega)
        have hi : vp_in (nI c) 4 := vp_in_nI (by omega) (by decide)
        have hi8 : vp_in (nI c) 8 := vp_in_nI (by omega) (by decide)
        have R : i_Rel (k + 4) (nI n, nI m, fr, ft, co, we, upd qs c v2, tr, us) (nI n, nI m, fr, ft, co, we, upd qy c v2, lb, uy) := by
          refine ⟨n, m, _, _, _, _, _, tr, us, _, lb, uy, rfl, rfl, ⟨⟨hn2, hn7⟩, hm, hfr, hft, hco, hwe, cf_up_s (P := fun x => ¬ x < 0) hqs h0⟩, fun d hd => ?_⟩
          by_cases q : d = c
          · subst q; rw [pk_us, pk_us]
          · rw [pk_un q, pk_un q]; exact hq d hd
        refine br_t h6 ⟨hi, ?_⟩
        refine nm_r (e' := qs c) (by rw [hcl]) ⟨hi, ?_⟩
        refine nm_r (e' := upd qs c v2) (by rw [hcl]) ?_
        refine yw_col_t hc ?_
        refine br_t rfl ?_
        refine br_f h0 ?_
        refine br_t h6 ⟨hi8, ?_⟩
        refine nm_r (e' := qy c) (by rw [hcl]) ⟨hi8, ?_⟩
        exact nm_r (e' := upd qy c v2) (by rw [hcl]) ⟨(hq c hc).symm, R⟩
      · refine br_f h6 ?_
        refine yw_col_t hc ?_
        refine br_t rfl ?_
        refine br_f h0 ?_
        exact br_f h6 ⟨rfl, I0⟩
theorem i_vc_edges {k : Nat} {u : SX} {v : SY} (I : i_Rel k u v) (hk : k + 4 ≤ 2049) : wpX_edges (fun r => wpY_edges (fun r' => r' = r ∧ i_Rel (k + 4) u v) v) u := by
  have I0 : i_Rel (k + 4) u v := I
  obtain ⟨n, m, fr, ft, co, we, qs, tr, us, qy, lb, uy, rfl, rfl, hO, hq⟩ := I
  exact ⟨rfl, I0⟩
