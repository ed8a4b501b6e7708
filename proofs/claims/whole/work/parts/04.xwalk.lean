/-! ===== X: contains, sizeOf, weightOf ===== -/
theorem xw_con_t {post : Int32 → Prop} {u : SX} {s e : Nat} (hs : s < 4096) (he : e < 12) (hb : s.testBit e = true) (hp : post 1) : wpX_contains post u (nI s) (nI e) := by
  obtain ⟨a1, a2, a3, a4, a5, a6, a7, a8, a9⟩ := u
  exact br_t (cf_bit_t (by omega) (by omega) hb) hp
theorem xw_con_f {post : Int32 → Prop} {u : SX} {s e : Nat} (hs : s < 4096) (he : e < 12) (hb : ¬ s.testBit e = true) (hp : post 0) : wpX_contains post u (nI s) (nI e) := by
  obtain ⟨a1, a2, a3, a4, a5, a6, a7, a8, a9⟩ := u
  exact br_f (by rw [cf_bit_f (by omega) (by omega) hb]; decide) hp
theorem xw_con_m {post : Int32 → Prop} {u : SX} {e : Nat} (he : e < 12) (hp : post 1) : wpX_contains post u (-1) (nI e) := by
  obtain ⟨a1, a2, a3, a4, a5, a6, a7, a8, a9⟩ := u
  exact br_t (cf_m1b e (by omega)) hp
theorem xw_sz_l {post : Int32 → Prop} {s m : Nat} (hs : s < 4096) (hm : m ≤ 12) (vn : Int32) (fr ft co we qs tr us : Nat → Int32) (hp : post (nI (cf_sz s m))) : ∀ d e n, e + d = m → d < n → wX_sizeOf_4 post (nI s) vn (nI m) fr ft co we qs tr us n (nI (cf_sz s e)) (nI e) := by
  intro d
  induction d with
  | zero =>
    intro e n he hn
    obtain ⟨n, rfl⟩ : ∃ k, n = k + 1 := ⟨n - 1, by omega⟩
    have e1 : e = m := by omega
    rw [e1]
    exact br_t (nI_le (Nat.le_refl _) (by omega)) hp
  | succ d ih =>
    intro e n he hn
    obtain ⟨n, rfl⟩ : ∃ k, n = k + 1 := ⟨n - 1, by omega⟩
    have h := ih (e + 1) n (by omega) (by omega)
    refine br_f (nI_ge (by omega) (by omega)) ?_
    by_cases hb : s.testBit e = true
    · rw [cf_sz_t hb] at h
      refine xw_con_t hs (by omega) hb ?_
      refine br_f (by decide) ?_
      exact nm_r (nI_1 _) (nm_r (nI_1 _) h)
    · rw [cf_sz_f hb] at h
      refine xw_con_f hs (by omega) hb ?_
      refine br_t rfl ?_
      exact nm_r (nI_1 _) h
theorem xw_size {post : Int32 → Prop} {s m : Nat} (hs : s < 4096) (hm : m ≤ 12) {vn : Int32} {fr ft co we qs tr us : Nat → Int32} (hp : post (nI (cf_sz s m))) : wpX_sizeOf post (vn, nI m, fr, ft, co, we, qs, tr, us) (nI s) :=
  ⟨m + 1, xw_sz_l hs hm vn fr ft co we qs tr us hp m 0 (m + 1) (by omega) (by omega)⟩
theorem xw_wt_l {post : Int32 → Prop} {s m : Nat} (hs : s < 4096) (hm : m ≤ 12) (vn : Int32) (fr ft co we qs tr us : Nat → Int32) (hp : post (cf_tot we s m)) : ∀ d e n, e + d = m → d < n → wX_weightOf_4 post (nI s) vn (nI m) fr ft co we qs tr us n (cf_tot we s e) (nI e) := by
  intro d
  induction d with
  | zero =>
    intro e n he hn
    obtain ⟨n, rfl⟩ : ∃ k, n = k + 1 := ⟨n - 1, by omega⟩
    have e1 : e = m := by omega
    rw [e1]
    exact br_t (nI_le (Nat.le_refl _) (by omega)) hp
  | succ d ih =>
    intro e n he hn
    obtain ⟨n, rfl⟩ : ∃ k, n = k + 1 := ⟨n - 1, by omega⟩
    have h := ih (e + 1) n (by omega) (by omega)
    have hc : (nI e).toNatClampNeg = e := nI_clamp (by omega)
    refine br_f (nI_ge (by omega) (by omega)) ?_
    by_cases hb : s.testBit e = true
    · rw [cf_tot_t hb] at h
      refine xw_con_t hs (by omega) hb ?_
      refine br_f (by decide) ?_
      exact ⟨vp_in_nI (by omega) (by decide), nm_r (e' := cf_tot we s e + we e) (by rw [hc]) (nm_r (nI_1 _) h)⟩
    · rw [cf_tot_f hb] at h
      refine xw_con_f hs (by omega) hb ?_
      refine br_t rfl ?_
      exact nm_r (nI_1 _) h
theorem xw_wt {post : Int32 → Prop} {s m : Nat} (hs : s < 4096) (hm : m ≤ 12) {vn : Int32} {fr ft co we qs tr us : Nat → Int32} (hp : post (cf_tot we s m)) : wpX_weightOf post (vn, nI m, fr, ft, co, we, qs, tr, us) (nI s) :=
  ⟨m + 1, xw_wt_l hs hm vn fr ft co we qs tr us hp m 0 (m + 1) (by omega) (by omega)⟩
theorem xw_won {post : Int32 → Prop} {s m : Nat} (hs : s < 4096) (hm : m ≤ 12) {vn : Int32} {fr ft co we qs tr us : Nat → Int32} (hp : post (cf_tot we s m)) : wpX_weightOrNone post (vn, nI m, fr, ft, co, we, qs, tr, us) (nI s) := by
  refine br_f ?_ ?_
  · intro z
    have h1 := nI_pos (n := s) (by omega)
    rw [z] at h1
    exact h1 (by decide)
  · exact xw_wt hs hm hp
/-! ===== X: renameTree, treesJoined ===== -/
theorem xw_ren_l {post : SX → Prop} {vn mm : Int32} {fr ft co we qs us : Nat → Int32} {L : Nat → Nat} {g k : Nat} (hL : ∀ v, v < 7 → L v < 7) (hg : g < 7) (hp : ∀ tr, cf_pic 7 tr (cf_ren L g k) → post (vn, mm, fr, ft, co, we, qs, tr, us)) : ∀ d v n tr, v + d = 7 → d < n → cf_mid 7 v tr L (cf_ren L g k) → wX_renameTree_2 post (nI g) (nI k) vn mm n (nI v) fr ft co we qs tr us := by
  intro d
  induction d with
  | zero =>
    intro v n tr he hn h
    obtain ⟨n, rfl⟩ : ∃ k, n = k + 1 := ⟨n - 1, by omega⟩
    have e1 : v = 7 := by omega
    subst e1
    exact br_t (nI_le (a := 7) (b := 7) (Nat.le_refl _) (by decide)) (hp tr (cf_mid_N h))
  | succ d ih =>
    intro v n tr he hn h
    obtain ⟨n, rfl⟩ : ∃ k, n = k + 1 := ⟨n - 1, by omega⟩
    have hc : (nI v).toNatClampNeg = v := nI_clamp (by omega)
    have hv : tr (nI v).toNatClampNeg = nI (L v) := by rw [hc]; exact cf_mid_v h (by omega)
    have hi : vp_in (nI v) 7 := vp_in_nI (by omega) (by decide)
    have hl := hL v (by omega)
    refine br_f (nI_ge (b := 7) (by omega) (by decide)) ⟨hi, ?_⟩
    by_cases q : L v = g
    · refine br_t (by rw [hv, q]) ⟨hi, ?_⟩
      exact nm_r (e' := upd tr v (nI k)) (by rw [hc]) (nm_r (nI_1 v) (ih (v + 1) n _ (by omega) (by omega) (cf_mid_u h (by rw [cf_ren_t q]))))
    · refine br_f (by rw [hv, nI_eq (by omega) (by omega)]; exact q) ?_
      exact nm_r (nI_1 v) (ih (v + 1) n _ (by omega) (by omega) (cf_mid_k h (cf_ren_f q)))
theorem xw_ren {post : SX → Prop} {vn mm : Int32} {fr ft co we qs tr us : Nat → Int32} {L : Nat → Nat} {g k : Nat} (hL : ∀ v, v < 7 → L v < 7) (hg : g < 7) (h : cf_pic 7 tr L) (hp : ∀ tr, cf_pic 7 tr (cf_ren L g k) → post (vn, mm, fr, ft, co, we, qs, tr, us)) : wpX_renameTree post (vn, mm, fr, ft, co, we, qs, tr, us) (nI g) (nI k) :=
  ⟨8, xw_ren_l hL hg hp 7 0 8 tr (by omega) (by omega) (cf_mid_0 _ h)⟩
theorem xw_tj_l {post : Int32 → SX → Prop} {s m : Nat} {vn : Int32} {fr ft co we qs us : Nat → Int32} (hs : s < 4096) (hm : m ≤ 12) (hfr : ∀ e, e < m → vp_in (fr e) 7) (hft : ∀ e, e < m → vp_in (ft e) 7) (hp : ∀ tr, post (nI (cf_J (cf_at fr) (cf_at ft) s m)) (vn, nI m, fr, ft, co, we, qs, tr, us)) : ∀ d e n tr, e + d = m → d < n → cf_pic 7 tr (cf_L (cf_at fr) (cf_at ft) s e) → wX_treesJoined_25 post (nI s) n (nI (cf_J (cf_at fr) (cf_at ft) s e)) (nI e) vn (nI m) fr ft co we qs tr us := by
  intro d
  induction d with
  | zero =>
    intro e n tr he hn h
    obtain ⟨n, rfl⟩ : ∃ k, n = k + 1 := ⟨n - 1, by omega⟩
    have e1 : e = m := by omega
    rw [e1]
    exact br_t (nI_le (Nat.le_refl _) (by omega)) (hp tr)
  | succ d ih =>
    intro e n tr he hn h
    obtain ⟨n, rfl⟩ : ∃ k, n = k + 1 := ⟨n - 1, by omega⟩
    have hc : (nI e).toNatClampNeg = e := nI_clamp (by omega)
    have hi : vp_in (nI e) 12 := vp_in_nI (by omega) (by decide)
    have hA := cf_at_lt (Nat.le_refl 7) hfr
    have hB := cf_at_lt (Nat.le_refl 7) hft
    have hLa := cf_L_lt (cf_at fr) (cf_at ft) s m hA e (by omega)
    have ih' := fun tr' => ih (e + 1) n tr' (by omega) (by omega)
    refine br_f (nI_ge (by omega) (by omega)) ⟨hi, by rw [hc]; exact hfr e (by omega), ?_⟩
    refine nm_r (e' := nI (cf_L (cf_at fr) (cf_at ft) s e (cf_at fr e))) (by rw [hc]; exact h _ (hA e (by omega))) ?_
    refine ⟨hi, by rw [hc]; exact hft e (by omega), ?_⟩
    refine nm_r (e' := nI (cf_L (cf_at fr) (cf_at ft) s e (cf_at ft e))) (by rw [hc]; exact h _ (hB e (by omega))) ?_
    by_cases hb : s.testBit e = true
    · refine xw_con_t hs (by omega) hb ?_
      refine br_f (by decide) ?_
      by_cases q : cf_L (cf_at fr) (cf_at ft) s e (cf_at fr e) = cf_L (cf_at fr) (cf_at ft) s e (cf_at ft e)
      · rw [cf_J_q q, cf_L_q q] at ih'
        exact br_t (congrArg nI q) (nm_r (nI_1 _) (ih' tr h))
      · have h1 := hLa _ (hA e (by omega))
        have h2 := hLa _ (hB e (by omega))
        rw [cf_J_t hb q, cf_L_t hb] at ih'
        refine br_f (by rw [nI_eq (by omega) (by omega)]; exact q) ?_
        refine xw_ren hLa h2 h (fun tr' h' => ?_)
        exact nm_r (nI_1 _) (nm_r (nI_1 _) (ih' tr' h'))
    · rw [cf_J_f hb, cf_L_f hb] at ih'
      refine xw_con_f hs (by omega) hb ?_
      exact br_t rfl (nm_r (nI_1 _) (ih' tr h))
theorem xw_tj_0 {post : Int32 → SX → Prop} {s m : Nat} {vn : Int32} {fr ft co we qs us : Nat → Int32} (hs : s < 4096) (hm : m ≤ 12) (hfr : ∀ e, e < m → vp_in (fr e) 7) (hft : ∀ e, e < m → vp_in (ft e) 7) (hp : ∀ tr, post (nI (cf_J (cf_at fr) (cf_at ft) s m)) (vn, nI m, fr, ft, co, we, qs, tr, us)) : ∀ d v n tr, v + d = 7 → d < n → cf_low v tr nI → wX_treesJoined_2 post (nI s) vn (nI m) n (nI v) fr ft co we qs tr us := by
  intro d
  induction d with
  | zero =>
    intro v n tr he hn h
    obtain ⟨n, rfl⟩ : ∃ k, n = k + 1 := ⟨n - 1, by omega⟩
    have e1 : v = 7 := by omega
    subst e1
    exact br_t (nI_le (a := 7) (b := 7) (Nat.le_refl _) (by decide)) ⟨m + 1, xw_tj_l hs hm hfr hft hp m 0 (m + 1) tr (by omega) (by omega) h⟩
  | succ d ih =>
    intro v n tr he hn h
    obtain ⟨n, rfl⟩ : ∃ k, n = k + 1 := ⟨n - 1, by omega⟩
    have hc : (nI v).toNatClampNeg = v := nI_clamp (by omega)
    have hi : vp_in (nI v) 7 := vp_in_nI (by omega) (by decide)
    refine br_f (nI_ge (b := 7) (by omega) (by decide)) ⟨hi, ?_⟩
    exact nm_r (e' := upd tr v (nI v)) (by rw [hc]) (nm_r (nI_1 v) (ih (v + 1) n _ (by omega) (by omega) (cf_low_u h rfl)))
theorem xw_tj {post : Int32 → SX → Prop} {s m : Nat} {vn : Int32} {fr ft co we qs tr us : Nat → Int32} (hs : s < 4096) (hm : m ≤ 12) (hfr : ∀ e, e < m → vp_in (fr e) 7) (hft : ∀ e, e < m → vp_in (ft e) 7) (hp : ∀ tr, post (nI (cf_J (cf_at fr) (cf_at ft) s m)) (vn, nI m, fr, ft, co, we, qs, tr, us)) : wpX_treesJoined post (vn, nI m, fr, ft, co, we, qs, tr, us) (nI s) :=
  ⟨8, xw_tj_0 hs hm hfr hft hp 7 0 8 tr (by omega) (by omega) (cf_low_0 _ _)⟩
/-! ===== X: keepsQuotas, isGoodSet ===== -/
theorem xw_kq3 {post : Int32 → SX → Prop} {s m : Nat} {vn : Int32} {fr ft co we qs tr us : Nat → Int32} (hu : cf_usd us (cf_at co) s m) (hp : post (cf_b (cf_W (cf_at co) qs s m)) (vn, nI m, fr, ft, co, we, qs, tr, us)) : ∀ d c n, c + d = 4 → d < n → cf_q4 (cf_at co) qs s m c = true → wX_keepsQuotas_62 post vn (nI m) fr ft co we qs tr us n (nI c) := by
  intro d
  induction d with
  | zero =>
    intro c n he hn h
    obtain ⟨n, rfl⟩ : ∃ k, n = k + 1 := ⟨n - 1, by omega⟩
    have e1 : c = 4 := by omega
    subst e1
    have e2 : cf_W (cf_at co) qs s m = true := h
    rw [e2] at hp
    exact br_t (nI_le (a := 4) (b := 4) (Nat.le_refl _) (by decide)) hp
  | succ d ih =>
    intro c n he hn h
    obtain ⟨n, rfl⟩ : ∃ k, n = k + 1 := ⟨n - 1, by omega⟩
    have hc : (nI c).toNatClampNeg = c := nI_clamp (by omega)
    have hi : vp_in (nI c) 4 := vp_in_nI (by omega) (by decide)
    refine br_f (nI_ge (b := 4) (by omega) (by decide)) ⟨hi, hi, ?_⟩
    by_cases q : qs c < nI (cf_U (cf_at co) s c m)
    · have e2 : cf_W (cf_at co) qs s m = false := cf_q4_f _ _ _ _ c q 4 (by omega)
      rw [e2] at hp
      exact br_f (by rw [hc, hu c (by omega)]; exact Int32.not_le.mpr q) hp
    · exact br_t (by rw [hc, hu c (by omega)]; exact Int32.not_lt.mp q) (nm_r (nI_1 c) (ih (c + 1) n (by omega) (by omega) (cf_q4_t q h)))
theorem xw_kq2 {post : Int32 → SX → Prop} {s m : Nat} {vn : Int32} {fr ft co we qs tr : Nat → Int32} (hs : s < 4096) (hm : m ≤ 12) (hco : ∀ e, e < m → vp_in (co e) 4) (hp : ∀ us, post (cf_b (cf_W (cf_at co) qs s m)) (vn, nI m, fr, ft, co, we, qs, tr, us)) : ∀ d e n us, e + d = m → d < n → cf_usd us (cf_at co) s e → wX_keepsQuotas_22 post (nI s) vn (nI m) n (nI e) fr ft co we qs tr us := by
  intro d
  induction d with
  | zero =>
    intro e n us he hn h
    obtain ⟨n, rfl⟩ : ∃ k, n = k + 1 := ⟨n - 1, by omega⟩
    have e1 : e = m := by omega
    rw [e1] at h ⊢
    exact br_t (nI_le (Nat.le_refl _) (by omega)) ⟨5, xw_kq3 h (hp us) 4 0 5 (by omega) (by omega) rfl⟩
  | succ d ih =>
    intro e n us he hn h
    obtain ⟨n, rfl⟩ : ∃ k, n = k + 1 := ⟨n - 1, by omega⟩
    have hc : (nI e).toNatClampNeg = e := nI_clamp (by omega)
    have hi : vp_in (nI e) 12 := vp_in_nI (by omega) (by decide)
    have h4 := hco e (by omega)
    refine br_f (nI_ge (by omega) (by omega)) ?_
    by_cases hb : s.testBit e = true
    · refine xw_con_t hs (by omega) hb ?_
      refine br_f (by decide) ⟨hi, by rw [hc]; exact h4, by rw [hc]; exact h4, ?_⟩
      exact nm_r (e' := upd us (cf_at co e) (us (cf_at co e) + 1)) (by rw [hc]; rfl) (nm_r (nI_1 e) (ih (e + 1) n _ (by omega) (by omega) (cf_usd_t h hb (cf_vp h4 (by decide)).1 rfl)))
    · refine xw_con_f hs (by omega) hb ?_
      exact br_t rfl (nm_r (nI_1 e) (ih (e + 1) n _ (by omega) (by omega) (cf_usd_f h hb)))
theorem xw_kq1 {post : Int32 → SX → Prop} {s m : Nat} {vn : Int32} {fr ft co we qs tr : Nat → Int32} (hs : s < 4096) (hm : m ≤ 12) (hco : ∀ e, e < m → vp_in (co e) 4) (hp : ∀ us, post (cf_b (cf_W (cf_at co) qs s m)) (vn, nI m, fr, ft, co, we, qs, tr, us)) : ∀ d c n us, c + d = 4 → d < n → cf_low c us (fun _ => 0) → wX_keepsQuotas_2 post (nI s) vn (nI m) n (nI c) fr ft co we qs tr us := by
  intro d
  induction d with
  | zero =>
    intro c n us he hn h
    obtain ⟨n, rfl⟩ : ∃ k, n = k + 1 := ⟨n - 1, by omega⟩
    have e1 : c = 4 := by omega
    subst e1
    exact br_t (nI_le (a := 4) (b := 4) (Nat.le_refl _) (by decide)) ⟨m + 1, xw_kq2 hs hm hco hp m 0 (m + 1) us (by omega) (by omega) (cf_usd_0 _ _ h)⟩
  | succ d ih =>
    intro c n us he hn h
    obtain ⟨n, rfl⟩ : ∃ k, n = k + 1 := ⟨n - 1, by omega⟩
    have hc : (nI c).toNatClampNeg = c := nI_clamp (by omega)
    have hi : vp_in (nI c) 4 := vp_in_nI (by omega) (by decide)
    refine br_f (nI_ge (b := 4) (by omega) (by decide)) ⟨hi, ?_⟩
    exact nm_r (e' := upd us c 0) (by rw [hc]) (nm_r (nI_1 c) (ih (c + 1) n _ (by omega) (by omega) (cf_low_u h rfl)))
theorem xw_kq {post : Int32 → SX → Prop} {s m : Nat} {vn : Int32} {fr ft co we qs tr us : Nat → Int32} (hs : s < 4096) (hm : m ≤ 12) (hco : ∀ e, e < m → vp_in (co e) 4) (hp : ∀ us, post (cf_b (cf_W (cf_at co) qs s m)) (vn, nI m, fr, ft, co, we, qs, tr, us)) : wpX_keepsQuotas post (vn, nI m, fr, ft, co, we, qs, tr, us) (nI s) :=
  ⟨5, xw_kq1 hs hm hco hp 4 0 5 us (by omega) (by omega) (cf_low_0 _ _)⟩
theorem xw_good {post : Int32 → SX → Prop} {s m : Nat} {vn : Int32} {fr ft co we qs tr us : Nat → Int32} (hs : s < 4096) (hm : m ≤ 12) (hfr : ∀ e, e < m → vp_in (fr e) 7) (hft : ∀ e, e < m → vp_in (ft e) 7) (hco : ∀ e, e < m → vp_in (co e) 4) (hp : ∀ tr us, post (cf_b (cf_G (cf_at fr) (cf_at ft) (cf_at co) qs s m)) (vn, nI m, fr, ft, co, we, qs, tr, us)) : wpX_isGoodSet post (vn, nI m, fr, ft, co, we, qs, tr, us) (nI s) := by
  refine xw_tj hs hm hfr hft (fun tr' => ?_)
  refine xw_size hs hm ?_
  have hz := cf_sz_le s m
  have hj := cf_J_le (cf_at fr) (cf_at ft) s m
  by_cases q : cf_J (cf_at fr) (cf_at ft) s m = cf_sz s m
  · have hF : cf_F (cf_at fr) (cf_at ft) s m = true := decide_eq_true q
    refine br_t (congrArg nI q) ?_
    refine xw_kq hs hm hco (fun us' => ?_)
    have h := hp tr' us'
    unfold cf_G at h
    rw [hF, Bool.true_and] at h
    refine cf_bb _ (fun hw => ?_) (fun hw => ?_)
    · rw [hw] at h; exact h
    · rw [hw] at h; exact h
  · have hF : cf_F (cf_at fr) (cf_at ft) s m = false := decide_eq_false q
    have h := hp tr' us
    unfold cf_G at h
    rw [hF, Bool.false_and] at h
    exact br_f (by rw [nI_eq (by omega) (by omega)]; exact q) h
