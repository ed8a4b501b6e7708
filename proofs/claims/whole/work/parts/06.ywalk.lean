/-! ===== Y: in, size, total ===== -/
theorem yw_in_t {post : Int32 → Prop} {u : SY} {s e : Nat} (hs : s < 4096) (he : e < 12) (hb : s.testBit e = true) (hp : post 1) : wpY_in post u (nI s) (nI e) := by
  obtain ⟨a1, a2, a3, a4, a5, a6, a7, a8, a9⟩ := u
  exact br_t (cf_bit_t (by omega) (by omega) hb) hp
theorem yw_in_f {post : Int32 → Prop} {u : SY} {s e : Nat} (hs : s < 4096) (he : e < 12) (hb : ¬ s.testBit e = true) (hp : post 0) : wpY_in post u (nI s) (nI e) := by
  obtain ⟨a1, a2, a3, a4, a5, a6, a7, a8, a9⟩ := u
  exact br_f (by rw [cf_bit_f (by omega) (by omega) hb]; decide) hp
theorem yw_in_m {post : Int32 → Prop} {u : SY} {e : Nat} (he : e < 12) (hp : post 1) : wpY_in post u (-1) (nI e) := by
  obtain ⟨a1, a2, a3, a4, a5, a6, a7, a8, a9⟩ := u
  exact br_t (cf_m1b e (by omega)) hp
theorem yw_sz_l {post : Int32 → Prop} {s : Nat} (hs : s < 4096) (vn mm : Int32) (fr ft co we qs lb us : Nat → Int32) (hp : post (nI (cf_sz s 12))) : ∀ d e n, e + d = 12 → d < n → wY_size_4 post (nI s) vn mm fr ft co we qs lb us n (nI (cf_sz s e)) (nI e) := by
  intro d
  induction d with
  | zero =>
    intro e n he hn
    obtain ⟨n, rfl⟩ : ∃ k, n = k + 1 := ⟨n - 1, by omega⟩
    have e1 : e = 12 := by omega
    subst e1
    exact br_t (nI_le (a := 12) (b := 12) (Nat.le_refl _) (by decide)) hp
  | succ d ih =>
    intro e n he hn
    obtain ⟨n, rfl⟩ : ∃ k, n = k + 1 := ⟨n - 1, by omega⟩
    have h := ih (e + 1) n (by omega) (by omega)
    refine br_f (nI_ge (b := 12) (by omega) (by decide)) ?_
    refine nm_r (e' := nI (cf_sz s (e + 1))) ?_ (nm_r (nI_1 _) h)
    by_cases hb : s.testBit e = true
    · rw [cf_bit_t (by omega) (by omega) hb, cf_sz_t hb, nI_1]
    · rw [cf_bit_f (by omega) (by omega) hb, cf_sz_f hb, Int32.add_zero]
theorem yw_size {post : Int32 → Prop} {s : Nat} (hs : s < 4096) {vn mm : Int32} {fr ft co we qs lb us : Nat → Int32} (hp : post (nI (cf_sz s 12))) : wpY_size post (vn, mm, fr, ft, co, we, qs, lb, us) (nI s) :=
  ⟨13, yw_sz_l hs vn mm fr ft co we qs lb us hp 12 0 13 (by omega) (by omega)⟩
theorem yw_wt_l {post : Int32 → Prop} {s m : Nat} (hs : s < 4096) (hm : m ≤ 12) (vn : Int32) (fr ft co we qs lb us : Nat → Int32) (hp : post (cf_tot we s m)) : ∀ d e n, e + d = m → d < n → wY_total_4 post (nI s) vn (nI m) fr ft co we qs lb us n (cf_tot we s e) (nI e) := by
  intro d
  induction d with
  | zero =>
    intro e n he hn
    obtain ⟨n, rfl⟩ : ∃ k, n = k + 1 := ⟨n - 1, by omega⟩
    have e1 : e = m := by omega
    rw [e1]
    exact br_t (nI_le (Nat.le_refl _) (by omega)) hp
  | succ d ih =>
    intro e n he hn
    obtain ⟨n, rfl⟩ : ∃ k, n = k + 1 := ⟨n - 1, by omega⟩
    have h := ih (e + 1) n (by omega) (by omega)
    have hc : (nI e).toNatClampNeg = e := nI_clamp (by omega)
    refine br_f (nI_ge (by omega) (by omega)) ?_
    refine br_f (nI_ge (b := 12) (by omega) (by decide)) ?_
    by_cases hb : s.testBit e = true
    · rw [cf_tot_t hb] at h
      refine yw_in_t hs (by omega) hb ?_
      refine br_f (by decide) ?_
      exact ⟨vp_in_nI (by omega) (by decide), nm_r (e' := cf_tot we s e + we e) (by rw [hc]) (nm_r (nI_1 _) h)⟩
    · rw [cf_tot_f hb] at h
      refine yw_in_f hs (by omega) hb ?_
      refine br_t rfl ?_
      exact nm_r (nI_1 _) h
theorem yw_wt {post : Int32 → Prop} {s m : Nat} (hs : s < 4096) (hm : m ≤ 12) {vn : Int32} {fr ft co we qs lb us : Nat → Int32} (hp : post (cf_tot we s m)) : wpY_total post (vn, nI m, fr, ft, co, we, qs, lb, us) (nI s) :=
  ⟨m + 1, yw_wt_l hs hm vn fr ft co we qs lb us hp m 0 (m + 1) (by omega) (by omega)⟩
/-! ===== Y: forest ===== -/
theorem yw_ren_l {post : Int32 → SY → Prop} {J : Int32 → (Nat → Int32) → (Nat → Int32) → (Nat → Int32) → (Nat → Int32) → (Nat → Int32) → (Nat → Int32) → (Nat → Int32) → Prop} {x1 vn mm : Int32} {e : Nat} {fr ft co we qs us : Nat → Int32} {L : Nat → Nat} {g k : Nat} (hL : ∀ v, v < 8 → L v < 8) (hg : g < 8) (hp : ∀ lb, cf_pic 8 lb (cf_ren L g k) → J (nI (e + 1)) fr ft co we qs lb us) : ∀ d v n lb, v + d = 8 → d < n → cf_mid 8 v lb L (cf_ren L g k) → wY_forest_82 post J x1 (nI e) (nI k) (nI g) vn mm n (nI v) fr ft co we qs lb us := by
  intro d
  induction d with
  | zero =>
    intro v n lb he hn h
    obtain ⟨n, rfl⟩ : ∃ k, n = k + 1 := ⟨n - 1, by omega⟩
    have e1 : v = 8 := by omega
    subst e1
    exact br_t (nI_le (a := 8) (b := 8) (Nat.le_refl _) (by decide)) (nm_r (nI_1 e) (hp lb (cf_mid_N h)))
  | succ d ih =>
    intro v n lb he hn h
    obtain ⟨n, rfl⟩ : ∃ k, n = k + 1 := ⟨n - 1, by omega⟩
    have hc : (nI v).toNatClampNeg = v := nI_clamp (by omega)
    have hv : lb (nI v).toNatClampNeg = nI (L v) := by rw [hc]; exact cf_mid_v h (by omega)
    have hi : vp_in (nI v) 8 := vp_in_nI (by omega) (by decide)
    have hl := hL v (by omega)
    refine br_f (nI_ge (b := 8) (by omega) (by decide)) ⟨hi, ?_⟩
    by_cases q : L v = g
    · refine br_t (by rw [hv, q]) ⟨hi, ?_⟩
      exact nm_r (e' := upd lb v (nI k)) (by rw [hc]) (nm_r (nI_1 v) (ih (v + 1) n _ (by omega) (by omega) (cf_mid_u h (by rw [cf_ren_t q]))))
    · refine br_f (by rw [hv, nI_eq (by omega) (by omega)]; exact q) ?_
      exact nm_r (nI_1 v) (ih (v + 1) n _ (by omega) (by omega) (cf_mid_k h (cf_ren_f q)))
theorem cf_Fp_s {A B : Nat → Nat} {s e : Nat} (h : cf_Fp A B s e) (hn : s.testBit e = true → ¬ cf_L A B s e (A e) = cf_L A B s e (B e)) : cf_Fp A B s (e + 1) := by
  intro f hf hb
  by_cases q : f = e
  · subst q; exact hn hb
  · exact h f (by omega) hb
theorem yw_fo_l {post : Int32 → SY → Prop} {s m : Nat} {vn : Int32} {fr ft co we qs us : Nat → Int32} (hs : s < 4096) (hm : m ≤ 12) (hfr : ∀ e, e < m → vp_in (fr e) 7) (hft : ∀ e, e < m → vp_in (ft e) 7) (hp : ∀ lb, post (cf_b (cf_F (cf_at fr) (cf_at ft) s m)) (vn, nI m, fr, ft, co, we, qs, lb, us)) : ∀ d e n lb, e + d = m → d < n → cf_pic 8 lb (cf_L (cf_at fr) (cf_at ft) s e) → cf_Fp (cf_at fr) (cf_at ft) s e → wY_forest_23 post (nI s) vn (nI m) n (nI e) fr ft co we qs lb us := by
  intro d
  induction d with
  | zero =>
    intro e n lb he hn h hF
    obtain ⟨n, rfl⟩ : ∃ k, n = k + 1 := ⟨n - 1, by omega⟩
    have e1 : e = m := by omega
    rw [e1] at hF ⊢
    have h1 := hp lb
    rw [cf_F_t.mpr hF] at h1
    exact br_t (nI_le (Nat.le_refl _) (by omega)) h1
  | succ d ih =>
    intro e n lb he hn h hF
    obtain ⟨n, rfl⟩ : ∃ k, n = k + 1 := ⟨n - 1, by omega⟩
    have hc : (nI e).toNatClampNeg = e := nI_clamp (by omega)
    have hi : vp_in (nI e) 12 := vp_in_nI (by omega) (by decide)
    have hA := cf_at_lt (Nat.le_refl 7) hfr
    have hB := cf_at_lt (Nat.le_refl 7) hft
    have hLa := cf_L_8 (cf_at fr) (cf_at ft) s m hA e (by omega)
    have hAe := hA e (by omega)
    have hBe := hB e (by omega)
    have ih' := fun lb' => ih (e + 1) n lb' (by omega) (by omega)
    refine br_f (nI_ge (by omega) (by omega)) ?_
    refine br_f (nI_ge (b := 12) (by omega) (by decide)) ?_
    by_cases hb : s.testBit e = true
    · refine yw_in_t hs (by omega) hb ?_
      refine br_f (by decide) ⟨hi, by rw [hc]; exact cf_vp_le (hfr e (by omega)) (by omega), ?_⟩
      refine nm_r (e' := nI (cf_L (cf_at fr) (cf_at ft) s e (cf_at fr e))) (by rw [hc]; exact h _ (Nat.lt_trans hAe (by decide))) ?_
      refine ⟨hi, by rw [hc]; exact cf_vp_le (hft e (by omega)) (by omega), ?_⟩
      refine nm_r (e' := nI (cf_L (cf_at fr) (cf_at ft) s e (cf_at ft e))) (by rw [hc]; exact h _ (Nat.lt_trans hBe (by decide))) ?_
      by_cases q : cf_L (cf_at fr) (cf_at ft) s e (cf_at fr e) = cf_L (cf_at fr) (cf_at ft) s e (cf_at ft e)
      · have hn2 : cf_F (cf_at fr) (cf_at ft) s m = false := by
          cases hq : cf_F (cf_at fr) (cf_at ft) s m with
          | false => rfl
          | true => exact absurd q (cf_F_t.mp hq e (by omega) hb)
        have h1 := hp lb
        rw [hn2] at h1
        exact br_t (congrArg nI q) h1
      · have h1 := hLa _ (Nat.lt_trans hAe (by decide))
        have h2 := hLa _ (Nat.lt_trans hBe (by decide))
        rw [cf_L_t hb] at ih'
        refine br_f (by rw [nI_eq (by omega) (by omega)]; exact q) ?_
        exact ⟨9, yw_ren_l hLa h2 (fun lb' h' => ih' lb' h' (cf_Fp_s hF (fun _ => q))) 8 0 9 lb (by omega) (by omega) (cf_mid_0 _ h)⟩
    · rw [cf_L_f hb] at ih'
      refine yw_in_f hs (by omega) hb ?_
      exact br_t rfl (nm_r (nI_1 _) (ih' lb h (cf_Fp_s hF (fun z => absurd z hb))))
theorem yw_fo_0 {post : Int32 → SY → Prop} {s m : Nat} {vn : Int32} {fr ft co we qs us : Nat → Int32} (hs : s < 4096) (hm : m ≤ 12) (hfr : ∀ e, e < m → vp_in (fr e) 7) (hft : ∀ e, e < m → vp_in (ft e) 7) (hp : ∀ lb, post (cf_b (cf_F (cf_at fr) (cf_at ft) s m)) (vn, nI m, fr, ft, co, we, qs, lb, us)) : ∀ d v n lb, v + d = 8 → d < n → cf_low v lb nI → wY_forest_2 post (nI s) vn (nI m) n (nI v) fr ft co we qs lb us := by
  intro d
  induction d with
  | zero =>
    intro v n lb he hn h
    obtain ⟨n, rfl⟩ : ∃ k, n = k + 1 := ⟨n - 1, by omega⟩
    have e1 : v = 8 := by omega
    subst e1
    exact br_t (nI_le (a := 8) (b := 8) (Nat.le_refl _) (by decide)) ⟨m + 1, yw_fo_l hs hm hfr hft hp m 0 (m + 1) lb (by omega) (by omega) h (fun f hf => absurd hf (Nat.not_lt_zero f))⟩
  | succ d ih =>
    intro v n lb he hn h
    obtain ⟨n, rfl⟩ : ∃ k, n = k + 1 := ⟨n - 1, by omega⟩
    have hc : (nI v).toNatClampNeg = v := nI_clamp (by omega)
    have hi : vp_in (nI v) 8 := vp_in_nI (by omega) (by decide)
    refine br_f (nI_ge (b := 8) (by omega) (by decide)) ⟨hi, ?_⟩
    exact nm_r (e' := upd lb v (nI v)) (by rw [hc]) (nm_r (nI_1 v) (ih (v + 1) n _ (by omega) (by omega) (cf_low_u h rfl)))
theorem yw_fo {post : Int32 → SY → Prop} {s m : Nat} {vn : Int32} {fr ft co we qs lb us : Nat → Int32} (hs : s < 4096) (hm : m ≤ 12) (hfr : ∀ e, e < m → vp_in (fr e) 7) (hft : ∀ e, e < m → vp_in (ft e) 7) (hp : ∀ lb, post (cf_b (cf_F (cf_at fr) (cf_at ft) s m)) (vn, nI m, fr, ft, co, we, qs, lb, us)) : wpY_forest post (vn, nI m, fr, ft, co, we, qs, lb, us) (nI s) :=
  ⟨9, yw_fo_0 hs hm hfr hft hp 8 0 9 lb (by omega) (by omega) (cf_low_0 _ _)⟩
/-! ===== Y: within, good ===== -/
theorem yw_kq3 {post : Int32 → SY → Prop} {s m : Nat} {vn : Int32} {fr ft co we qs lb us : Nat → Int32} (hu : cf_usd us (cf_at co) s m) (hp : post (cf_b (cf_W (cf_at co) qs s m)) (vn, nI m, fr, ft, co, we, qs, lb, us)) : ∀ d c n, c + d = 4 → d < n → cf_q4 (cf_at co) qs s m c = true → wY_within_68 post vn (nI m) fr ft co we qs lb us n (nI c) := by
  intro d
  induction d with
  | zero =>
    intro c n he hn h
    obtain ⟨n, rfl⟩ : ∃ k, n = k + 1 := ⟨n - 1, by omega⟩
    have e1 : c = 4 := by omega
    subst e1
    have e2 : cf_W (cf_at co) qs s m = true := h
    rw [e2] at hp
    exact br_t (nI_le (a := 4) (b := 4) (Nat.le_refl _) (by decide)) hp
  | succ d ih =>
    intro c n he hn h
    obtain ⟨n, rfl⟩ : ∃ k, n = k + 1 := ⟨n - 1, by omega⟩
    have hc : (nI c).toNatClampNeg = c := nI_clamp (by omega)
    have hi : vp_in (nI c) 8 := vp_in_nI (by omega) (by decide)
    refine br_f (nI_ge (b := 4) (by omega) (by decide)) ⟨hi, hi, ?_⟩
    by_cases q : qs c < nI (cf_U (cf_at co) s c m)
    · have e2 : cf_W (cf_at co) qs s m = false := cf_q4_f _ _ _ _ c q 4 (by omega)
      rw [e2] at hp
      exact br_f (by rw [hc, hu c (by omega)]; exact Int32.not_le.mpr q) hp
    · exact br_t (by rw [hc, hu c (by omega)]; exact Int32.not_lt.mp q) (nm_r (nI_1 c) (ih (c + 1) n (by omega) (by omega) (cf_q4_t q h)))
theorem yw_kq2 {post : Int32 → SY → Prop} {s m : Nat} {vn : Int32} {fr ft co we qs lb : Nat → Int32} (hs : s < 4096) (hm : m ≤ 12) (hco : ∀ e, e < m → vp_in (co e) 4) (hp : ∀ us, post (cf_b (cf_W (cf_at co) qs s m)) (vn, nI m, fr, ft, co, we, qs, lb, us)) : ∀ d e n us, e + d = m → d < n → cf_usd us (cf_at co) s e → wY_within_22 post (nI s) vn (nI m) n (nI e) fr ft co we qs lb us := by
  intro d
  induction d with
  | zero =>
    intro e n us he hn h
    obtain ⟨n, rfl⟩ : ∃ k, n = k + 1 := ⟨n - 1, by omega⟩
    have e1 : e = m := by omega
    rw [e1] at h ⊢
    exact br_t (nI_le (Nat.le_refl _) (by omega)) ⟨5, yw_kq3 h (hp us) 4 0 5 (by omega) (by omega) rfl⟩
  | succ d ih =>
    intro e n us he hn h
    obtain ⟨n, rfl⟩ : ∃ k, n = k + 1 := ⟨n - 1, by omega⟩
    have hc : (nI e).toNatClampNeg = e := nI_clamp (by omega)
    have hi : vp_in (nI e) 12 := vp_in_nI (by omega) (by decide)
    have h4 := hco e (by omega)
    have h8 : vp_in (co e) 8 := cf_vp_le h4 (by omega)
    refine br_f (nI_ge (by omega) (by omega)) ?_
    refine br_f (nI_ge (b := 12) (by omega) (by decide)) ?_
    by_cases hb : s.testBit e = true
    · refine yw_in_t hs (by omega) hb ?_
      refine br_f (by decide) ⟨hi, by rw [hc]; exact h8, by rw [hc]; exact h8, ?_⟩
      exact nm_r (e' := upd us (cf_at co e) (us (cf_at co e) + 1)) (by rw [hc]; rfl) (nm_r (nI_1 e) (ih (e + 1) n _ (by omega) (by omega) (cf_usd_t h hb (cf_vp h4 (by decide)).1 rfl)))
    · refine yw_in_f hs (by omega) hb ?_
      exact br_t rfl (nm_r (nI_1 e) (ih (e + 1) n _ (by omega) (by omega) (cf_usd_f h hb)))
theorem yw_kq1 {post : Int32 → SY → Prop} {s m : Nat} {vn : Int32} {fr ft co we qs lb : Nat → Int32} (hs : s < 4096) (hm : m ≤ 12) (hco : ∀ e, e < m → vp_in (co e) 4) (hp : ∀ us, post (cf_b (cf_W (cf_at co) qs s m)) (vn, nI m, fr, ft, co, we, qs, lb, us)) : ∀ d c n us, c + d = 4 → d < n → cf_low c us (fun _ => 0) → wY_within_2 post (nI s) vn (nI m) n (nI c) fr ft co we qs lb us := by
  intro d
  induction d with
  | zero =>
    intro c n us he hn h
    obtain ⟨n, rfl⟩ : ∃ k, n = k + 1 := ⟨n - 1, by omega⟩
    have e1 : c = 4 := by omega
    subst e1
    exact br_t (nI_le (a := 4) (b := 4) (Nat.le_refl _) (by decide)) ⟨m + 1, yw_kq2 hs hm hco hp m 0 (m + 1) us (by omega) (by omega) (cf_usd_0 _ _ h)⟩
  | succ d ih =>
    intro c n us he hn h
    obtain ⟨n, rfl⟩ : ∃ k, n = k + 1 := ⟨n - 1, by omega⟩
    have hc : (nI c).toNatClampNeg = c := nI_clamp (by omega)
    have hi : vp_in (nI c) 8 := vp_in_nI (by omega) (by decide)
    refine br_f (nI_ge (b := 4) (by omega) (by decide)) ⟨hi, ?_⟩
    exact nm_r (e' := upd us c 0) (by rw [hc]) (nm_r (nI_1 c) (ih (c + 1) n _ (by omega) (by omega) (cf_low_u h rfl)))
theorem yw_kq {post : Int32 → SY → Prop} {s m : Nat} {vn : Int32} {fr ft co we qs lb us : Nat → Int32} (hs : s < 4096) (hm : m ≤ 12) (hco : ∀ e, e < m → vp_in (co e) 4) (hp : ∀ us, post (cf_b (cf_W (cf_at co) qs s m)) (vn, nI m, fr, ft, co, we, qs, lb, us)) : wpY_within post (vn, nI m, fr, ft, co, we, qs, lb, us) (nI s) :=
  ⟨5, yw_kq1 hs hm hco hp 4 0 5 us (by omega) (by omega) (cf_low_0 _ _)⟩
theorem yw_good {post : Int32 → SY → Prop} {s m : Nat} {vn : Int32} {fr ft co we qs lb us : Nat → Int32} (hs : s < 4096) (hm : m ≤ 12) (hfr : ∀ e, e < m → vp_in (fr e) 7) (hft : ∀ e, e < m → vp_in (ft e) 7) (hco : ∀ e, e < m → vp_in (co e) 4) (hp : ∀ lb us, post (cf_b (cf_G (cf_at fr) (cf_at ft) (cf_at co) qs s m)) (vn, nI m, fr, ft, co, we, qs, lb, us)) : wpY_good post (vn, nI m, fr, ft, co, we, qs, lb, us) (nI s) := by
  refine yw_kq hs hm hco (fun us' => ?_)
  refine cf_bb _ (fun hw => ?_) (fun hw => ?_)
  · refine yw_fo hs hm hfr hft (fun lb' => ?_)
    have h := hp lb' us'
    unfold cf_G at h
    rw [hw, Bool.and_true] at h
    refine cf_bb _ (fun hf => ?_) (fun hf => ?_)
    · rw [hf] at h; exact h
    · rw [hf] at h; exact h
  · have h := hp lb us'
    unfold cf_G at h
    rw [hw, Bool.and_false] at h
    exact h
