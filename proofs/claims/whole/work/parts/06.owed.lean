/-! the owed rows -/
theorem i_up {k : Nat} {u : SX} {v : SY} (h : i_Rel k u v) : i_Rel (k + 4) u v := h
theorem i_vc0 : wpX_init (fun u => wpY_init (fun v => i_Rel 0 u v)) :=
  ⟨9, sl_init (fun dm hd => so_mk0 (k := 0) (sh_new hd (fun _ _ => rfl))) 8 0 _ rfl (fun i hi => absurd hi (by omega))⟩
theorem i_vc_draft {k : Nat} {u : SX} {v : SY} (I : i_Rel k u v) (hk : k + 4 ≤ 2048) (v1 : Int32) : wpX_draft (fun r u' => wpY_draft (fun r' v' => r' = r ∧ i_Rel (k + 4) u' v') v v1) u v1 := by
  obtain ⟨n, h, dw, z, dm, ce, wo, co, ma, hn, rfl, rfl, R⟩ := I
  by_cases h4 : n < 4
  · have e1 : upd dw (nI n).toNatClampNeg v1 = upd dw n v1 := by rw [nI_clamp (show n < 2 ^ 31 from by omega)]
    have hi : vp_in (nI n) 4 := vp_in_nI h4 (by omega)
    have hne : ¬ nI n = nI 4 := fun r => absurd ((nI_eq (by omega) (by omega)).mp r) (by omega)
    refine br_t (nI_lt (b := 4) h4 (by omega)) ⟨hi, nm_r e1 (nm_r (nI_1 n) ?_)⟩
    exact br_f hne ⟨hi, nm_r e1 (nm_r (nI_1 n) ⟨rfl, so_mk (by omega) R⟩)⟩
  · have e1 : n = 4 := by omega
    subst e1
    exact br_f (nI_nlt (b := 4) (by omega) (by omega)) (br_t rfl ⟨rfl, so_mk (by omega) R⟩)
theorem i_vc_scrap {k : Nat} {u : SX} {v : SY} (I : i_Rel k u v) (hk : k + 4 ≤ 2048) : wpX_scrap (fun u' => wpY_scrap (fun v' => i_Rel (k + 4) u' v') v) u := by
  obtain ⟨n, h, dw, z, dm, ce, wo, co, ma, hn, rfl, rfl, R⟩ := I
  exact so_mk0 (k := k + 4) R
theorem i_vc_put {k : Nat} {u : SX} {v : SY} (I : i_Rel k u v) (hk : k + 4 ≤ 2048) (v1 : Int32) : wpX_put (fun r u' => wpY_put (fun r' v' => r' = r ∧ i_Rel (k + 4) u' v') v v1) u v1 := by
  obtain ⟨n, h, dw, z, dm, ce, wo, co, ma, hn, rfl, rfl, R⟩ := I
  unfold wpX_put wpY_put
  dsimp only
  rcases sw_ext v1 with ⟨e, he, rfl⟩ | ⟨hx, hy⟩
  · by_cases q0 : n = 0
    · subst q0
      refine sw_xin he (br_f (by decide) (br_t rfl ?_))
      exact sw_yin he (br_f (by decide) (br_t rfl ⟨rfl, so_mk (by omega) R⟩))
    · have hz : ¬ nI n = 0 := sw_nz (by omega) hn
      refine sw_xin he (br_f (by decide) (br_f hz ⟨n + 1, ?_⟩))
      refine sl_xput he (by omega) hn (fun ce' h1 h2 => ?_) n 0 ce (by omega) (fun o ho => absurd ho (by omega)) (fun i _ => rfl)
      refine sw_yin he (br_f (by decide) (br_f hz ⟨n + 1, ?_⟩))
      refine sl_yput he hn (fun wo' h3 h4 => ?_) n 0 wo (by omega) (fun o ho => absurd ho (by omega)) (fun i _ => rfl)
      exact ⟨rfl, so_mk0 (sh_put R (by omega) hn h1 h2 h3 h4)⟩
  · refine hx _ _ (br_t rfl ?_)
    exact hy _ _ (br_t rfl ⟨rfl, so_mk hn R⟩)
theorem i_vc_delete {k : Nat} {u : SX} {v : SY} (I : i_Rel k u v) (hk : k + 4 ≤ 2048) (v1 : Int32) : wpX_delete (fun r u' => wpY_delete (fun r' v' => r' = r ∧ i_Rel (k + 4) u' v') v v1) u v1 := by
  obtain ⟨n, h, dw, z, dm, ce, wo, co, ma, hn, rfl, rfl, R⟩ := I
  unfold wpX_delete wpY_delete
  dsimp only
  rcases sw_ext v1 with ⟨e, he, rfl⟩ | ⟨hx, hy⟩
  · rw [sw_cl he]
    have hi := sw_in he
    by_cases q0 : z e = 0
    · refine sw_xin he (br_f (by decide) (sw_ab1 he q0 (br_f (by decide) ?_)))
      exact sw_yin he (br_f (by decide) ⟨hi, br_t q0 ⟨rfl, so_mk hn R⟩⟩)
    · refine sw_xin he (br_f (by decide) (sw_ab0 he q0 (br_t rfl ⟨hi, nm_e ⟨hi, nm_e ⟨hi, nm_e ?_⟩⟩⟩)))
      exact sw_yin he (br_f (by decide) ⟨hi, br_f q0 ⟨hi, nm_e ⟨hi, nm_e ⟨hi, nm_e ⟨rfl, so_mk hn (sh_del R)⟩⟩⟩⟩⟩)
  · refine hx _ _ (br_t rfl ?_)
    exact hy _ _ (br_t rfl ⟨rfl, so_mk hn R⟩)
theorem i_vc_size {k : Nat} {u : SX} {v : SY} (I : i_Rel k u v) (hk : k + 4 ≤ 2048) (v1 : Int32) : wpX_size (fun r => wpY_size (fun r' => r' = r ∧ i_Rel (k + 4) u v) v v1) u v1 := by
  have J := i_up I
  obtain ⟨n, h, dw, z, dm, ce, wo, co, ma, hn, rfl, rfl, R⟩ := I
  unfold wpX_size wpY_size
  dsimp only
  rcases sw_ext v1 with ⟨e, he, rfl⟩ | ⟨hx, hy⟩
  · have hi := sw_in he
    refine sw_xin he (br_f (by decide) ⟨hi, ?_⟩)
    exact sw_yin he (br_f (by decide) ⟨hi, rfl, J⟩)
  · refine hx _ _ (br_t rfl ?_)
    exact hy _ _ (br_t rfl ⟨rfl, J⟩)
theorem i_vc_read {k : Nat} {u : SX} {v : SY} (I : i_Rel k u v) (hk : k + 4 ≤ 2048) (v1 : Int32) (v2 : Int32) : wpX_read (fun r u' => wpY_read (fun r' v' => r' = r ∧ i_Rel (k + 4) u' v') v v1 v2) u v1 v2 := by
  obtain ⟨n, h, dw, z, dm, ce, wo, co, ma, hn, rfl, rfl, R⟩ := I
  unfold wpX_read wpY_read
  dsimp only
  rcases sw_ext v1 with ⟨e, he, rfl⟩ | ⟨hx, hy⟩
  · have hi8 := sw_in he
    obtain ⟨w, hw, hz⟩ := sh_R_w R he
    rw [sw_cl he, hz]
    by_cases hneg : v2 < 0
    · refine sw_xin he (br_f (by decide) (br_t hneg ?_))
      exact sw_yin he (br_f (by decide) (br_t hneg ⟨rfl, so_mk hn R⟩))
    · obtain ⟨i, hi, rfl⟩ := nI_of hneg
      by_cases hiw : i < w
      · have hlt : nI i < nI w := nI_lt hiw (by omega)
        by_cases qm : ma e = 0
        · refine sw_xin he (br_f (by decide) (br_f hneg ⟨hi8, br_t hlt (sw_hd0 he ((sh_R_dm R he).mpr qm) (br_t rfl (so_rdx he (by omega) ?_)))⟩))
          exact sw_yin he (br_f (by decide) (br_f hneg ⟨hi8, br_t hlt ⟨hi8, br_t qm (so_rdy he (by omega) ⟨(sh_rd R he hz hw hiw (Or.inl qm)).symm, so_mk hn R⟩)⟩⟩))
        · obtain ⟨w', c, h0', hw', hcw, hz', hd, hco, R'⟩ := sh_heal R he qm
          have ew : w' = w := (nI_eq (by omega) (by omega)).mp (hz'.symm.trans hz)
          subst ew
          have hnd : ¬ dm e = -5 := fun r => qm ((sh_R_dm R he).mp r)
          by_cases qc : c = w'
          · subst qc
            refine sw_xin he (br_f (by decide) (br_f hneg ⟨hi8, br_t hlt (sw_hd1 he hnd (br_f (by decide) ⟨hi8, sw_par he (br_t (hd.trans hz.symm) (so_rdx he (by omega) ?_))⟩))⟩))
            exact sw_yin he (br_f (by decide) (br_f hneg ⟨hi8, br_t hlt ⟨hi8, br_f qm ⟨hi8, hi8, br_t hco (so_rdy he (by omega) ⟨(sh_rd R he hz hw hiw (Or.inr (hco.trans hz.symm))).symm, so_mk hn R⟩)⟩⟩⟩))
          · have hne : ¬ nI c = nI w' := fun r => qc ((nI_eq (by omega) (by omega)).mp r)
            refine sw_xin he (br_f (by decide) (br_f hneg ⟨hi8, br_t hlt (sw_hd1 he hnd (br_f (by decide) ⟨hi8, sw_par he (br_f (fun r => hne (hd.symm.trans (r.trans hz))) (sw_heal he hw (by omega) hz hd ?_))⟩))⟩))
            refine so_rdx he (by omega) ?_
            exact sw_yin he (br_f (by decide) (br_f hneg ⟨hi8, br_t hlt ⟨hi8, br_f qm ⟨hi8, hi8, br_f (fun r => hne (hco.symm.trans r)) ⟨hi8, nm_e (nm_e (so_rdy he (by omega) ⟨(sh_rd R' he hz hw hiw (Or.inl pk_us)).symm, so_mk hn R'⟩))⟩⟩⟩⟩))
      · have hnlt : ¬ nI i < nI w := nI_nlt (by omega) hi
        refine sw_xin he (br_f (by decide) (br_f hneg ⟨hi8, br_f hnlt ?_⟩))
        exact sw_yin he (br_f (by decide) (br_f hneg ⟨hi8, br_f hnlt ⟨rfl, so_mk hn R⟩⟩))
  · refine hx _ _ (br_t rfl ?_)
    exact hy _ _ (br_t rfl ⟨rfl, so_mk hn R⟩)
theorem i_vc_damage {k : Nat} {u : SX} {v : SY} (I : i_Rel k u v) (hk : k + 4 ≤ 2048) (v1 : Int32) (v2 : Int32) (v3 : Int32) : wpX_damage (fun r u' => wpY_damage (fun r' v' => r' = r ∧ i_Rel (k + 4) u' v') v v1 v2 v3) u v1 v2 v3 := by
  obtain ⟨n, h, dw, z, dm, ce, wo, co, ma, hn, rfl, rfl, R⟩ := I
  unfold wpX_damage wpY_damage
  dsimp only
  rcases sw_ext v1 with ⟨e, he, rfl⟩ | ⟨hx, hy⟩
  · have hi8 := sw_in he
    obtain ⟨w, hw, hz⟩ := sh_R_w R he
    rw [sw_cl he]
    by_cases q0 : w = 0
    · have hz0 : z e = 0 := by rw [hz, q0]; rfl
      refine sw_xin he (br_f (by decide) (sw_ab1 he hz0 (br_f (by decide) ?_)))
      exact sw_yin he (br_f (by decide) ⟨hi8, br_t hz0 ⟨rfl, so_mk hn R⟩⟩)
    · have hz0 : ¬ z e = 0 := by rw [hz]; exact sw_nz (by omega) hw
      by_cases hneg : v2 < 0
      · refine sw_xin he (br_f (by decide) (sw_ab0 he hz0 (br_t rfl (br_t hneg ?_))))
        exact sw_yin he (br_f (by decide) ⟨hi8, br_f hz0 (br_t hneg ⟨rfl, so_mk hn R⟩)⟩)
      · obtain ⟨c, hc, rfl⟩ := nI_of hneg
        by_cases hcw : c ≤ w
        · have hle : nI c ≤ z e := by rw [hz]; exact nI_le hcw (by omega)
          by_cases qm : ma e = 0
          · obtain ⟨r, u', v', HX, HY, J⟩ := so_dmg (k := k + 4) (h := h) (dw := dw) hn R v3 he hz hw (by omega) hcw (Or.inl qm)
            refine sw_xin he (br_f (by decide) (sw_ab0 he hz0 (br_t rfl (br_f hneg (sw_par he (br_t hle (sw_hd0 he ((sh_R_dm R he).mpr qm) (br_t rfl (HX _ ?_)))))))))
            exact sw_yin he (br_f (by decide) ⟨hi8, br_f hz0 (br_f hneg ⟨hi8, br_t hle ⟨hi8, br_t qm (HY _ ⟨rfl, J⟩)⟩⟩)⟩)
          · obtain ⟨w', c', h0', hw', hcw', hz', hd, hco, R'⟩ := sh_heal R he qm
            have hnd : ¬ dm e = -5 := fun r => qm ((sh_R_dm R he).mp r)
            by_cases qc : c' = c
            · subst qc
              obtain ⟨r, u', v', HX, HY, J⟩ := so_dmg (k := k + 4) (h := h) (dw := dw) hn R v3 he hz hw (by omega) hcw (Or.inr hco)
              refine sw_xin he (br_f (by decide) (sw_ab0 he hz0 (br_t rfl (br_f hneg (sw_par he (br_t hle (sw_hd1 he hnd (br_f (by decide) ⟨hi8, br_t hd (HX _ ?_)⟩))))))))
              exact sw_yin he (br_f (by decide) ⟨hi8, br_f hz0 (br_f hneg ⟨hi8, br_t hle ⟨hi8, br_f qm ⟨hi8, br_t hco (HY _ ⟨rfl, J⟩)⟩⟩⟩)⟩)
            · have hne : ¬ nI c' = nI c := fun r => qc ((nI_eq (by omega) hc).mp r)
              refine sw_xin he (br_f (by decide) (sw_ab0 he hz0 (br_t rfl (br_f hneg (sw_par he (br_t hle (sw_hd1 he hnd (br_f (by decide) ⟨hi8, br_f (fun r => hne (hd.symm.trans r)) ?_⟩))))))))
              exact sw_yin he (br_f (by decide) ⟨hi8, br_f hz0 (br_f hneg ⟨hi8, br_t hle ⟨hi8, br_f qm ⟨hi8, br_f (fun r => hne (hco.symm.trans r)) ⟨rfl, so_mk hn R⟩⟩⟩⟩)⟩)
        · have hnle : ¬ nI c ≤ z e := by rw [hz]; exact nI_ge (by omega) hc
          refine sw_xin he (br_f (by decide) (sw_ab0 he hz0 (br_t rfl (br_f hneg (sw_par he (br_f hnle ?_))))))
          exact sw_yin he (br_f (by decide) ⟨hi8, br_f hz0 (br_f hneg ⟨hi8, br_f hnle ⟨rfl, so_mk hn R⟩⟩)⟩)
  · refine hx _ _ (br_t rfl ?_)
    exact hy _ _ (br_t rfl ⟨rfl, so_mk hn R⟩)
theorem i_vc_damaged {k : Nat} {u : SX} {v : SY} (I : i_Rel k u v) (hk : k + 4 ≤ 2048) (v1 : Int32) : wpX_damaged (fun r => wpY_damaged (fun r' => r' = r ∧ i_Rel (k + 4) u v) v v1) u v1 := by
  have J := i_up I
  obtain ⟨n, h, dw, z, dm, ce, wo, co, ma, hn, rfl, rfl, R⟩ := I
  unfold wpX_damaged wpY_damaged
  dsimp only
  rcases sw_ext v1 with ⟨e, he, rfl⟩ | ⟨hx, hy⟩
  · have hi8 := sw_in he
    rw [sw_cl he]
    by_cases q0 : z e = 0
    · refine sw_xin he (br_f (by decide) (sw_ab1 he q0 (br_f (by decide) ?_)))
      exact sw_yin he (br_f (by decide) ⟨hi8, br_t q0 ⟨rfl, J⟩⟩)
    · refine sw_xin he (br_f (by decide) (sw_ab0 he q0 (br_t rfl ⟨hi8, ?_⟩)))
      by_cases qm : ma e = 0
      · exact sw_yin he (br_f (by decide) ⟨hi8, br_f q0 ⟨hi8, br_t qm ⟨((sh_R_dm R he).mpr qm).symm, J⟩⟩⟩)
      · obtain ⟨w', c', h0', hw', hcw', hz', hd, hco, R'⟩ := sh_heal R he qm
        exact sw_yin he (br_f (by decide) ⟨hi8, br_f q0 ⟨hi8, br_f qm ⟨hi8, hco.trans hd.symm, J⟩⟩⟩)
  · refine hx _ _ (br_t rfl ?_)
    exact hy _ _ (br_t rfl ⟨rfl, J⟩)
theorem i_vc_scrub {k : Nat} {u : SX} {v : SY} (I : i_Rel k u v) (hk : k + 4 ≤ 2048) : wpX_scrub (fun r u' => wpY_scrub (fun r' v' => r' = r ∧ i_Rel (k + 4) u' v') v) u := by
  obtain ⟨n, h, dw, z, dm, ce, wo, co, ma, hn, rfl, rfl, R⟩ := I
  unfold wpX_scrub wpY_scrub
  dsimp only
  have X := sl_xsc (post := fun r u' => wpY_damagedExtents (fun r_1 => ∃ n7 : Nat, wY_scrub_7 (fun r' v' => r' = r ∧ i_Rel (k + 4) u' v') r_1 (nI n) h n7 0 dw wo z co ma) (nI n, h, dw, wo, z, co, ma))
    (q := nI n) (h := h) (dw := dw) (z := z) (wo := wo) (co := co) (ma0 := ma) (fun dm' ce' ma' R' h0 => sw_yde ⟨9, sl_ysc (fun ma'' hm => ⟨rfl, so_mk hn (so_ma R' (fun i hi => (hm i hi).trans (h0 i hi).symm))⟩) 8 0 ma rfl (fun i hi => absurd hi (by omega))⟩)
    8 0 dm ce ma rfl R (fun i hi => absurd hi (by omega)) (fun i _ => rfl)
  rw [show sh_cn ma 0 = 0 from rfl, nI_0, Int32.add_zero] at X
  exact ⟨9, X⟩
theorem i_vc_healed {k : Nat} {u : SX} {v : SY} (I : i_Rel k u v) (hk : k + 4 ≤ 2048) : wpX_healed (fun r => wpY_healed (fun r' => r' = r ∧ i_Rel (k + 4) u v) v) u := by
  have J := i_up I
  obtain ⟨n, h, dw, z, dm, ce, wo, co, ma, hn, rfl, rfl, R⟩ := I
  exact ⟨rfl, J⟩
theorem i_vc_lose {k : Nat} {u : SX} {v : SY} (I : i_Rel k u v) (hk : k + 4 ≤ 2048) (v1 : Int32) : wpX_lose (fun r u' => wpY_lose (fun r' => r' = r ∧ i_Rel (k + 4) u' v) v v1) u v1 := by
  obtain ⟨n, h, dw, z, dm, ce, wo, co, ma, hn, rfl, rfl, R⟩ := I
  unfold wpX_lose wpY_lose
  dsimp only
  by_cases hneg : v1 < 0
  · refine br_t hneg ?_
    exact br_t hneg ⟨rfl, so_mk hn R⟩
  · obtain ⟨x, hx, rfl⟩ := nI_of hneg
    by_cases h5 : x < 5
    · have hl5 : nI x < 5 := nI_lt (b := 5) h5 (by omega)
      have hl4 : nI x ≤ 4 := nI_le (b := 4) (by omega) (by omega)
      by_cases qc : sh_cn ma 8 = 0
      · have hm := sh_cn_z.mp qc
        refine br_f hneg (br_t hl5 ⟨9, sw_any0L (fun i hi => (sh_R_dm R hi).mpr (hm i hi)) (br_t rfl ⟨9, sl_los h5 hm (fun ce' R' => ?_) 8 0 ce rfl R⟩) 8 0 rfl⟩)
        refine br_f hneg (br_t hl4 (sw_yde ?_))
        rw [qc]
        exact br_t (by decide) ⟨rfl, so_mk hn R'⟩
      · have hex : ∃ i, 0 ≤ i ∧ i < 8 ∧ ¬ dm i = -5 := by
          apply Classical.byContradiction
          intro hno
          refine qc (sh_cn_z.mpr (fun i hi => ?_))
          apply Classical.byContradiction
          intro hmi
          exact hno ⟨i, Nat.zero_le i, hi, fun r => hmi ((sh_R_dm R hi).mp r)⟩
        refine br_f hneg (br_t hl5 ⟨9, sw_any1L (br_f (by decide) ?_) 8 0 rfl hex⟩)
        refine br_f hneg (br_t hl4 (sw_yde ?_))
        have hle := sh_cn_le ma 8
        exact br_f (nI_nle (by omega) (by omega)) ⟨rfl, so_mk hn R⟩
    · have hl5 : ¬ nI x < 5 := nI_nlt (b := 5) (by omega) hx
      have hl4 : ¬ nI x ≤ 4 := nI_ge (a := 4) (by omega) hx
      refine br_f hneg (br_f hl5 ?_)
      exact br_f hneg (br_f hl4 ⟨rfl, so_mk hn R⟩)
theorem i_vc_copy {k : Nat} {u : SX} {v : SY} (I : i_Rel k u v) (hk : k + 4 ≤ 2048) (v1 : Int32) (v2 : Int32) : wpX_copy (fun r u' => wpY_copy (fun r' v' => r' = r ∧ i_Rel (k + 4) u' v') v v1 v2) u v1 v2 := by
  obtain ⟨n, h, dw, z, dm, ce, wo, co, ma, hn, rfl, rfl, R⟩ := I
  unfold wpX_copy wpY_copy
  dsimp only
  rcases sw_ext v1 with ⟨a, ha, rfl⟩ | ⟨hx, hy⟩
  · rcases sw_ext v2 with ⟨b, hb, rfl⟩ | ⟨hx, hy⟩
    · rw [sw_cl ha]
      by_cases qm : ma a = 0
      · refine sw_xin ha (br_f (by decide) (sw_xin hb (br_f (by decide) (sw_hd0 ha ((sh_R_dm R ha).mpr qm) (br_t rfl ⟨6, sl_xcp ha hb (fun ce' h1 h2 => ?_) 5 0 ce rfl (fun o ho => absurd ho (by omega)) (fun i _ => rfl)⟩)))))
        exact sw_yin ha (br_f (by decide) (sw_yin hb (br_f (by decide) ⟨sw_in ha, br_t qm ⟨5, sl_ycp ha hb (fun wo' h3 h4 => ⟨rfl, so_mk hn (sh_cpy R ha qm h1 h2 h3 h4)⟩) 4 0 wo rfl (fun o ho => absurd ho (by omega)) (fun i _ => rfl)⟩⟩)))
      · refine sw_xin ha (br_f (by decide) (sw_xin hb (br_f (by decide) (sw_hd1 ha (fun r => qm ((sh_R_dm R ha).mp r)) (br_f (by decide) ?_)))))
        exact sw_yin ha (br_f (by decide) (sw_yin hb (br_f (by decide) ⟨sw_in ha, br_f qm ⟨rfl, so_mk hn R⟩⟩)))
    · refine sw_xin ha (br_f (by decide) (hx _ _ (br_t rfl ?_)))
      exact sw_yin ha (br_f (by decide) (hy _ _ (br_t rfl ⟨rfl, so_mk hn R⟩)))
  · refine hx _ _ (br_t rfl ?_)
    exact hy _ _ (br_t rfl ⟨rfl, so_mk hn R⟩)
theorem i_vc_digest {k : Nat} {u : SX} {v : SY} (I : i_Rel k u v) (hk : k + 4 ≤ 2048) (v1 : Int32) : wpX_digest (fun r => wpY_digest (fun r' => r' = r ∧ i_Rel (k + 4) u v) v v1) u v1 := by
  have J := i_up I
  obtain ⟨n, h, dw, z, dm, ce, wo, co, ma, hn, rfl, rfl, R⟩ := I
  unfold wpX_digest wpY_digest
  dsimp only
  rcases sw_ext v1 with ⟨e, he, rfl⟩ | ⟨hx, hy⟩
  · obtain ⟨w, hw, hz⟩ := sh_R_w R he
    refine sw_xin he (br_f (by decide) ⟨w + 1, sl_xdg R he hz hw ?_ w 0 (by omega)⟩)
    exact sw_yin he (br_f (by decide) ⟨w + 1, sl_ydg he hz hw ⟨rfl, J⟩ w 0 (by omega)⟩)
  · refine hx _ _ (br_t rfl ?_)
    exact hy _ _ (br_t rfl ⟨rfl, J⟩)
