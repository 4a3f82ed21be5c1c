/-! the loops of the public methods -/
theorem sl_init {post : SX → Prop} {dw ce : Nat → Int32} (K : ∀ dm : Nat → Int32, (∀ i, i < 8 → dm i = -5) → post (0, 0, dw, (fun _ => 0), dm, ce)) :
    ∀ (d j : Nat) (dm : Nat → Int32), j + d = 8 → (∀ i, i < j → dm i = -5) → wX_init_47 post 0 0 (d + 1) (nI j) dw (fun _ => 0) dm ce := by
  intro d
  induction d with
  | zero =>
    intro j dm hj hd
    exact br_t (sw_8t (by omega)) (K dm (fun i hi => hd i (by omega)))
  | succ d ih =>
    intro j dm hj hd
    have h8 : j < 8 := by omega
    have hz : upd (fun _ => (0 : Int32)) (nI j).toNatClampNeg 0 = fun _ => 0 := by
      funext i
      unfold upd
      split <;> rfl
    refine br_f (sw_8f h8) ⟨sw_in h8, nm_r hz ⟨sw_in h8, nm_r (e' := upd dm j (-5)) (by rw [sw_cl h8]) (nm_r (nI_1 j) (ih (j + 1) (upd dm j (-5)) (by omega) (fun i hi => ?_)))⟩⟩
    by_cases r : i = j
    · subst r; exact pk_us
    · rw [pk_un r]; exact hd i (by omega)
theorem sl_ysc {post : Int32 → SY → Prop} {x1 q h : Int32} {dw wo z co : Nat → Int32} (K : ∀ ma : Nat → Int32, (∀ i, i < 8 → ma i = 0) → post x1 (q, h + x1, dw, wo, z, co, ma)) :
    ∀ (d j : Nat) (ma : Nat → Int32), j + d = 8 → (∀ i, i < j → ma i = 0) → wY_scrub_7 post x1 q h (d + 1) (nI j) dw wo z co ma := by
  intro d
  induction d with
  | zero =>
    intro j ma hj hd
    exact br_t (sw_8t (by omega)) (nm_e (K ma (fun i hi => hd i (by omega))))
  | succ d ih =>
    intro j ma hj hd
    have h8 : j < 8 := by omega
    refine br_f (sw_8f h8) ⟨sw_in h8, nm_r (e' := upd ma j 0) (by rw [sw_cl h8]) (nm_r (nI_1 j) (ih (j + 1) (upd ma j 0) (by omega) (fun i hi => ?_)))⟩
    by_cases r : i = j
    · subst r; exact pk_us
    · rw [pk_un r]; exact hd i (by omega)
theorem sl_xsc {post : Int32 → SX → Prop} {q h : Int32} {dw z wo co ma0 : Nat → Int32}
    (K : ∀ dm ce ma : Nat → Int32, sh_R z dm ce wo co ma → (∀ i, i < 8 → ma i = 0) → post (nI (sh_cn ma0 8)) (q, h + nI (sh_cn ma0 8), dw, z, dm, ce)) :
    ∀ (d j : Nat) (dm ce ma : Nat → Int32), j + d = 8 → sh_R z dm ce wo co ma → (∀ i, i < j → ma i = 0) → (∀ i, j ≤ i → ma i = ma0 i) →
      wX_scrub_4 post (d + 1) (nI (sh_cn ma0 j)) (nI j) q (h + nI (sh_cn ma0 j)) dw z dm ce := by
  intro d
  induction d with
  | zero =>
    intro j dm ce ma hj R h1 h2
    have e1 : j = 8 := by omega
    subst e1
    exact br_t (sw_8t rfl) (K dm ce ma R h1)
  | succ d ih =>
    intro j dm ce ma hj R h1 h2
    have h8 : j < 8 := by omega
    by_cases q1 : ma j = 0
    · have hi := ih (j + 1) dm ce ma (by omega) R (lt_s h1 q1) (fun i hi => h2 i (by omega))
      rw [sh_cn_0 (by rw [← h2 j (Nat.le_refl _)]; exact q1)] at hi
      exact br_f (sw_8f h8) (sw_hd0 h8 ((sh_R_dm R h8).mpr q1) (br_t rfl (nm_r (nI_1 j) hi)))
    · obtain ⟨w, c, h0, hw, hcw, hz, hd, hco, R'⟩ := sh_heal R h8 q1
      have hi := ih (j + 1) _ _ _ (by omega) R' (fun i hi => by
        by_cases r : i = j
        · subst r; exact pk_us
        · rw [pk_un r]; exact h1 i (by omega)) (fun i hi => by
        rw [pk_un (show i ≠ j from by omega)]; exact h2 i (by omega))
      rw [sh_cn_1 (by rw [← h2 j (Nat.le_refl _)]; exact q1), ← nI_1, ← Int32.add_assoc] at hi
      refine br_f (sw_8f h8) (sw_hd1 h8 (fun r => q1 ((sh_R_dm R h8).mp r)) (br_f (by decide) ?_))
      refine sw_heal h8 hw (by omega) hz hd ?_
      exact nm_e (nm_r (nI_1 j) hi)
theorem sl_xput {post : Int32 → SX → Prop} {h : Int32} {dw z dm ce : Nat → Int32} {e n : Nat} (he : e < 8) (h0 : 0 < n) (hn : n ≤ 4)
    (K : ∀ ce' : Nat → Int32, (∀ o, o < n → ce' (e * 5 + o) = dw o) → (∀ i, i < e * 5 ∨ e * 5 + n ≤ i → ce' i = ce i) →
      post (nI n) (0, h, dw, upd z e (nI n), upd dm e (-5), upd ce' (e * 5 + n) (sh_sx (fun o => ce' (e * 5 + o)) n (n + 1)))) :
    ∀ (d j : Nat) (ce' : Nat → Int32), j + d = n → (∀ o, o < j → ce' (e * 5 + o) = dw o) → (∀ i, i < e * 5 ∨ e * 5 + j ≤ i → ce' i = ce i) →
      wX_put_22 post (nI e) (nI n) h (d + 1) (nI j) dw z dm ce' := by
  intro d
  induction d with
  | zero =>
    intro j ce' hj h1 h2
    have e1 : j = n := by omega
    subst e1
    refine br_t (nI_le (Nat.le_refl _) (by omega)) ⟨sw_in he, nm_r (e' := upd z e (nI j)) (by rw [sw_cl he]) ⟨sw_in he, nm_r (e' := upd dm e (-5)) (by rw [sw_cl he]) (sw_par he ?_)⟩⟩
    rw [pk_us]
    refine sw_reb he hn (by omega) pk_us ?_
    refine ⟨sw_in he, ?_⟩
    rw [sw_cl he, pk_us]
    exact K ce' h1 h2
  | succ d ih =>
    intro j ce' hj h1 h2
    refine br_f (nI_ge (by omega) (by omega)) (sw_cell ⟨vp_in_nI (by omega) (by omega), sw_i5 he (by omega), nm_r (e' := upd ce' (e * 5 + j) (dw j)) ?_ (nm_r (nI_1 j) (ih (j + 1) _ (by omega) (fun o ho => ?_) (fun i hi => ?_)))⟩)
    · rw [sw_c5 he (show j < 5 from by omega), nI_clamp (show j < 2 ^ 31 from by omega)]
    · by_cases r : o = j
      · subst r; exact pk_us
      · rw [sh_ue5 r]; exact h1 o (by omega)
    · rw [pk_un (show i ≠ e * 5 + j from by omega)]
      exact h2 i (by omega)
theorem sl_yput {post : Int32 → SY → Prop} {h : Int32} {dw wo z co ma : Nat → Int32} {e n : Nat} (he : e < 8) (hn : n ≤ 4)
    (K : ∀ wo' : Nat → Int32, (∀ i, i < n → wo' (4 * e + i) = dw i) → (∀ i, i < 4 * e ∨ 4 * e + n ≤ i → wo' i = wo i) →
      post (nI n) (0, h, dw, wo', upd z e (nI n), co, upd ma e 0)) :
    ∀ (d j : Nat) (wo' : Nat → Int32), j + d = n → (∀ i, i < j → wo' (4 * e + i) = dw i) → (∀ i, i < 4 * e ∨ 4 * e + j ≤ i → wo' i = wo i) →
      wY_put_22 post (nI e) (nI n) h (d + 1) (nI j) dw wo' z co ma := by
  intro d
  induction d with
  | zero =>
    intro j wo' hj h1 h2
    have e1 : j = n := by omega
    subst e1
    refine br_t (nI_le (Nat.le_refl _) (by omega)) ⟨sw_in he, nm_r (e' := upd z e (nI j)) (by rw [sw_cl he]) ⟨sw_in he, nm_r (e' := upd ma e 0) (by rw [sw_cl he]) ⟨sw_in he, ?_⟩⟩⟩
    rw [sw_cl he, pk_us]
    exact K wo' h1 h2
  | succ d ih =>
    intro j wo' hj h1 h2
    refine br_f (nI_ge (by omega) (by omega)) ⟨vp_in_nI (by omega) (by omega), sw_i4 he (by omega), nm_r (e' := upd wo' (4 * e + j) (dw j)) ?_ (nm_r (nI_1 j) (ih (j + 1) _ (by omega) (fun o ho => ?_) (fun i hi => ?_)))⟩
    · rw [sw_c4 he (show j < 4 from by omega), nI_clamp (show j < 2 ^ 31 from by omega)]
    · by_cases r : o = j
      · subst r; exact pk_us
      · rw [pk_un (show 4 * e + o ≠ 4 * e + j from by omega)]; exact h1 o (by omega)
    · rw [pk_un (show i ≠ 4 * e + j from by omega)]
      exact h2 i (by omega)
theorem sl_los {post : Int32 → SX → Prop} {q h : Int32} {dw z dm wo co ma : Nat → Int32} {x : Nat} (hx : x < 5) (hm : ∀ i, i < 8 → ma i = 0)
    (K : ∀ ce : Nat → Int32, sh_R z dm ce wo co ma → post 0 (q, h, dw, z, dm, ce)) :
    ∀ (d j : Nat) (ce : Nat → Int32), j + d = 8 → sh_R z dm ce wo co ma → wX_lose_23 post (nI x) (d + 1) (nI j) q h dw z dm ce := by
  intro d
  induction d with
  | zero =>
    intro j ce hj R
    exact br_t (sw_8t (by omega)) (K ce R)
  | succ d ih =>
    intro j ce hj R
    have h8 : j < 8 := by omega
    obtain ⟨w, hw, hz⟩ := sh_R_w R h8
    refine br_f (sw_8f h8) (sw_cell ⟨sw_i5 h8 hx, nm_r (e' := upd ce (j * 5 + x) 0) (by rw [sw_c5 h8 hx]) ?_⟩)
    by_cases q0 : w = 0
    · subst q0
      exact sw_ab1 h8 hz (br_f (by decide) (nm_r (nI_1 j) (ih (j + 1) _ (by omega) (sh_los0 R 0 hz hw h8 hx (Or.inl rfl)))))
    · refine sw_ab0 h8 (by rw [hz]; exact sw_nz (by omega) hw) (br_t rfl (sw_par h8 ?_))
      rw [hz]
      by_cases q2 : w < x
      · exact br_t (nI_lt q2 (by omega)) (nm_r (nI_1 j) (ih (j + 1) _ (by omega) (sh_los0 R 0 hz hw h8 hx (Or.inr q2))))
      · refine br_f (nI_nlt (by omega) (by omega)) (sw_reb h8 hw hx hz ?_)
        exact nm_r (nI_1 j) (ih (j + 1) _ (by omega) (sh_los1 R 0 hz hw h8 (by omega) (by omega) (hm j h8)))
theorem sl_xcp {post : Int32 → SX → Prop} {q h : Int32} {dw z dm ce : Nat → Int32} {a b : Nat} (ha : a < 8) (hb : b < 8)
    (K : ∀ ce' : Nat → Int32, (∀ o, o < 5 → ce' (b * 5 + o) = ce (a * 5 + o)) → (∀ i, i < b * 5 ∨ b * 5 + 5 ≤ i → ce' i = ce i) →
      post (z a) (q, h, dw, upd z b (z a), upd dm b (-5), ce')) :
    ∀ (d j : Nat) (ce' : Nat → Int32), j + d = 5 → (∀ o, o < j → ce' (b * 5 + o) = ce (a * 5 + o)) → (∀ i, i < b * 5 ∨ b * 5 + j ≤ i → ce' i = ce i) →
      wX_copy_31 post (nI a) (nI b) q h (d + 1) (nI j) dw z dm ce' := by
  intro d
  induction d with
  | zero =>
    intro j ce' hj h1 h2
    have e1 : j = 5 := by omega
    subst e1
    refine br_t (nI_le (a := 5) (by omega) (by omega)) ⟨sw_in ha, sw_in hb, nm_r (e' := upd z b (z a)) (by rw [sw_cl ha, sw_cl hb]) ⟨sw_in hb, nm_r (e' := upd dm b (-5)) (by rw [sw_cl hb]) ⟨sw_in hb, ?_⟩⟩⟩
    rw [sw_cl hb, pk_us]
    exact K ce' h1 h2
  | succ d ih =>
    intro j ce' hj h1 h2
    have hs : ce' (a * 5 + j) = ce (a * 5 + j) := h2 _ (by omega)
    refine br_f (nI_ge (b := 5) (by omega) (by omega)) (sw_cell (sw_cell ⟨sw_i5 ha (by omega), sw_i5 hb (by omega), nm_r (e' := upd ce' (b * 5 + j) (ce (a * 5 + j))) ?_ (nm_r (nI_1 j) (ih (j + 1) _ (by omega) (fun o ho => ?_) (fun i hi => ?_)))⟩))
    · rw [sw_c5 ha (show j < 5 from by omega), sw_c5 hb (show j < 5 from by omega), hs]
    · by_cases r : o = j
      · subst r; exact pk_us
      · rw [sh_ue5 r]; exact h1 o (by omega)
    · rw [pk_un (show i ≠ b * 5 + j from by omega)]
      exact h2 i (by omega)
theorem sl_ycp {post : Int32 → SY → Prop} {q h : Int32} {dw wo z co ma : Nat → Int32} {a b : Nat} (ha : a < 8) (hb : b < 8)
    (K : ∀ wo' : Nat → Int32, (∀ i, i < 4 → wo' (4 * b + i) = wo (4 * a + i)) → (∀ i, i < 4 * b ∨ 4 * b + 4 ≤ i → wo' i = wo i) →
      post (z a) (q, h, dw, wo', upd z b (z a), co, upd ma b 0)) :
    ∀ (d j : Nat) (wo' : Nat → Int32), j + d = 4 → (∀ i, i < j → wo' (4 * b + i) = wo (4 * a + i)) → (∀ i, i < 4 * b ∨ 4 * b + j ≤ i → wo' i = wo i) →
      wY_copy_32 post (nI a) (nI b) q h (d + 1) (nI j) dw wo' z co ma := by
  intro d
  induction d with
  | zero =>
    intro j wo' hj h1 h2
    have e1 : j = 4 := by omega
    subst e1
    have ez : upd z b (z a) a = z a := by
      by_cases r : a = b
      · subst r; exact pk_us
      · exact pk_un r
    refine br_t (nI_le (a := 4) (by omega) (by omega)) ⟨sw_in ha, sw_in hb, nm_r (e' := upd z b (z a)) (by rw [sw_cl ha, sw_cl hb]) ⟨sw_in hb, nm_r (e' := upd ma b 0) (by rw [sw_cl hb]) ⟨sw_in ha, ?_⟩⟩⟩
    rw [sw_cl ha, ez]
    exact K wo' h1 h2
  | succ d ih =>
    intro j wo' hj h1 h2
    have hs : wo' (4 * a + j) = wo (4 * a + j) := h2 _ (by omega)
    refine br_f (nI_ge (b := 4) (by omega) (by omega)) ⟨sw_i4 ha (by omega), sw_i4 hb (by omega), nm_r (e' := upd wo' (4 * b + j) (wo (4 * a + j))) ?_ (nm_r (nI_1 j) (ih (j + 1) _ (by omega) (fun o ho => ?_) (fun i hi => ?_)))⟩
    · rw [sw_c4 ha (show j < 4 from by omega), sw_c4 hb (show j < 4 from by omega), hs]
    · by_cases r : o = j
      · subst r; exact pk_us
      · rw [pk_un (show 4 * b + o ≠ 4 * b + j from by omega)]; exact h1 o (by omega)
    · rw [pk_un (show i ≠ 4 * b + j from by omega)]
      exact h2 i (by omega)
theorem sl_xdg {post : Int32 → Prop} {q h : Int32} {dw z dm ce wo co ma : Nat → Int32} {e w : Nat} (R : sh_R z dm ce wo co ma) (he : e < 8) (hz : z e = nI w) (hw : w ≤ 4)
    (hp : post (sh_ds (fun i => wo (4 * e + i)) w)) :
    ∀ d j : Nat, j + d = w → wX_digest_14 post (nI e) q h dw z dm ce (d + 1) (sh_ds (fun i => wo (4 * e + i)) j) (nI j) := by
  intro d
  induction d with
  | zero =>
    intro j hj
    have e1 : j = w := by omega
    subst e1
    exact ⟨sw_in he, br_t (by rw [sw_cl he, hz]; exact nI_le (Nat.le_refl _) (by omega)) hp⟩
  | succ d ih =>
    intro j hj
    have hi := ih (j + 1) (by omega)
    obtain ⟨g1, g2⟩ := sh_dg R (i := j) he hz hw (by omega)
    refine ⟨sw_in he, br_f (by rw [sw_cl he, hz]; exact nI_ge (by omega) (by omega)) ⟨sw_in he, ?_⟩⟩
    rw [sw_cl he]
    by_cases r : dm e = nI j
    · refine br_t r (sw_sound he hw (by omega) hz ?_)
      rw [g1 r]
      exact nm_r (by rw [nI_1]; exact (sh_ds_s _ j).symm) (nm_r (nI_1 j) hi)
    · refine br_f r (sw_cell ⟨sw_i5 he (by omega), ?_⟩)
      rw [sw_c5 he (show j < 5 from by omega), g2 r]
      exact nm_r (by rw [nI_1]; exact (sh_ds_s _ j).symm) (nm_r (nI_1 j) hi)
theorem sl_ydg {post : Int32 → Prop} {q h : Int32} {dw wo z co ma : Nat → Int32} {e w : Nat} (he : e < 8) (hz : z e = nI w) (hw : w ≤ 4)
    (hp : post (sh_ds (fun i => wo (4 * e + i)) w)) :
    ∀ d j : Nat, j + d = w → wY_digest_14 post (nI e) q h dw wo z co ma (d + 1) (sh_ds (fun i => wo (4 * e + i)) j) (nI j) := by
  intro d
  induction d with
  | zero =>
    intro j hj
    have e1 : j = w := by omega
    subst e1
    exact ⟨sw_in he, br_t (by rw [sw_cl he, hz]; exact nI_le (Nat.le_refl _) (by omega)) hp⟩
  | succ d ih =>
    intro j hj
    have hi := ih (j + 1) (by omega)
    refine ⟨sw_in he, br_f (by rw [sw_cl he, hz]; exact nI_ge (by omega) (by omega)) ⟨sw_i4 he (by omega), ?_⟩⟩
    rw [sw_c4 he (show j < 4 from by omega)]
    exact nm_r (by rw [nI_1]; exact (sh_ds_s _ j).symm) (nm_r (nI_1 j) hi)
