/-! what each call does with the relation, without the walks -/
theorem sh_heal {z dm ce wo co ma : Nat → Int32} (h : sh_R z dm ce wo co ma) {e : Nat} (he : e < 8) (hm : ¬ ma e = 0) :
    ∃ w c : Nat, 0 < w ∧ w ≤ 4 ∧ c ≤ w ∧ z e = nI w ∧ dm e = nI c ∧ co e = nI c ∧
      sh_R z (upd dm e (-5)) (upd ce (e * 5 + c) (sh_sx (fun o => ce (e * 5 + o)) c (w + 1))) wo co (upd ma e 0) := by
  obtain ⟨w, hw, hz, hd⟩ := sh_Ext_cases (h e he)
  rcases hd with ⟨h0, _⟩ | ⟨_, h0, c, hcw, hco, hdm, hfc, hn⟩
  · exact absurd h0 hm
  · refine ⟨w, c, h0, hw, hcw, hz, hdm, hco, ?_⟩
    refine sh_R_set e h (fun _ _ => rfl) (fun j hj => pk_un hj) (sh_un5 (by omega)) (fun _ _ _ _ => rfl) (fun _ _ => rfl) (fun j hj => pk_un hj) ?_
    rw [pk_us, pk_us, hz]
    refine sh_Ext_ok _ hw (fun _ o ho => ?_)
    show upd ce (e * 5 + c) _ (e * 5 + o) = _
    by_cases q : o = c
    · subst q
      rw [pk_us]
      exact sh_sound hcw hn
    · rw [sh_ue5 q]
      exact hn o ho q
/-- the word that a read answers, where no data column is damaged -/
theorem sh_rd {z dm ce wo co ma : Nat → Int32} (h : sh_R z dm ce wo co ma) {e i w : Nat} (he : e < 8) (hz : z e = nI w) (hw : w ≤ 4) (hi : i < w) (hm : ma e = 0 ∨ co e = z e) :
    ce (e * 5 + i) = wo (4 * e + i) := by
  obtain ⟨w', hw', hz', hd⟩ := sh_Ext_cases (h e he)
  have e1 : w' = w := (nI_eq (by omega) (by omega)).mp (hz'.symm.trans hz)
  subst e1
  rcases hd with ⟨_, _, hn⟩ | ⟨hm', _, c, hcw, hco, hdm, hfc, hn⟩
  · have := hn (by omega) i (by omega)
    rw [sh_p_w hi] at this
    exact this
  · rcases hm with q | q
    · exact absurd q hm'
    · have e2 : c = w' := (nI_eq (by omega) (by omega)).mp (hco.symm.trans (q.trans hz'))
      have := hn i (by omega) (by omega)
      rw [sh_p_w hi] at this
      exact this
/-- the word that a digest takes -/
theorem sh_dg {z dm ce wo co ma : Nat → Int32} (h : sh_R z dm ce wo co ma) {e i w : Nat} (he : e < 8) (hz : z e = nI w) (hw : w ≤ 4) (hi : i < w) :
    (dm e = nI i → sh_sx (fun o => ce (e * 5 + o)) i (w + 1) = wo (4 * e + i)) ∧ (¬ dm e = nI i → ce (e * 5 + i) = wo (4 * e + i)) := by
  obtain ⟨w', hw', hz', hd⟩ := sh_Ext_cases (h e he)
  have e1 : w' = w := (nI_eq (by omega) (by omega)).mp (hz'.symm.trans hz)
  subst e1
  rcases hd with ⟨_, hdm, hn⟩ | ⟨hm', _, c, hcw, hco, hdm, hfc, hn⟩
  · constructor
    · intro q
      exact absurd (q.symm.trans hdm) (sh_m5 (by omega))
    · intro _
      have := hn (by omega) i (by omega)
      rw [sh_p_w hi] at this
      exact this
  · constructor
    · intro q
      have e2 : i = c := (nI_eq (by omega) (by omega)).mp (q.symm.trans hdm)
      subst e2
      have := sh_sound (f := fun o => ce (e * 5 + o)) (g := fun i => wo (4 * e + i)) (c := i) hcw hn
      rw [sh_p_w hi] at this
      exact this
    · intro q
      have := hn i (by omega) (fun z => q (by rw [z]; exact hdm))
      rw [sh_p_w hi] at this
      exact this
theorem sh_dmg {z dm ce wo co ma : Nat → Int32} (h : sh_R z dm ce wo co ma) {e c w : Nat} (mask : Int32) (he : e < 8) (hz : z e = nI w) (hw : w ≤ 4) (h0 : 0 < w) (hc : c ≤ w) (hm : ma e = 0 ∨ co e = nI c) :
    (upd ce (e * 5 + c) (ce (e * 5 + c) ^^^ mask) (e * 5 + c) = sh_sx (fun o => upd ce (e * 5 + c) (ce (e * 5 + c) ^^^ mask) (e * 5 + o)) c (w + 1) ↔ ma e ^^^ mask = 0) ∧
    (ma e ^^^ mask = 0 → sh_R z (upd dm e (-5)) (upd ce (e * 5 + c) (ce (e * 5 + c) ^^^ mask)) wo (upd co e (nI c)) (upd ma e (ma e ^^^ mask))) ∧
    (¬ ma e ^^^ mask = 0 → sh_R z (upd dm e (nI c)) (upd ce (e * 5 + c) (ce (e * 5 + c) ^^^ mask)) wo (upd co e (nI c)) (upd ma e (ma e ^^^ mask))) := by
  obtain ⟨w', hw', hz', hd⟩ := sh_Ext_cases (h e he)
  have e1 : w' = w := (nI_eq (by omega) (by omega)).mp (hz'.symm.trans hz)
  subst e1
  have hcn : ce (e * 5 + c) = sh_p (fun i => wo (4 * e + i)) w' c ^^^ ma e ∧ ∀ o, o ≤ w' → o ≠ c → ce (e * 5 + o) = sh_p (fun i => wo (4 * e + i)) w' o := by
    rcases hd with ⟨hm0, hdm, hn⟩ | ⟨hm', _, c', hcw, hco, hdm, hfc, hn⟩
    · refine ⟨?_, fun o ho _ => hn h0 o ho⟩
      rw [hm0, Int32.xor_zero]
      exact hn h0 c hc
    · rcases hm with q | q
      · exact absurd q hm'
      · have e2 : c' = c := (nI_eq (by omega) (by omega)).mp (hco.symm.trans q)
        subst e2
        exact ⟨hfc, hn⟩
  obtain ⟨hfc, hn⟩ := hcn
  have hnew : ce (e * 5 + c) ^^^ mask = sh_p (fun i => wo (4 * e + i)) w' c ^^^ (ma e ^^^ mask) := by
    rw [hfc, Int32.xor_assoc]
  have hs : sh_sx (fun o => upd ce (e * 5 + c) (ce (e * 5 + c) ^^^ mask) (e * 5 + o)) c (w' + 1) = sh_p (fun i => wo (4 * e + i)) w' c :=
    sh_sound hc (fun o ho q => by
      show upd ce (e * 5 + c) (ce (e * 5 + c) ^^^ mask) (e * 5 + o) = _
      rw [sh_ue5 q]
      exact hn o ho q)
  refine ⟨?_, fun q => ?_, fun q => ?_⟩
  · rw [hs, pk_us, hnew]
    constructor
    · intro q
      have q2 : sh_p (fun i => wo (4 * e + i)) w' c ^^^ (ma e ^^^ mask) = sh_p (fun i => wo (4 * e + i)) w' c ^^^ 0 := by rw [q, Int32.xor_zero]
      exact (Int32.xor_right_inj _).mp q2
    · intro q
      rw [q, Int32.xor_zero]
  · refine sh_R_set e h (fun _ _ => rfl) (fun j hj => pk_un hj) (sh_un5 (by omega)) (fun _ _ _ _ => rfl) (fun j hj => pk_un hj) (fun j hj => pk_un hj) ?_
    rw [pk_us, pk_us, pk_us, hz, q]
    refine sh_Ext_ok _ hw (fun _ o ho => ?_)
    show upd ce (e * 5 + c) _ (e * 5 + o) = _
    by_cases r : o = c
    · subst r
      rw [pk_us, hnew, q, Int32.xor_zero]
    · rw [sh_ue5 r]
      exact hn o ho r
  · refine sh_R_set e h (fun _ _ => rfl) (fun j hj => pk_un hj) (sh_un5 (by omega)) (fun _ _ _ _ => rfl) (fun j hj => pk_un hj) (fun j hj => pk_un hj) ?_
    rw [pk_us, pk_us, pk_us, hz]
    refine sh_Ext_bad hw h0 hc q ?_ (fun o ho r => ?_)
    · show upd ce (e * 5 + c) _ (e * 5 + c) = _
      rw [pk_us]
      exact hnew
    · show upd ce (e * 5 + c) _ (e * 5 + o) = _
      rw [sh_ue5 r]
      exact hn o ho r
/-- lose, at one extent: the column is 0, and then rebuilt if it is one of the extent's -/
theorem sh_los0 {z dm ce wo co ma : Nat → Int32} (h : sh_R z dm ce wo co ma) {e d w : Nat} (v : Int32) (hz : z e = nI w) (hw : w ≤ 4) (he : e < 8) (hd : d < 5) (hq : w = 0 ∨ w < d) :
    sh_R z dm (upd ce (e * 5 + d) v) wo co ma := by
  refine sh_R_set e h (fun _ _ => rfl) (fun _ _ => rfl) (sh_un5 hd) (fun _ _ _ _ => rfl) (fun _ _ => rfl) (fun _ _ => rfl) ?_
  obtain ⟨w', hw', hz', hdd, hc⟩ := h e he
  have e1 : w' = w := (nI_eq (by omega) (by omega)).mp (hz'.symm.trans hz)
  subst e1
  refine ⟨w', hw', hz', hdd, fun h0 o ho => ?_⟩
  show upd ce (e * 5 + d) _ (e * 5 + o) = _
  rw [sh_ue5 (show o ≠ d from by omega)]
  exact hc h0 o ho
theorem sh_los1 {z dm ce wo co ma : Nat → Int32} (h : sh_R z dm ce wo co ma) {e d w : Nat} (v : Int32) (hz : z e = nI w) (hw : w ≤ 4) (he : e < 8) (hd : d ≤ w) (h0 : 0 < w) (hm : ma e = 0) :
    sh_R z dm (upd (upd ce (e * 5 + d) v) (e * 5 + d) (sh_sx (fun o => upd ce (e * 5 + d) v (e * 5 + o)) d (w + 1))) wo co ma := by
  refine sh_R_set e h (fun _ _ => rfl) (fun _ _ => rfl) (fun j o hj ho => ?_) (fun _ _ _ _ => rfl) (fun _ _ => rfl) (fun _ _ => rfl) ?_
  · rw [sh_un5 (show d < 5 from by omega) j o hj ho, sh_un5 (show d < 5 from by omega) j o hj ho]
  · obtain ⟨w', hw', hz', hdd⟩ := sh_Ext_cases (h e he)
    have e1 : w' = w := (nI_eq (by omega) (by omega)).mp (hz'.symm.trans hz)
    subst e1
    rcases hdd with ⟨_, hdm, hn⟩ | ⟨hm', _⟩
    · rw [hz, hm, hdm]
      refine sh_Ext_ok _ hw (fun _ o ho => ?_)
      show upd (upd ce (e * 5 + d) v) (e * 5 + d) _ (e * 5 + o) = _
      by_cases r : o = d
      · subst r
        rw [pk_us]
        refine sh_sound hd (fun o' ho' q => ?_)
        show upd ce (e * 5 + o) v (e * 5 + o') = _
        rw [sh_ue5 q]
        exact hn h0 o' ho'
      · rw [sh_ue5 r, sh_ue5 r]
        exact hn h0 o ho
    · exact absurd hm hm'
theorem sh_cpy {z dm ce wo co ma ce' wo' : Nat → Int32} (h : sh_R z dm ce wo co ma) {a b : Nat} (ha : a < 8) (hm : ma a = 0)
    (h1 : ∀ o, o < 5 → ce' (b * 5 + o) = ce (a * 5 + o)) (h2 : ∀ j, j < b * 5 ∨ b * 5 + 5 ≤ j → ce' j = ce j)
    (h3 : ∀ i, i < 4 → wo' (4 * b + i) = wo (4 * a + i)) (h4 : ∀ j, j < 4 * b ∨ 4 * b + 4 ≤ j → wo' j = wo j) :
    sh_R (upd z b (z a)) (upd dm b (-5)) ce' wo' co (upd ma b 0) := by
  refine sh_R_set b h (fun j hj => pk_un hj) (fun j hj => pk_un hj) (fun j o hj ho => h2 _ (by omega)) (fun j i hj hi => h4 _ (by omega)) (fun _ _ => rfl) (fun j hj => pk_un hj) ?_
  obtain ⟨w, hw, hz, hd⟩ := sh_Ext_cases (h a ha)
  rcases hd with ⟨_, hdm, hn⟩ | ⟨hm', _⟩
  · rw [pk_us, pk_us, pk_us, hz]
    exact sh_Ext_congr (f := fun o => ce (a * 5 + o)) (g := fun i => wo (4 * a + i)) (sh_Ext_ok _ hw hn) h1 h3
  · exact absurd hm hm'
theorem sh_put {z dm ce wo co ma ce' wo' : Nat → Int32} (h : sh_R z dm ce wo co ma) {e n : Nat} {dw : Nat → Int32} (h0 : 0 < n) (hn : n ≤ 4)
    (h1 : ∀ o, o < n → ce' (e * 5 + o) = dw o) (h2 : ∀ j, j < e * 5 ∨ e * 5 + n ≤ j → ce' j = ce j)
    (h3 : ∀ i, i < n → wo' (4 * e + i) = dw i) (h4 : ∀ j, j < 4 * e ∨ 4 * e + n ≤ j → wo' j = wo j) :
    sh_R (upd z e (nI n)) (upd dm e (-5)) (upd ce' (e * 5 + n) (sh_sx (fun o => ce' (e * 5 + o)) n (n + 1))) wo' co (upd ma e 0) := by
  refine sh_R_set e h (fun j hj => pk_un hj) (fun j hj => pk_un hj) (fun j o hj ho => ?_) (fun j i hj hi => h4 _ (by omega)) (fun _ _ => rfl) (fun j hj => pk_un hj) ?_
  · rw [sh_un5 (show n < 5 from by omega) j o hj ho]
    exact h2 _ (by omega)
  · rw [pk_us, pk_us, pk_us]
    refine sh_Ext_ok _ hn (fun _ o ho => ?_)
    show upd ce' (e * 5 + n) _ (e * 5 + o) = _
    by_cases q : o = n
    · subst q
      rw [pk_us, sh_p_p, sh_sx_c, sh_sx_miss (Nat.le_refl _)]
      exact sh_px_congr (fun i hi => (h1 i hi).trans (h3 i hi).symm)
    · rw [sh_ue5 q, sh_p_w (show o < n from by omega)]
      exact (h1 o (by omega)).trans (h3 o (by omega)).symm
theorem sh_del {z dm ce wo co ma : Nat → Int32} (h : sh_R z dm ce wo co ma) {e : Nat} : sh_R (upd z e 0) (upd dm e (-5)) ce wo co (upd ma e 0) := by
  refine sh_R_set e h (fun j hj => pk_un hj) (fun j hj => pk_un hj) (fun _ _ _ _ => rfl) (fun _ _ _ _ => rfl) (fun _ _ => rfl) (fun j hj => pk_un hj) ?_
  rw [pk_us, pk_us, pk_us]
  exact sh_Ext_0 _ _ _
theorem sh_new {dm ce wo co ma : Nat → Int32} (h1 : ∀ e, e < 8 → dm e = -5) (h2 : ∀ e, e < 8 → ma e = 0) : sh_R (fun _ => 0) dm ce wo co ma := by
  intro e he
  rw [h1 e he, h2 e he]
  exact sh_Ext_0 _ _ _
