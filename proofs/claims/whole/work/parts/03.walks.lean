/-! the walks of the private methods, and the loops, each over a general post -/
theorem sw_cl {e : Nat} (he : e < 8) : (nI e).toNatClampNeg = e := nI_clamp (by omega)
theorem sw_in {e : Nat} (he : e < 8) : vp_in (nI e) 8 := vp_in_nI he (by omega)
theorem sw_c5 {e o : Nat} (he : e < 8) (ho : o < 5) : (nI (e * 5 + o)).toNatClampNeg = e * 5 + o := nI_clamp (by omega)
theorem sw_i5 {e o : Nat} (he : e < 8) (ho : o < 5) : vp_in (nI (e * 5 + o)) 40 := vp_in_nI (by omega) (by omega)
theorem sw_i4 {e i : Nat} (he : e < 8) (hi : i < 4) : vp_in (4 * nI e + nI i) 32 := by
  rw [sh_word]
  exact vp_in_nI (by omega) (by omega)
theorem sw_c4 {e i : Nat} (he : e < 8) (hi : i < 4) : (4 * nI e + nI i).toNatClampNeg = 4 * e + i := by
  rw [sh_word]
  exact nI_clamp (by omega)
theorem sw_8t {j : Nat} (h : j = 8) : (8 : Int32) ≤ nI j := by subst h; exact nI_le (a := 8) (by omega) (by omega)
theorem sw_8f {j : Nat} (h : j < 8) : ¬ (8 : Int32) ≤ nI j := nI_ge (b := 8) h (by omega)
theorem sw_nz {w : Nat} (h0 : 0 < w) (hw : w ≤ 4) : ¬ nI w = 0 := nI_ne0 h0 (by omega)
theorem sw_xin {e : Nat} (he : e < 8) {post : Int32 → Prop} {u : SX} (hp : post 1) : wpX_isExtent post u (nI e) := by
  obtain ⟨q, h, dw, z, dm, ce⟩ := u
  exact br_f (nI_pos (by omega)) (br_f (sw_8f he) hp)
theorem sw_yin {e : Nat} (he : e < 8) {post : Int32 → Prop} {u : SY} (hp : post 1) : wpY_isExtent post u (nI e) := by
  obtain ⟨q, h, dw, wo, z, co, ma⟩ := u
  exact br_f (nI_pos (by omega)) (br_f (nI_nlt (a := 7) (b := e) (by omega) (by omega)) hp)
theorem sw_ext (v : Int32) : (∃ e : Nat, e < 8 ∧ v = nI e) ∨ ((∀ (post : Int32 → Prop) (u : SX), post 0 → wpX_isExtent post u v) ∧ (∀ (post : Int32 → Prop) (u : SY), post 0 → wpY_isExtent post u v)) := by
  by_cases h0 : v < 0
  · refine Or.inr ⟨fun post u hp => ?_, fun post u hp => ?_⟩
    · obtain ⟨q, h, dw, z, dm, ce⟩ := u
      exact br_t h0 hp
    · obtain ⟨q, h, dw, wo, z, co, ma⟩ := u
      exact br_t h0 hp
  · obtain ⟨j, hj, rfl⟩ := nI_of h0
    by_cases h8 : j < 8
    · exact Or.inl ⟨j, h8, rfl⟩
    · refine Or.inr ⟨fun post u hp => ?_, fun post u hp => ?_⟩
      · obtain ⟨q, h, dw, z, dm, ce⟩ := u
        exact br_f h0 (br_t (nI_le (a := 8) (by omega) hj) hp)
      · obtain ⟨q, h, dw, wo, z, co, ma⟩ := u
        exact br_f h0 (br_t (nI_lt (a := 7) (by omega) hj) hp)
theorem sw_cell {e o : Nat} {post : Int32 → Prop} {u : SX} (hp : post (nI (e * 5 + o))) : wpX_cellOf post u (nI e) (nI o) := by
  obtain ⟨q, h, dw, z, dm, ce⟩ := u
  show post (nI e * 5 + nI o)
  rw [sh_cell]
  exact hp
theorem sw_par {e : Nat} (he : e < 8) {post : Int32 → Prop} {q h : Int32} {dw z dm ce : Nat → Int32} (hp : post (z e)) : wpX_parityColumn post (q, h, dw, z, dm, ce) (nI e) :=
  ⟨sw_in he, by rw [sw_cl he]; exact hp⟩
theorem sw_hd0 {e : Nat} (he : e < 8) {post : Int32 → Prop} {q h : Int32} {dw z dm ce : Nat → Int32} (hd : dm e = -5) (hp : post 0) : wpX_hasDamage post (q, h, dw, z, dm, ce) (nI e) :=
  ⟨sw_in he, br_t (by rw [sw_cl he]; exact hd) hp⟩
theorem sw_hd1 {e : Nat} (he : e < 8) {post : Int32 → Prop} {q h : Int32} {dw z dm ce : Nat → Int32} (hd : ¬ dm e = -5) (hp : post 1) : wpX_hasDamage post (q, h, dw, z, dm, ce) (nI e) :=
  ⟨sw_in he, br_f (by rw [sw_cl he]; exact hd) hp⟩
theorem sw_ab1 {e : Nat} (he : e < 8) {post : Int32 → Prop} {q h : Int32} {dw z dm ce : Nat → Int32} (hz : z e = 0) (hp : post 1) : wpX_isAbsent post (q, h, dw, z, dm, ce) (nI e) :=
  ⟨sw_in he, br_t (by rw [sw_cl he]; exact hz) hp⟩
theorem sw_ab0 {e : Nat} (he : e < 8) {post : Int32 → Prop} {q h : Int32} {dw z dm ce : Nat → Int32} (hz : ¬ z e = 0) (hp : post 0) : wpX_isAbsent post (q, h, dw, z, dm, ce) (nI e) :=
  ⟨sw_in he, br_f (by rw [sw_cl he]; exact hz) hp⟩
theorem sw_soundL {e c w : Nat} (he : e < 8) (hw : w ≤ 4) (hc : c < 5) {post : Int32 → Prop} {q h : Int32} {dw z dm ce : Nat → Int32} (hp : post (sh_sx (fun o => ce (e * 5 + o)) c (w + 1))) :
    ∀ d j : Nat, j + d = w + 1 → wX_soundColumn_12 post (nI e) (nI c) (nI w) q h dw z dm ce (d + 1) (sh_sx (fun o => ce (e * 5 + o)) c j) (nI j) := by
  intro d
  induction d with
  | zero =>
    intro j hj
    have e1 : j = w + 1 := by omega
    subst e1
    exact br_t (nI_lt (by omega) (by omega)) hp
  | succ d ih =>
    intro j hj
    have hn : ¬ nI w < nI j := nI_nlt (by omega) (by omega)
    have hi := ih (j + 1) (by omega)
    by_cases q1 : j = c
    · subst q1
      rw [sh_sx_c] at hi
      exact br_f hn (br_t rfl (nm_r (nI_1 j) hi))
    · have hne : ¬ nI j = nI c := fun r => q1 ((nI_eq (by omega) (by omega)).mp r)
      refine br_f hn (br_f hne (sw_cell ⟨sw_i5 he (by omega), nm_r (e' := sh_sx (fun o => ce (e * 5 + o)) c (j + 1)) ?_ (nm_r (nI_1 j) hi)⟩))
      rw [sw_c5 he (show j < 5 from by omega), sh_sx_n q1]
theorem sw_sound {e c w : Nat} (he : e < 8) (hw : w ≤ 4) (hc : c < 5) {post : Int32 → Prop} {q h : Int32} {dw z dm ce : Nat → Int32} (hz : z e = nI w) (hp : post (sh_sx (fun o => ce (e * 5 + o)) c (w + 1))) :
    wpX_soundColumn post (q, h, dw, z, dm, ce) (nI e) (nI c) := by
  unfold wpX_soundColumn
  dsimp only
  refine sw_par he ?_
  rw [hz]
  exact ⟨w + 1 + 1, sw_soundL he hw hc hp (w + 1) 0 (by omega)⟩
theorem sw_reb {e c w : Nat} (he : e < 8) (hw : w ≤ 4) (hc : c < 5) {post : SX → Prop} {q h : Int32} {dw z dm ce : Nat → Int32} (hz : z e = nI w)
    (hp : post (q, h, dw, z, dm, upd ce (e * 5 + c) (sh_sx (fun o => ce (e * 5 + o)) c (w + 1)))) :
    wpX_rebuildColumn post (q, h, dw, z, dm, ce) (nI e) (nI c) := by
  unfold wpX_rebuildColumn
  dsimp only
  refine sw_cell ?_
  refine sw_sound he hw hc hz ?_
  exact ⟨sw_i5 he hc, nm_r (by rw [sw_c5 he hc]) hp⟩
theorem sw_heal {e c w : Nat} (he : e < 8) (hw : w ≤ 4) (hc : c < 5) {post : SX → Prop} {q h : Int32} {dw z dm ce : Nat → Int32} (hz : z e = nI w) (hd : dm e = nI c)
    (hp : post (q, h + 1, dw, z, upd dm e (-5), upd ce (e * 5 + c) (sh_sx (fun o => ce (e * 5 + o)) c (w + 1)))) :
    wpX_heal post (q, h, dw, z, dm, ce) (nI e) := by
  unfold wpX_heal
  dsimp only
  rw [sw_cl he, hd]
  refine ⟨sw_in he, sw_reb he hw hc hz ?_⟩
  exact ⟨sw_in he, nm_e (nm_e hp)⟩
theorem sw_any0L {post : Int32 → Prop} {q h : Int32} {dw z dm ce : Nat → Int32} (hd : ∀ i, i < 8 → dm i = -5) (hp : post 0) :
    ∀ d j : Nat, j + d = 8 → wX_anyDamage_2 post q h dw z dm ce (d + 1) (nI j) := by
  intro d
  induction d with
  | zero => intro j hj; exact br_t (sw_8t (by omega)) hp
  | succ d ih =>
    intro j hj
    exact br_f (sw_8f (by omega)) (sw_hd0 (by omega) (hd j (by omega)) (br_t rfl (nm_r (nI_1 j) (ih (j + 1) (by omega)))))
theorem sw_any1L {post : Int32 → Prop} {q h : Int32} {dw z dm ce : Nat → Int32} (hp : post 1) :
    ∀ d j : Nat, j + d = 8 → (∃ i, j ≤ i ∧ i < 8 ∧ ¬ dm i = -5) → wX_anyDamage_2 post q h dw z dm ce (d + 1) (nI j) := by
  intro d
  induction d with
  | zero => intro j hj ⟨i, h1, h2, _⟩; omega
  | succ d ih =>
    intro j hj ⟨i, h1, h2, h3⟩
    by_cases q1 : dm j = -5
    · have hij : j + 1 ≤ i := by
        rcases Nat.lt_or_ge j i with r | r
        · exact r
        · have e1 : i = j := by omega
          subst e1
          exact absurd q1 h3
      exact br_f (sw_8f (by omega)) (sw_hd0 (by omega) q1 (br_t rfl (nm_r (nI_1 j) (ih (j + 1) (by omega) ⟨i, hij, h2, h3⟩))))
    · exact br_f (sw_8f (by omega)) (sw_hd1 (by omega) q1 (br_f (by decide) hp))
theorem sw_ydeL {post : Int32 → Prop} {q h : Int32} {dw wo z co ma : Nat → Int32} (hp : post (nI (sh_cn ma 8))) :
    ∀ d j : Nat, j + d = 8 → wY_damagedExtents_4 post q h dw wo z co ma (d + 1) (nI (sh_cn ma j)) (nI j) := by
  intro d
  induction d with
  | zero =>
    intro j hj
    have e1 : j = 8 := by omega
    subst e1
    exact br_t (sw_8t rfl) hp
  | succ d ih =>
    intro j hj
    have hi := ih (j + 1) (by omega)
    have h8 : j < 8 := by omega
    by_cases q1 : ma j = 0
    · rw [sh_cn_0 q1] at hi
      exact br_f (sw_8f h8) ⟨sw_in h8, br_t (by rw [sw_cl h8]; exact q1) (nm_r (nI_1 j) hi)⟩
    · rw [sh_cn_1 q1] at hi
      exact br_f (sw_8f h8) ⟨sw_in h8, br_f (by rw [sw_cl h8]; exact q1) (nm_r (nI_1 _) (nm_r (nI_1 j) hi))⟩
theorem sw_yde {post : Int32 → Prop} {q h : Int32} {dw wo z co ma : Nat → Int32} (hp : post (nI (sh_cn ma 8))) : wpY_damagedExtents post (q, h, dw, wo, z, co, ma) :=
  ⟨9, sw_ydeL hp 8 0 rfl⟩
