/-! the relation, and the tails of read and damage -/
def i_Rel (_ : Nat) (u : SX) (v : SY) : Prop :=
  ∃ (n : Nat) (h : Int32) (dw z dm ce wo co ma : Nat → Int32), n ≤ 4 ∧ u = (nI n, h, dw, z, dm, ce) ∧ v = (nI n, h, dw, wo, z, co, ma) ∧ sh_R z dm ce wo co ma
theorem so_mk {k n : Nat} {h : Int32} {dw z dm ce wo co ma : Nat → Int32} (hn : n ≤ 4) (R : sh_R z dm ce wo co ma) : i_Rel k (nI n, h, dw, z, dm, ce) (nI n, h, dw, wo, z, co, ma) :=
  ⟨n, h, dw, z, dm, ce, wo, co, ma, hn, rfl, rfl, R⟩
theorem so_mk0 {k : Nat} {h : Int32} {dw z dm ce wo co ma : Nat → Int32} (R : sh_R z dm ce wo co ma) : i_Rel k (0, h, dw, z, dm, ce) (0, h, dw, wo, z, co, ma) :=
  so_mk (n := 0) (by omega) R
theorem so_ma {z dm ce wo co ma ma' : Nat → Int32} (R : sh_R z dm ce wo co ma) (h : ∀ i, i < 8 → ma' i = ma i) : sh_R z dm ce wo co ma' := by
  intro e he
  rw [h e he]
  exact R e he
theorem so_rdx {post : Int32 → SX → Prop} {q h : Int32} {dw z dm ce : Nat → Int32} {e i : Nat} (he : e < 8) (hi : i < 5) (hp : post (ce (e * 5 + i)) (q, h, dw, z, dm, ce)) :
    wX_read_51 post (nI e) (nI i) q h dw z dm ce := by
  unfold wX_read_51
  refine sw_cell ⟨sw_i5 he hi, ?_⟩
  rw [sw_c5 he hi]
  exact hp
theorem so_rdy {post : Int32 → SY → Prop} {q h : Int32} {dw wo z co ma : Nat → Int32} {e i : Nat} (he : e < 8) (hi : i < 4) (hp : post (wo (4 * e + i)) (q, h, dw, wo, z, co, ma)) :
    wY_read_65 post (nI e) (nI i) q h dw wo z co ma :=
  ⟨sw_i4 he hi, by rw [sw_c4 he hi]; exact hp⟩
theorem so_dmx {post : Int32 → SX → Prop} {q h m : Int32} {dw z dm ce : Nat → Int32} {e c w : Nat} (he : e < 8) (hw : w ≤ 4) (hc : c < 5) (hz : z e = nI w)
    (h1 : upd ce (e * 5 + c) (ce (e * 5 + c) ^^^ m) (e * 5 + c) = sh_sx (fun o => upd ce (e * 5 + c) (ce (e * 5 + c) ^^^ m) (e * 5 + o)) c (w + 1) → post 0 (q, h, dw, z, upd dm e (-5), upd ce (e * 5 + c) (ce (e * 5 + c) ^^^ m)))
    (h2 : ¬ upd ce (e * 5 + c) (ce (e * 5 + c) ^^^ m) (e * 5 + c) = sh_sx (fun o => upd ce (e * 5 + c) (ce (e * 5 + c) ^^^ m) (e * 5 + o)) c (w + 1) → post 1 (q, h, dw, z, upd dm e (nI c), upd ce (e * 5 + c) (ce (e * 5 + c) ^^^ m))) :
    wX_damage_57 post (nI e) (nI c) m q h dw z dm ce := by
  unfold wX_damage_57
  refine sw_cell ⟨sw_i5 he hc, sw_i5 he hc, nm_r (e' := upd ce (e * 5 + c) (ce (e * 5 + c) ^^^ m)) (by rw [sw_c5 he hc]) ?_⟩
  refine sw_cell ⟨sw_i5 he hc, sw_sound he hw hc hz ?_⟩
  rw [sw_c5 he hc]
  refine ⟨fun r => ?_, fun r => ?_⟩
  · exact br_f (by decide) ⟨sw_in he, nm_r (e' := upd dm e (-5)) (by rw [sw_cl he]) (br_f (by decide) (h1 r))⟩
  · exact br_t rfl ⟨sw_in he, nm_r (e' := upd dm e (nI c)) (by rw [sw_cl he]) (br_t rfl (h2 r))⟩
theorem so_dmy {post : Int32 → SY → Prop} {q h m : Int32} {dw wo z co ma : Nat → Int32} {e c : Nat} (he : e < 8)
    (h1 : ma e ^^^ m = 0 → post 0 (q, h, dw, wo, z, upd co e (nI c), upd ma e (ma e ^^^ m))) (h2 : ¬ ma e ^^^ m = 0 → post 1 (q, h, dw, wo, z, upd co e (nI c), upd ma e (ma e ^^^ m))) :
    wY_damage_60 post (nI e) (nI c) m q h dw wo z co ma := by
  refine ⟨sw_in he, nm_r (e' := upd co e (nI c)) (by rw [sw_cl he]) ⟨sw_in he, sw_in he, nm_r (e' := upd ma e (ma e ^^^ m)) (by rw [sw_cl he]) ⟨sw_in he, ?_⟩⟩⟩
  rw [sw_cl he, pk_us]
  exact ⟨h1, h2⟩
/-- both sides' damage from where the tests have passed: one answer, related states -/
theorem so_dmg {k n : Nat} {h : Int32} {dw z dm ce wo co ma : Nat → Int32} (hn : n ≤ 4) (R : sh_R z dm ce wo co ma) {e c w : Nat} (m : Int32) (he : e < 8) (hz : z e = nI w) (hw : w ≤ 4) (h0 : 0 < w) (hc : c ≤ w) (hm : ma e = 0 ∨ co e = nI c) :
    ∃ (r : Int32) (u : SX) (v : SY), (∀ post : Int32 → SX → Prop, post r u → wX_damage_57 post (nI e) (nI c) m (nI n) h dw z dm ce) ∧ (∀ post : Int32 → SY → Prop, post r v → wY_damage_60 post (nI e) (nI c) m (nI n) h dw wo z co ma) ∧ i_Rel k u v := by
  obtain ⟨D1, D2, D3⟩ := sh_dmg R m he hz hw h0 hc hm
  by_cases q1 : ma e ^^^ m = 0
  · exact ⟨0, _, _, fun post hp => so_dmx he hw (by omega) hz (fun _ => hp) (fun r => absurd (D1.mpr q1) r), fun post hp => so_dmy he (fun _ => hp) (fun r => absurd q1 r), so_mk hn (D2 q1)⟩
  · exact ⟨1, _, _, fun post hp => so_dmx he hw (by omega) hz (fun r => absurd (D1.mp r) q1) (fun _ => hp), fun post hp => so_dmy he (fun r => absurd r q1) (fun _ => hp), so_mk hn (D3 q1)⟩
