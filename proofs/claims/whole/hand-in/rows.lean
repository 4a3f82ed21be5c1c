section
theorem pk_us {f : Nat → Int32} {k : Nat} {x : Int32} : upd f k x k = x := if_pos rfl
theorem pk_un {f : Nat → Int32} {k j : Nat} {x : Int32} (h : j ≠ k) : upd f k x j = f j := if_neg h
theorem pk_sub {a b : Nat} (h : b ≤ a) : nI a - nI b = nI (a - b) := by
  obtain ⟨c, rfl⟩ : ∃ c, a = c + b := ⟨a - b, by omega⟩
  rw [← nI_add, Int32.add_sub_cancel, Nat.add_sub_cancel]
theorem pk_m1 (n : Nat) : nI (n + 1) + (-1) = nI n := by
  rw [← nI_1, Int32.add_assoc, show (1 : Int32) + (-1) = 0 from rfl, Int32.add_zero]
theorem pk_mul (a b : Nat) : nI a * nI b = nI (a * b) := (Int32.ofNat_mul a b).symm
theorem pk_ix (x : Int32) {n : Nat} (hn : n < 2 ^ 31) : x < 0 ∨ nI n ≤ x ∨ ∃ j : Nat, j < n ∧ x = nI j := by
  by_cases h : x < 0
  · exact Or.inl h
  · obtain ⟨j, hj, rfl⟩ := nI_of h
    by_cases h2 : j < n
    · exact Or.inr (Or.inr ⟨j, h2, rfl⟩)
    · exact Or.inr (Or.inl (nI_le (by omega) hj))
theorem pk_le {x y : Int32} {A B : Prop} (a b : Nat) (f : a ≤ b → A) (g : b < a → B) (hx : x = nI a := by rfl) (hy : y = nI b := by rfl) (ha : a < 2 ^ 31 := by omega) (hb : b < 2 ^ 31 := by omega) : (x ≤ y → A) ∧ (¬ x ≤ y → B) := by
  subst hx hy
  rw [nI_leI ha hb]
  exact ⟨f, fun z => g (by omega)⟩
theorem pk_lt {x y : Int32} {A B : Prop} (a b : Nat) (f : a < b → A) (g : b ≤ a → B) (hx : x = nI a := by rfl) (hy : y = nI b := by rfl) (ha : a < 2 ^ 31 := by omega) (hb : b < 2 ^ 31 := by omega) : (x < y → A) ∧ (¬ x < y → B) := by
  subst hx hy
  rw [nI_ltI ha hb]
  exact ⟨f, fun z => g (by omega)⟩
theorem pk_eq {x y : Int32} {A B : Prop} (a b : Nat) (f : a = b → A) (g : a ≠ b → B) (hx : x = nI a := by rfl) (hy : y = nI b := by rfl) (ha : a < 2 ^ 31 := by omega) (hb : b < 2 ^ 31 := by omega) : (x = y → A) ∧ (¬ x = y → B) := by
  subst hx hy
  rw [nI_eq ha hb]
  exact ⟨f, g⟩
theorem pk_in {x : Int32} (n N : Nat) (h : n < N) (hx : x = nI n := by rfl) (hN : N < 2 ^ 31 := by omega) : vp_in x N := by
  subst hx
  exact vp_in_nI h hN
theorem pk_cl {x : Int32} (n : Nat) (hx : x = nI n := by rfl) (h : n < 2 ^ 31 := by omega) : x.toNatClampNeg = n := by
  subst hx
  exact nI_clamp h
theorem pk_loop {σ : Type} (W : Nat → Nat → σ → Prop) (I : Nat → σ → Prop) (e i0 : Nat) (s : σ) (hi : i0 ≤ e) (h0 : I i0 s) (hx : ∀ n s, I e s → W (n + 1) e s)
    (hs : ∀ n i s, i < e → I i s → (∀ s', I (i + 1) s' → W n (i + 1) s') → W (n + 1) i s) : ∃ n, W n i0 s :=
  ⟨e + 1, loop_i W I e hx hs (e + 1) i0 s hi (by omega) h0⟩
/-! the pure side: exclusive-ors of columns, what an extent is, what each call does with one -/
theorem sh_n5 : (5 : Int32) = nI 5 := rfl
theorem sh_n4 : (4 : Int32) = nI 4 := rfl
theorem sh_cell (e o : Nat) : nI e * 5 + nI o = nI (e * 5 + o) := by
  rw [sh_n5, pk_mul, nI_add]
theorem sh_word (e i : Nat) : 4 * nI e + nI i = nI (4 * e + i) := by
  rw [sh_n4, pk_mul, nI_add]
theorem sh_zx (a : Int32) : 0 ^^^ a = a := by rw [Int32.xor_comm, Int32.xor_zero]
theorem sh_xx (a b : Int32) : (a ^^^ b) ^^^ b = a := by rw [Int32.xor_assoc, Int32.xor_self, Int32.xor_zero]
def sh_px (f : Nat → Int32) : Nat → Int32
  | 0 => 0
  | n + 1 => sh_px f n ^^^ f n
def sh_sx (f : Nat → Int32) (c : Nat) : Nat → Int32
  | 0 => 0
  | n + 1 => if n = c then sh_sx f c n else sh_sx f c n ^^^ f n
theorem sh_px_s (f : Nat → Int32) (n : Nat) : sh_px f (n + 1) = sh_px f n ^^^ f n := rfl
theorem sh_sx_c (f : Nat → Int32) (c : Nat) : sh_sx f c (c + 1) = sh_sx f c c := if_pos rfl
theorem sh_sx_n {f : Nat → Int32} {c n : Nat} (h : n ≠ c) : sh_sx f c (n + 1) = sh_sx f c n ^^^ f n := if_neg h
theorem sh_px_congr {f g : Nat → Int32} : ∀ {n : Nat}, (∀ i, i < n → f i = g i) → sh_px f n = sh_px g n
  | 0, _ => rfl
  | n + 1, h => by
    rw [sh_px_s, sh_px_s, sh_px_congr (n := n) (fun i hi => h i (by omega)), h n (by omega)]
theorem sh_sx_congr {f g : Nat → Int32} {c : Nat} : ∀ {n : Nat}, (∀ i, i < n → i ≠ c → f i = g i) → sh_sx f c n = sh_sx g c n
  | 0, _ => rfl
  | n + 1, h => by
    have ih := sh_sx_congr (f := f) (g := g) (c := c) (n := n) (fun i hi hc => h i (by omega) hc)
    by_cases e : n = c
    · subst e
      rw [sh_sx_c, sh_sx_c, ih]
    · rw [sh_sx_n e, sh_sx_n e, ih, h n (by omega) e]
theorem sh_sx_miss {f : Nat → Int32} {c : Nat} : ∀ {n : Nat}, n ≤ c → sh_sx f c n = sh_px f n
  | 0, _ => rfl
  | n + 1, h => by
    rw [sh_sx_n (show n ≠ c from by omega), sh_px_s, sh_sx_miss (n := n) (show n ≤ c from by omega)]
theorem sh_sx_hit {f : Nat → Int32} {c : Nat} : ∀ {n : Nat}, c < n → sh_sx f c n ^^^ f c = sh_px f n
  | 0, h => by omega
  | n + 1, h => by
    by_cases e : n = c
    · subst e
      rw [sh_sx_c, sh_px_s, sh_sx_miss (Nat.le_refl _)]
    · rw [sh_sx_n e, sh_px_s, ← sh_sx_hit (f := f) (c := c) (n := n) (by omega), Int32.xor_assoc, Int32.xor_assoc, Int32.xor_comm (f n) (f c)]
/-- column c of an extent of w words g, sound -/
def sh_p (g : Nat → Int32) (w c : Nat) : Int32 := if c < w then g c else sh_px g w
theorem sh_p_w {g : Nat → Int32} {w c : Nat} (h : c < w) : sh_p g w c = g c := if_pos h
theorem sh_p_p (g : Nat → Int32) (w : Nat) : sh_p g w w = sh_px g w := if_neg (Nat.lt_irrefl w)
theorem sh_sound {f g : Nat → Int32} {w c : Nat} (hc : c ≤ w) (h : ∀ o, o ≤ w → o ≠ c → f o = sh_p g w o) : sh_sx f c (w + 1) = sh_p g w c := by
  rw [sh_sx_congr (f := f) (g := sh_p g w) (c := c) (n := w + 1) (fun i hi hn => h i (by omega) hn)]
  have h1 := sh_sx_hit (f := sh_p g w) (c := c) (n := w + 1) (by omega)
  rw [sh_px_s, sh_p_p, sh_px_congr (f := sh_p g w) (g := g) (n := w) (fun i hi => sh_p_w hi), Int32.xor_self] at h1
  exact Int32.xor_eq_zero_iff.mp h1
/-- what the damage is in column c -/
def sh_d (co m : Int32) (c : Nat) : Int32 := if co = nI c then m else 0
theorem sh_d_0 (co : Int32) (c : Nat) : sh_d co 0 c = 0 := by unfold sh_d; split <;> rfl
theorem sh_d_y (c : Nat) (m : Int32) : sh_d (nI c) m c = m := if_pos rfl
theorem sh_d_n {a c : Nat} (m : Int32) (ha : a < 2 ^ 31) (hc : c < 2 ^ 31) (h : a ≠ c) : sh_d (nI a) m c = 0 := if_neg (fun z => h ((nI_eq ha hc).mp z))
theorem sh_m5 {c : Nat} (h : c < 2 ^ 31) : nI c ≠ -5 := by
  intro z
  have h1 : (nI c).toInt = (-5 : Int32).toInt := by rw [z]
  rw [nI_toInt h, show (-5 : Int32).toInt = -5 from by decide] at h1
  omega
/-- one extent: X's size, damaged column and columns f; Y's words g, column and mask -/
def sh_Ext (z dm : Int32) (f g : Nat → Int32) (co ma : Int32) : Prop :=
  ∃ w : Nat, w ≤ 4 ∧ z = nI w ∧ ((ma = 0 ∧ dm = -5) ∨ (ma ≠ 0 ∧ 0 < w ∧ ∃ c : Nat, c ≤ w ∧ co = nI c ∧ dm = nI c)) ∧
    (0 < w → ∀ o, o ≤ w → f o = sh_p g w o ^^^ sh_d co ma o)
theorem sh_Ext_congr {z dm : Int32} {f g f' g' : Nat → Int32} {co ma : Int32} (h : sh_Ext z dm f g co ma) (hf : ∀ o, o < 5 → f' o = f o) (hg : ∀ i, i < 4 → g' i = g i) : sh_Ext z dm f' g' co ma := by
  obtain ⟨w, hw, hz, hd, hc⟩ := h
  refine ⟨w, hw, hz, hd, fun h0 o ho => ?_⟩
  rw [hf o (by omega), hc h0 o ho]
  have e : sh_px g' w = sh_px g w := sh_px_congr (fun i hi => hg i (by omega))
  by_cases q : o < w
  · rw [sh_p_w q, sh_p_w q, hg o (by omega)]
  · have : o = w := by omega
    subst this
    rw [sh_p_p, sh_p_p, e]
/-- sound extents -/
theorem sh_Ext_ok {w : Nat} {f g : Nat → Int32} (co : Int32) (hw : w ≤ 4) (hc : 0 < w → ∀ o, o ≤ w → f o = sh_p g w o) : sh_Ext (nI w) (-5) f g co 0 :=
  ⟨w, hw, rfl, Or.inl ⟨rfl, rfl⟩, fun h0 o ho => by rw [sh_d_0, Int32.xor_zero]; exact hc h0 o ho⟩
theorem sh_Ext_0 (f g : Nat → Int32) (co : Int32) : sh_Ext 0 (-5) f g co 0 :=
  sh_Ext_ok (w := 0) co (by omega) (fun h => absurd h (by omega))
/-- a damaged one -/
theorem sh_Ext_bad {w c : Nat} {f g : Nat → Int32} {m : Int32} (hw : w ≤ 4) (h0 : 0 < w) (hcw : c ≤ w) (hm : m ≠ 0) (hc : f c = sh_p g w c ^^^ m) (hn : ∀ o, o ≤ w → o ≠ c → f o = sh_p g w o) : sh_Ext (nI w) (nI c) f g (nI c) m := by
  refine ⟨w, hw, rfl, Or.inr ⟨hm, h0, c, hcw, rfl, rfl⟩, fun _ o ho => ?_⟩
  by_cases e : o = c
  · subst e
    rw [sh_d_y]; exact hc
  · rw [sh_d_n m (by omega) (by omega) (fun z => e z.symm), Int32.xor_zero]; exact hn o ho e
/-- an extent is sound, or damaged in a column: the two shapes -/
theorem sh_Ext_cases {z dm : Int32} {f g : Nat → Int32} {co ma : Int32} (h : sh_Ext z dm f g co ma) :
    ∃ w : Nat, w ≤ 4 ∧ z = nI w ∧ ((ma = 0 ∧ dm = -5 ∧ (0 < w → ∀ o, o ≤ w → f o = sh_p g w o)) ∨
      (ma ≠ 0 ∧ 0 < w ∧ ∃ c : Nat, c ≤ w ∧ co = nI c ∧ dm = nI c ∧ f c = sh_p g w c ^^^ ma ∧ ∀ o, o ≤ w → o ≠ c → f o = sh_p g w o)) := by
  obtain ⟨w, hw, hz, hd, hc⟩ := h
  refine ⟨w, hw, hz, ?_⟩
  rcases hd with ⟨hm, hd⟩ | ⟨hm, h0, c, hcw, hco, hd⟩
  · refine Or.inl ⟨hm, hd, fun h0 o ho => ?_⟩
    have := hc h0 o ho
    rw [hm, sh_d_0, Int32.xor_zero] at this
    exact this
  · refine Or.inr ⟨hm, h0, c, hcw, hco, hd, ?_, fun o ho hn => ?_⟩
    · have := hc h0 c hcw
      rw [hco, sh_d_y] at this
      exact this
    · have := hc h0 o ho
      rw [hco, sh_d_n ma (by omega) (by omega) (fun z => hn z.symm), Int32.xor_zero] at this
      exact this
/-- all extents: X's sizes, damaged columns, cells; Y's words, columns, masks -/
def sh_R (z dm ce wo co ma : Nat → Int32) : Prop :=
  ∀ e, e < 8 → sh_Ext (z e) (dm e) (fun o => ce (e * 5 + o)) (fun i => wo (4 * e + i)) (co e) (ma e)
theorem sh_R_set {z dm ce wo co ma z' dm' ce' wo' co' ma' : Nat → Int32} (e : Nat) (h : sh_R z dm ce wo co ma)
    (hz : ∀ j, j ≠ e → z' j = z j) (hd : ∀ j, j ≠ e → dm' j = dm j) (hce : ∀ j o, j ≠ e → o < 5 → ce' (j * 5 + o) = ce (j * 5 + o))
    (hwo : ∀ j i, j ≠ e → i < 4 → wo' (4 * j + i) = wo (4 * j + i)) (hco : ∀ j, j ≠ e → co' j = co j) (hma : ∀ j, j ≠ e → ma' j = ma j)
    (hE : sh_Ext (z' e) (dm' e) (fun o => ce' (e * 5 + o)) (fun i => wo' (4 * e + i)) (co' e) (ma' e)) : sh_R z' dm' ce' wo' co' ma' := by
  intro j hj
  by_cases q : j = e
  · subst q; exact hE
  · rw [hz j q, hd j q, hco j q, hma j q]
    exact sh_Ext_congr (h j hj) (fun o ho => hce j o q ho) (fun i hi => hwo j i q hi)
theorem sh_R_w {z dm ce wo co ma : Nat → Int32} (h : sh_R z dm ce wo co ma) {e : Nat} (he : e < 8) : ∃ w : Nat, w ≤ 4 ∧ z e = nI w := by
  obtain ⟨w, hw, hz, _⟩ := h e he
  exact ⟨w, hw, hz⟩
theorem sh_R_dm {z dm ce wo co ma : Nat → Int32} (h : sh_R z dm ce wo co ma) {e : Nat} (he : e < 8) : dm e = -5 ↔ ma e = 0 := by
  obtain ⟨w, hw, hz, hd, _⟩ := h e he
  rcases hd with ⟨hm, hd⟩ | ⟨hm, h0, c, hcw, hco, hd⟩
  · exact ⟨fun _ => hm, fun _ => hd⟩
  · exact ⟨fun q => absurd (hd.symm.trans q) (sh_m5 (by omega)), fun q => absurd q hm⟩
theorem sh_un5 {ce : Nat → Int32} {e c : Nat} {v : Int32} (hc : c < 5) : ∀ j o, j ≠ e → o < 5 → upd ce (e * 5 + c) v (j * 5 + o) = ce (j * 5 + o) :=
  fun j o hj ho => pk_un (by omega)
theorem sh_ue5 {ce : Nat → Int32} {e c o : Nat} {v : Int32} (h : o ≠ c) : upd ce (e * 5 + c) v (e * 5 + o) = ce (e * 5 + o) := pk_un (by omega)
/-- how many of the first n extents are damaged -/
def sh_cn (ma : Nat → Int32) : Nat → Nat
  | 0 => 0
  | n + 1 => if ma n = 0 then sh_cn ma n else sh_cn ma n + 1
theorem sh_cn_0 {ma : Nat → Int32} {n : Nat} (h : ma n = 0) : sh_cn ma (n + 1) = sh_cn ma n := if_pos h
theorem sh_cn_1 {ma : Nat → Int32} {n : Nat} (h : ¬ ma n = 0) : sh_cn ma (n + 1) = sh_cn ma n + 1 := if_neg h
theorem sh_cn_le (ma : Nat → Int32) : ∀ n, sh_cn ma n ≤ n
  | 0 => Nat.le_refl _
  | n + 1 => by
    have ih := sh_cn_le ma n
    by_cases h : ma n = 0
    · rw [sh_cn_0 h]; omega
    · rw [sh_cn_1 h]; omega
theorem sh_cn_z {ma : Nat → Int32} : ∀ {n : Nat}, sh_cn ma n = 0 ↔ ∀ j, j < n → ma j = 0
  | 0 => ⟨fun _ j hj => absurd hj (by omega), fun _ => rfl⟩
  | n + 1 => by
    have ih := sh_cn_z (ma := ma) (n := n)
    by_cases h : ma n = 0
    · rw [sh_cn_0 h, ih]
      constructor
      · intro q j hj
        by_cases e : j = n
        · subst e; exact h
        · exact q j (by omega)
      · intro q j hj
        exact q j (by omega)
    · rw [sh_cn_1 h]
      constructor
      · intro q; omega
      · intro q; exact absurd (q n (by omega)) h
/-- the digest's sum -/
def sh_ds (g : Nat → Int32) : Nat → Int32
  | 0 => 0
  | n + 1 => sh_ds g n + nI (n + 1) * g n
theorem sh_ds_s (g : Nat → Int32) (n : Nat) : sh_ds g (n + 1) = sh_ds g n + nI (n + 1) * g n := rfl
end
section
/-! what each call does with the relation, without the walks -/
theorem sh_heal {z dm ce wo co ma : Nat → Int32} (h : sh_R z dm ce wo co ma) {e : Nat} (he : e < 8) (hm : ¬ ma e = 0) :
    ∃ w c : Nat, 0 < w ∧ w ≤ 4 ∧ c ≤ w ∧ z e = nI w ∧ dm e = nI c ∧ co e = nI c ∧
      sh_R z (upd dm e (-5)) (upd ce (e * 5 + c) (sh_sx (fun o => ce (e * 5 + o)) c (w + 1))) wo co (upd ma e 0) := by
  obtain ⟨w, hw, hz, hd⟩ := sh_Ext_cases (h e he)
  rcases hd with ⟨h0, _⟩ | ⟨_, h0, c, hcw, hco, hdm, hfc, hn⟩
  · exact absurd h0 hm
  · refine ⟨w, c, h0, hw, hcw, hz, hdm, hco, ?_⟩
    refine sh_R_set e h (fun _ _ => rfl) (fun j hj => pk_un hj) (sh_un5 (by omega)) (fun _ _ _ _ => rfl) (fun _ _ => rfl) (fun j hj => pk_un hj) ?_
    rw [pk_us, pk_us, hz]
    refine sh_Ext_ok _ hw (fun _ o ho => ?_)
    show upd ce (e * 5 + c) _ (e * 5 + o) = _
    by_cases q : o = c
    · subst q
      rw [pk_us]
      exact sh_sound hcw hn
    · rw [sh_ue5 q]
      exact hn o ho q
/-- the word that a read answers, where no data column is damaged -/
theorem sh_rd {z dm ce wo co ma : Nat → Int32} (h : sh_R z dm ce wo co ma) {e i w : Nat} (he : e < 8) (hz : z e = nI w) (hw : w ≤ 4) (hi : i < w) (hm : ma e = 0 ∨ co e = z e) :
    ce (e * 5 + i) = wo (4 * e + i) := by
  obtain ⟨w', hw', hz', hd⟩ := sh_Ext_cases (h e he)
  have e1 : w' = w := (nI_eq (by omega) (by omega)).mp (hz'.symm.trans hz)
  subst e1
  rcases hd with ⟨_, _, hn⟩ | ⟨hm', _, c, hcw, hco, hdm, hfc, hn⟩
  · have := hn (by omega) i (by omega)
    rw [sh_p_w hi] at this
    exact this
  · rcases hm with q | q
    · exact absurd q hm'
    · have e2 : c = w' := (nI_eq (by omega) (by omega)).mp (hco.symm.trans (q.trans hz'))
      have := hn i (by omega) (by omega)
      rw [sh_p_w hi] at this
      exact this
/-- the word that a digest takes -/
theorem sh_dg {z dm ce wo co ma : Nat → Int32} (h : sh_R z dm ce wo co ma) {e i w : Nat} (he : e < 8) (hz : z e = nI w) (hw : w ≤ 4) (hi : i < w) :
    (dm e = nI i → sh_sx (fun o => ce (e * 5 + o)) i (w + 1) = wo (4 * e + i)) ∧ (¬ dm e = nI i → ce (e * 5 + i) = wo (4 * e + i)) := by
  obtain ⟨w', hw', hz', hd⟩ := sh_Ext_cases (h e he)
  have e1 : w' = w := (nI_eq (by omega) (by omega)).mp (hz'.symm.trans hz)
  subst e1
  rcases hd with ⟨_, hdm, hn⟩ | ⟨hm', _, c, hcw, hco, hdm, hfc, hn⟩
  · constructor
    · intro q
      exact absurd (q.symm.trans hdm) (sh_m5 (by omega))
    · intro _
      have := hn (by omega) i (by omega)
      rw [sh_p_w hi] at this
      exact this
  · constructor
    · intro q
      have e2 : i = c := (nI_eq (by omega) (by omega)).mp (q.symm.trans hdm)
      subst e2
      have := sh_sound (f := fun o => ce (e * 5 + o)) (g := fun i => wo (4 * e + i)) (c := i) hcw hn
      rw [sh_p_w hi] at this
      exact this
    · intro q
      have := hn i (by omega) (fun z => q (by rw [z]; exact hdm))
      rw [sh_p_w hi] at this
      exact this
theorem sh_dmg {z dm ce wo co ma : Nat → Int32} (h : sh_R z dm ce wo co ma) {e c w : Nat} (mask : Int32) (he : e < 8) (hz : z e = nI w) (hw : w ≤ 4) (h0 : 0 < w) (hc : c ≤ w) (hm : ma e = 0 ∨ co e = nI c) :
    (upd ce (e * 5 + c) (ce (e * 5 + c) ^^^ mask) (e * 5 + c) = sh_sx (fun o => upd ce (e * 5 + c) (ce (e * 5 + c) ^^^ mask) (e * 5 + o)) c (w + 1) ↔ ma e ^^^ mask = 0) ∧
    (ma e ^^^ mask = 0 → sh_R z (upd dm e (-5)) (upd ce (e * 5 + c) (ce (e * 5 + c) ^^^ mask)) wo (upd co e (nI c)) (upd ma e (ma e ^^^ mask))) ∧
    (¬ ma e ^^^ mask = 0 → sh_R z (upd dm e (nI c)) (upd ce (e * 5 + c) (ce (e * 5 + c) ^^^ mask)) wo (upd co e (nI c)) (upd ma e (ma e ^^^ mask))) := by
  obtain ⟨w', hw', hz', hd⟩ := sh_Ext_cases (h e he)
  have e1 : w' = w := (nI_eq (by omega) (by omega)).mp (hz'.symm.trans hz)
  subst e1
  have hcn : ce (e * 5 + c) = sh_p (fun i => wo (4 * e + i)) w' c ^^^ ma e ∧ ∀ o, o ≤ w' → o ≠ c → ce (e * 5 + o) = sh_p (fun i => wo (4 * e + i)) w' o := by
    rcases hd with ⟨hm0, hdm, hn⟩ | ⟨hm', _, c', hcw, hco, hdm, hfc, hn⟩
    · refine ⟨?_, fun o ho _ => hn h0 o ho⟩
      rw [hm0, Int32.xor_zero]
      exact hn h0 c hc
    · rcases hm with q | q
      · exact absurd q hm'
      · have e2 : c' = c := (nI_eq (by omega) (by omega)).mp (hco.symm.trans q)
        subst e2
        exact ⟨hfc, hn⟩
  obtain ⟨hfc, hn⟩ := hcn
  have hnew : ce (e * 5 + c) ^^^ mask = sh_p (fun i => wo (4 * e + i)) w' c ^^^ (ma e ^^^ mask) := by
    rw [hfc, Int32.xor_assoc]
  have hs : sh_sx (fun o => upd ce (e * 5 + c) (ce (e * 5 + c) ^^^ mask) (e * 5 + o)) c (w' + 1) = sh_p (fun i => wo (4 * e + i)) w' c :=
    sh_sound hc (fun o ho q => by
      show upd ce (e * 5 + c) (ce (e * 5 + c) ^^^ mask) (e * 5 + o) = _
      rw [sh_ue5 q]
      exact hn o ho q)
  refine ⟨?_, fun q => ?_, fun q => ?_⟩
  · rw [hs, pk_us, hnew]
    constructor
    · intro q
      have q2 : sh_p (fun i => wo (4 * e + i)) w' c ^^^ (ma e ^^^ mask) = sh_p (fun i => wo (4 * e + i)) w' c ^^^ 0 := by rw [q, Int32.xor_zero]
      exact (Int32.xor_right_inj _).mp q2
    · intro q
      rw [q, Int32.xor_zero]
  · refine sh_R_set e h (fun _ _ => rfl) (fun j hj => pk_un hj) (sh_un5 (by omega)) (fun _ _ _ _ => rfl) (fun j hj => pk_un hj) (fun j hj => pk_un hj) ?_
    rw [pk_us, pk_us, pk_us, hz, q]
    refine sh_Ext_ok _ hw (fun _ o ho => ?_)
    show upd ce (e * 5 + c) _ (e * 5 + o) = _
    by_cases r : o = c
    · subst r
      rw [pk_us, hnew, q, Int32.xor_zero]
    · rw [sh_ue5 r]
      exact hn o ho r
  · refine sh_R_set e h (fun _ _ => rfl) (fun j hj => pk_un hj) (sh_un5 (by omega)) (fun _ _ _ _ => rfl) (fun j hj => pk_un hj) (fun j hj => pk_un hj) ?_
    rw [pk_us, pk_us, pk_us, hz]
    refine sh_Ext_bad hw h0 hc q ?_ (fun o ho r => ?_)
    · show upd ce (e * 5 + c) _ (e * 5 + c) = _
      rw [pk_us]
      exact hnew
    · show upd ce (e * 5 + c) _ (e * 5 + o) = _
      rw [sh_ue5 r]
      exact hn o ho r
/-- lose, at one extent: the column is 0, and then rebuilt if it is one of the extent's -/
theorem sh_los0 {z dm ce wo co ma : Nat → Int32} (h : sh_R z dm ce wo co ma) {e d w : Nat} (v : Int32) (hz : z e = nI w) (hw : w ≤ 4) (he : e < 8) (hd : d < 5) (hq : w = 0 ∨ w < d) :
    sh_R z dm (upd ce (e * 5 + d) v) wo co ma := by
  refine sh_R_set e h (fun _ _ => rfl) (fun _ _ => rfl) (sh_un5 hd) (fun _ _ _ _ => rfl) (fun _ _ => rfl) (fun _ _ => rfl) ?_
  obtain ⟨w', hw', hz', hdd, hc⟩ := h e he
  have e1 : w' = w := (nI_eq (by omega) (by omega)).mp (hz'.symm.trans hz)
  subst e1
  refine ⟨w', hw', hz', hdd, fun h0 o ho => ?_⟩
  show upd ce (e * 5 + d) _ (e * 5 + o) = _
  rw [sh_ue5 (show o ≠ d from by omega)]
  exact hc h0 o ho
theorem sh_los1 {z dm ce wo co ma : Nat → Int32} (h : sh_R z dm ce wo co ma) {e d w : Nat} (v : Int32) (hz : z e = nI w) (hw : w ≤ 4) (he : e < 8) (hd : d ≤ w) (h0 : 0 < w) (hm : ma e = 0) :
    sh_R z dm (upd (upd ce (e * 5 + d) v) (e * 5 + d) (sh_sx (fun o => upd ce (e * 5 + d) v (e * 5 + o)) d (w + 1))) wo co ma := by
  refine sh_R_set e h (fun _ _ => rfl) (fun _ _ => rfl) (fun j o hj ho => ?_) (fun _ _ _ _ => rfl) (fun _ _ => rfl) (fun _ _ => rfl) ?_
  · rw [sh_un5 (show d < 5 from by omega) j o hj ho, sh_un5 (show d < 5 from by omega) j o hj ho]
  · obtain ⟨w', hw', hz', hdd⟩ := sh_Ext_cases (h e he)
    have e1 : w' = w := (nI_eq (by omega) (by omega)).mp (hz'.symm.trans hz)
    subst e1
    rcases hdd with ⟨_, hdm, hn⟩ | ⟨hm', _⟩
    · rw [hz, hm, hdm]
      refine sh_Ext_ok _ hw (fun _ o ho => ?_)
      show upd (upd ce (e * 5 + d) v) (e * 5 + d) _ (e * 5 + o) = _
      by_cases r : o = d
      · subst r
        rw [pk_us]
        refine sh_sound hd (fun o' ho' q => ?_)
        show upd ce (e * 5 + o) v (e * 5 + o') = _
        rw [sh_ue5 q]
        exact hn h0 o' ho'
      · rw [sh_ue5 r, sh_ue5 r]
        exact hn h0 o ho
    · exact absurd hm hm'
theorem sh_cpy {z dm ce wo co ma ce' wo' : Nat → Int32} (h : sh_R z dm ce wo co ma) {a b : Nat} (ha : a < 8) (hm : ma a = 0)
    (h1 : ∀ o, o < 5 → ce' (b * 5 + o) = ce (a * 5 + o)) (h2 : ∀ j, j < b * 5 ∨ b * 5 + 5 ≤ j → ce' j = ce j)
    (h3 : ∀ i, i < 4 → wo' (4 * b + i) = wo (4 * a + i)) (h4 : ∀ j, j < 4 * b ∨ 4 * b + 4 ≤ j → wo' j = wo j) :
    sh_R (upd z b (z a)) (upd dm b (-5)) ce' wo' co (upd ma b 0) := by
  refine sh_R_set b h (fun j hj => pk_un hj) (fun j hj => pk_un hj) (fun j o hj ho => h2 _ (by omega)) (fun j i hj hi => h4 _ (by omega)) (fun _ _ => rfl) (fun j hj => pk_un hj) ?_
  obtain ⟨w, hw, hz, hd⟩ := sh_Ext_cases (h a ha)
  rcases hd with ⟨_, hdm, hn⟩ | ⟨hm', _⟩
  · rw [pk_us, pk_us, pk_us, hz]
    exact sh_Ext_congr (f := fun o => ce (a * 5 + o)) (g := fun i => wo (4 * a + i)) (sh_Ext_ok _ hw hn) h1 h3
  · exact absurd hm hm'
theorem sh_put {z dm ce wo co ma ce' wo' : Nat → Int32} (h : sh_R z dm ce wo co ma) {e n : Nat} {dw : Nat → Int32} (h0 : 0 < n) (hn : n ≤ 4)
    (h1 : ∀ o, o < n → ce' (e * 5 + o) = dw o) (h2 : ∀ j, j < e * 5 ∨ e * 5 + n ≤ j → ce' j = ce j)
    (h3 : ∀ i, i < n → wo' (4 * e + i) = dw i) (h4 : ∀ j, j < 4 * e ∨ 4 * e + n ≤ j → wo' j = wo j) :
    sh_R (upd z e (nI n)) (upd dm e (-5)) (upd ce' (e * 5 + n) (sh_sx (fun o => ce' (e * 5 + o)) n (n + 1))) wo' co (upd ma e 0) := by
  refine sh_R_set e h (fun j hj => pk_un hj) (fun j hj => pk_un hj) (fun j o hj ho => ?_) (fun j i hj hi => h4 _ (by omega)) (fun _ _ => rfl) (fun j hj => pk_un hj) ?_
  · rw [sh_un5 (show n < 5 from by omega) j o hj ho]
    exact h2 _ (by omega)
  · rw [pk_us, pk_us, pk_us]
    refine sh_Ext_ok _ hn (fun _ o ho => ?_)
    show upd ce' (e * 5 + n) _ (e * 5 + o) = _
    by_cases q : o = n
    · subst q
      rw [pk_us, sh_p_p, sh_sx_c, sh_sx_miss (Nat.le_refl _)]
      exact sh_px_congr (fun i hi => (h1 i hi).trans (h3 i hi).symm)
    · rw [sh_ue5 q, sh_p_w (show o < n from by omega)]
      exact (h1 o (by omega)).trans (h3 o (by omega)).symm
theorem sh_del {z dm ce wo co ma : Nat → Int32} (h : sh_R z dm ce wo co ma) {e : Nat} : sh_R (upd z e 0) (upd dm e (-5)) ce wo co (upd ma e 0) := by
  refine sh_R_set e h (fun j hj => pk_un hj) (fun j hj => pk_un hj) (fun _ _ _ _ => rfl) (fun _ _ _ _ => rfl) (fun _ _ => rfl) (fun j hj => pk_un hj) ?_
  rw [pk_us, pk_us, pk_us]
  exact sh_Ext_0 _ _ _
theorem sh_new {dm ce wo co ma : Nat → Int32} (h1 : ∀ e, e < 8 → dm e = -5) (h2 : ∀ e, e < 8 → ma e = 0) : sh_R (fun _ => 0) dm ce wo co ma := by
  intro e he
  rw [h1 e he, h2 e he]
  exact sh_Ext_0 _ _ _
end
section
/-! the walks of the private methods, and the loops, each over a general post -/
theorem sw_cl {e : Nat} (he : e < 8) : (nI e).toNatClampNeg = e := nI_clamp (by omega)
theorem sw_in {e : Nat} (he : e < 8) : vp_in (nI e) 8 := vp_in_nI he (by omega)
theorem sw_c5 {e o : Nat} (he : e < 8) (ho : o < 5) : (nI (e * 5 + o)).toNatClampNeg = e * 5 + o := nI_clamp (by omega)
theorem sw_i5 {e o : Nat} (he : e < 8) (ho : o < 5) : vp_in (nI (e * 5 + o)) 40 := vp_in_nI (by omega) (by omega)
theorem sw_i4 {e i : Nat} (he : e < 8) (hi : i < 4) : vp_in (4 * nI e + nI i) 32 := by
  rw [sh_word]
  exact vp_in_nI (by omega) (by omega)
theorem sw_c4 {e i : Nat} (he : e < 8) (hi : i < 4) : (4 * nI e + nI i).toNatClampNeg = 4 * e + i := by
  rw [sh_word]
  exact nI_clamp (by omega)
theorem sw_8t {j : Nat} (h : j = 8) : (8 : Int32) ≤ nI j := by subst h; exact nI_le (a := 8) (by omega) (by omega)
theorem sw_8f {j : Nat} (h : j < 8) : ¬ (8 : Int32) ≤ nI j := nI_ge (b := 8) h (by omega)
theorem sw_nz {w : Nat} (h0 : 0 < w) (hw : w ≤ 4) : ¬ nI w = 0 := nI_ne0 h0 (by omega)
theorem sw_xin {e : Nat} (he : e < 8) {post : Int32 → Prop} {u : SX} (hp : post 1) : wpX_isExtent post u (nI e) := by
  obtain ⟨q, h, dw, z, dm, ce⟩ := u
  exact br_f (nI_pos (by omega)) (br_f (sw_8f he) hp)
theorem sw_yin {e : Nat} (he : e < 8) {post : Int32 → Prop} {u : SY} (hp : post 1) : wpY_isExtent post u (nI e) := by
  obtain ⟨q, h, dw, wo, z, co, ma⟩ := u
  exact br_f (nI_pos (by omega)) (br_f (nI_nlt (a := 7) (b := e) (by omega) (by omega)) hp)
theorem sw_ext (v : Int32) : (∃ e : Nat, e < 8 ∧ v = nI e) ∨ ((∀ (post : Int32 → Prop) (u : SX), post 0 → wpX_isExtent post u v) ∧ (∀ (post : Int32 → Prop) (u : SY), post 0 → wpY_isExtent post u v)) := by
  by_cases h0 : v < 0
  · refine Or.inr ⟨fun post u hp => ?_, fun post u hp => ?_⟩
    · obtain ⟨q, h, dw, z, dm, ce⟩ := u
      exact br_t h0 hp
    · obtain ⟨q, h, dw, wo, z, co, ma⟩ := u
      exact br_t h0 hp
  · obtain ⟨j, hj, rfl⟩ := nI_of h0
    by_cases h8 : j < 8
    · exact Or.inl ⟨j, h8, rfl⟩
    · refine Or.inr ⟨fun post u hp => ?_, fun post u hp => ?_⟩
      · obtain ⟨q, h, dw, z, dm, ce⟩ := u
        exact br_f h0 (br_t (nI_le (a := 8) (by omega) hj) hp)
      · obtain ⟨q, h, dw, wo, z, co, ma⟩ := u
        exact br_f h0 (br_t (nI_lt (a := 7) (by omega) hj) hp)
theorem sw_cell {e o : Nat} {post : Int32 → Prop} {u : SX} (hp : post (nI (e * 5 + o))) : wpX_cellOf post u (nI e) (nI o) := by
  obtain ⟨q, h, dw, z, dm, ce⟩ := u
  show post (nI e * 5 + nI o)
  rw [sh_cell]
  exact hp
theorem sw_par {e : Nat} (he : e < 8) {post : Int32 → Prop} {q h : Int32} {dw z dm ce : Nat → Int32} (hp : post (z e)) : wpX_parityColumn post (q, h, dw, z, dm, ce) (nI e) :=
  ⟨sw_in he, by rw [sw_cl he]; exact hp⟩
theorem sw_hd0 {e : Nat} (he : e < 8) {post : Int32 → Prop} {q h : Int32} {dw z dm ce : Nat → Int32} (hd : dm e = -5) (hp : post 0) : wpX_hasDamage post (q, h, dw, z, dm, ce) (nI e) :=
  ⟨sw_in he, br_t (by rw [sw_cl he]; exact hd) hp⟩
theorem sw_hd1 {e : Nat} (he : e < 8) {post : Int32 → Prop} {q h : Int32} {dw z dm ce : Nat → Int32} (hd : ¬ dm e = -5) (hp : post 1) : wpX_hasDamage post (q, h, dw, z, dm, ce) (nI e) :=
  ⟨sw_in he, br_f (by rw [sw_cl he]; exact hd) hp⟩
theorem sw_ab1 {e : Nat} (he : e < 8) {post : Int32 → Prop} {q h : Int32} {dw z dm ce : Nat → Int32} (hz : z e = 0) (hp : post 1) : wpX_isAbsent post (q, h, dw, z, dm, ce) (nI e) :=
  ⟨sw_in he, br_t (by rw [sw_cl he]; exact hz) hp⟩
theorem sw_ab0 {e : Nat} (he : e < 8) {post : Int32 → Prop} {q h : Int32} {dw z dm ce : Nat → Int32} (hz : ¬ z e = 0) (hp : post 0) : wpX_isAbsent post (q, h, dw, z, dm, ce) (nI e) :=
  ⟨sw_in he, br_f (by rw [sw_cl he]; exact hz) hp⟩
theorem sw_soundL {e c w : Nat} (he : e < 8) (hw : w ≤ 4) (hc : c < 5) {post : Int32 → Prop} {q h : Int32} {dw z dm ce : Nat → Int32} (hp : post (sh_sx (fun o => ce (e * 5 + o)) c (w + 1))) :
    ∀ d j : Nat, j + d = w + 1 → wX_soundColumn_12 post (nI e) (nI c) (nI w) q h dw z dm ce (d + 1) (sh_sx (fun o => ce (e * 5 + o)) c j) (nI j) := by
  intro d
  induction d with
  | zero =>
    intro j hj
    have e1 : j = w + 1 := by omega
    subst e1
    exact br_t (nI_lt (by omega) (by omega)) hp
  | succ d ih =>
    intro j hj
    have hn : ¬ nI w < nI j := nI_nlt (by omega) (by omega)
    have hi := ih (j + 1) (by omega)
    by_cases q1 : j = c
    · subst q1
      rw [sh_sx_c] at hi
      exact br_f hn (br_t rfl (nm_r (nI_1 j) hi))
    · have hne : ¬ nI j = nI c := fun r => q1 ((nI_eq (by omega) (by omega)).mp r)
      refine br_f hn (br_f hne (sw_cell ⟨sw_i5 he (by omega), nm_r (e' := sh_sx (fun o => ce (e * 5 + o)) c (j + 1)) ?_ (nm_r (nI_1 j) hi)⟩))
      rw [sw_c5 he (show j < 5 from by omega), sh_sx_n q1]
theorem sw_sound {e c w : Nat} (he : e < 8) (hw : w ≤ 4) (hc : c < 5) {post : Int32 → Prop} {q h : Int32} {dw z dm ce : Nat → Int32} (hz : z e = nI w) (hp : post (sh_sx (fun o => ce (e * 5 + o)) c (w + 1))) :
    wpX_soundColumn post (q, h, dw, z, dm, ce) (nI e) (nI c) := by
  unfold wpX_soundColumn
  dsimp only
  refine sw_par he ?_
  rw [hz]
  exact ⟨w + 1 + 1, sw_soundL he hw hc hp (w + 1) 0 (by omega)⟩
theorem sw_reb {e c w : Nat} (he : e < 8) (hw : w ≤ 4) (hc : c < 5) {post : SX → Prop} {q h : Int32} {dw z dm ce : Nat → Int32} (hz : z e = nI w)
    (hp : post (q, h, dw, z, dm, upd ce (e * 5 + c) (sh_sx (fun o => ce (e * 5 + o)) c (w + 1)))) :
    wpX_rebuildColumn post (q, h, dw, z, dm, ce) (nI e) (nI c) := by
  unfold wpX_rebuildColumn
  dsimp only
  refine sw_cell ?_
  refine sw_sound he hw hc hz ?_
  exact ⟨sw_i5 he hc, nm_r (by rw [sw_c5 he hc]) hp⟩
theorem sw_heal {e c w : Nat} (he : e < 8) (hw : w ≤ 4) (hc : c < 5) {post : SX → Prop} {q h : Int32} {dw z dm ce : Nat → Int32} (hz : z e = nI w) (hd : dm e = nI c)
    (hp : post (q, h + 1, dw, z, upd dm e (-5), upd ce (e * 5 + c) (sh_sx (fun o => ce (e * 5 + o)) c (w + 1)))) :
    wpX_heal post (q, h, dw, z, dm, ce) (nI e) := by
  unfold wpX_heal
  dsimp only
  rw [sw_cl he, hd]
  refine ⟨sw_in he, sw_reb he hw hc hz ?_⟩
  exact ⟨sw_in he, nm_e (nm_e hp)⟩
theorem sw_any0L {post : Int32 → Prop} {q h : Int32} {dw z dm ce : Nat → Int32} (hd : ∀ i, i < 8 → dm i = -5) (hp : post 0) :
    ∀ d j : Nat, j + d = 8 → wX_anyDamage_2 post q h dw z dm ce (d + 1) (nI j) := by
  intro d
  induction d with
  | zero => intro j hj; exact br_t (sw_8t (by omega)) hp
  | succ d ih =>
    intro j hj
    exact br_f (sw_8f (by omega)) (sw_hd0 (by omega) (hd j (by omega)) (br_t rfl (nm_r (nI_1 j) (ih (j + 1) (by omega)))))
theorem sw_any1L {post : Int32 → Prop} {q h : Int32} {dw z dm ce : Nat → Int32} (hp : post 1) :
    ∀ d j : Nat, j + d = 8 → (∃ i, j ≤ i ∧ i < 8 ∧ ¬ dm i = -5) → wX_anyDamage_2 post q h dw z dm ce (d + 1) (nI j) := by
  intro d
  induction d with
  | zero => intro j hj ⟨i, h1, h2, _⟩; omega
  | succ d ih =>
    intro j hj ⟨i, h1, h2, h3⟩
    by_cases q1 : dm j = -5
    · have hij : j + 1 ≤ i := by
        rcases Nat.lt_or_ge j i with r | r
        · exact r
        · have e1 : i = j := by omega
          subst e1
          exact absurd q1 h3
      exact br_f (sw_8f (by omega)) (sw_hd0 (by omega) q1 (br_t rfl (nm_r (nI_1 j) (ih (j + 1) (by omega) ⟨i, hij, h2, h3⟩))))
    · exact br_f (sw_8f (by omega)) (sw_hd1 (by omega) q1 (br_f (by decide) hp))
theorem sw_ydeL {post : Int32 → Prop} {q h : Int32} {dw wo z co ma : Nat → Int32} (hp : post (nI (sh_cn ma 8))) :
    ∀ d j : Nat, j + d = 8 → wY_damagedExtents_4 post q h dw wo z co ma (d + 1) (nI (sh_cn ma j)) (nI j) := by
  intro d
  induction d with
  | zero =>
    intro j hj
    have e1 : j = 8 := by omega
    subst e1
    exact br_t (sw_8t rfl) hp
  | succ d ih =>
    intro j hj
    have hi := ih (j + 1) (by omega)
    have h8 : j < 8 := by omega
    by_cases q1 : ma j = 0
    · rw [sh_cn_0 q1] at hi
      exact br_f (sw_8f h8) ⟨sw_in h8, br_t (by rw [sw_cl h8]; exact q1) (nm_r (nI_1 j) hi)⟩
    · rw [sh_cn_1 q1] at hi
      exact br_f (sw_8f h8) ⟨sw_in h8, br_f (by rw [sw_cl h8]; exact q1) (nm_r (nI_1 _) (nm_r (nI_1 j) hi))⟩
theorem sw_yde {post : Int32 → Prop} {q h : Int32} {dw wo z co ma : Nat → Int32} (hp : post (nI (sh_cn ma 8))) : wpY_damagedExtents post (q, h, dw, wo, z, co, ma) :=
  ⟨9, sw_ydeL hp 8 0 rfl⟩
end
section
/-! the loops of the public methods -/
theorem sl_init {post : SX → Prop} {dw ce : Nat → Int32} (K : ∀ dm : Nat → Int32, (∀ i, i < 8 → dm i = -5) → post (0, 0, dw, (fun _ => 0), dm, ce)) :
    ∀ (d j : Nat) (dm : Nat → Int32), j + d = 8 → (∀ i, i < j → dm i = -5) → wX_init_47 post 0 0 (d + 1) (nI j) dw (fun _ => 0) dm ce := by
  intro d
  induction d with
  | zero =>
    intro j dm hj hd
    exact br_t (sw_8t (by omega)) (K dm (fun i hi => hd i (by omega)))
  | succ d ih =>
    intro j dm hj hd
    have h8 : j < 8 := by omega
    have hz : upd (fun _ => (0 : Int32)) (nI j).toNatClampNeg 0 = fun _ => 0 := by
      funext i
      unfold upd
      split <;> rfl
    refine br_f (sw_8f h8) ⟨sw_in h8, nm_r hz ⟨sw_in h8, nm_r (e' := upd dm j (-5)) (by rw [sw_cl h8]) (nm_r (nI_1 j) (ih (j + 1) (upd dm j (-5)) (by omega) (fun i hi => ?_)))⟩⟩
    by_cases r : i = j
    · subst r; exact pk_us
    · rw [pk_un r]; exact hd i (by omega)
theorem sl_ysc {post : Int32 → SY → Prop} {x1 q h : Int32} {dw wo z co : Nat → Int32} (K : ∀ ma : Nat → Int32, (∀ i, i < 8 → ma i = 0) → post x1 (q, h + x1, dw, wo, z, co, ma)) :
    ∀ (d j : Nat) (ma : Nat → Int32), j + d = 8 → (∀ i, i < j → ma i = 0) → wY_scrub_7 post x1 q h (d + 1) (nI j) dw wo z co ma := by
  intro d
  induction d with
  | zero =>
    intro j ma hj hd
    exact br_t (sw_8t (by omega)) (nm_e (K ma (fun i hi => hd i (by omega))))
  | succ d ih =>
    intro j ma hj hd
    have h8 : j < 8 := by omega
    refine br_f (sw_8f h8) ⟨sw_in h8, nm_r (e' := upd ma j 0) (by rw [sw_cl h8]) (nm_r (nI_1 j) (ih (j + 1) (upd ma j 0) (by omega) (fun i hi => ?_)))⟩
    by_cases r : i = j
    · subst r; exact pk_us
    · rw [pk_un r]; exact hd i (by omega)
theorem sl_xsc {post : Int32 → SX → Prop} {q h : Int32} {dw z wo co ma0 : Nat → Int32}
    (K : ∀ dm ce ma : Nat → Int32, sh_R z dm ce wo co ma → (∀ i, i < 8 → ma i = 0) → post (nI (sh_cn ma0 8)) (q, h + nI (sh_cn ma0 8), dw, z, dm, ce)) :
    ∀ (d j : Nat) (dm ce ma : Nat → Int32), j + d = 8 → sh_R z dm ce wo co ma → (∀ i, i < j → ma i = 0) → (∀ i, j ≤ i → ma i = ma0 i) →
      wX_scrub_4 post (d + 1) (nI (sh_cn ma0 j)) (nI j) q (h + nI (sh_cn ma0 j)) dw z dm ce := by
  intro d
  induction d with
  | zero =>
    intro j dm ce ma hj R h1 h2
    have e1 : j = 8 := by omega
    subst e1
    exact br_t (sw_8t rfl) (K dm ce ma R h1)
  | succ d ih =>
    intro j dm ce ma hj R h1 h2
    have h8 : j < 8 := by omega
    by_cases q1 : ma j = 0
    · have hi := ih (j + 1) dm ce ma (by omega) R (lt_s h1 q1) (fun i hi => h2 i (by omega))
      rw [sh_cn_0 (by rw [← h2 j (Nat.le_refl _)]; exact q1)] at hi
      exact br_f (sw_8f h8) (sw_hd0 h8 ((sh_R_dm R h8).mpr q1) (br_t rfl (nm_r (nI_1 j) hi)))
    · obtain ⟨w, c, h0, hw, hcw, hz, hd, hco, R'⟩ := sh_heal R h8 q1
      have hi := ih (j + 1) _ _ _ (by omega) R' (fun i hi => by
        by_cases r : i = j
        · subst r; exact pk_us
        · rw [pk_un r]; exact h1 i (by omega)) (fun i hi => by
        rw [pk_un (show i ≠ j from by omega)]; exact h2 i (by omega))
      rw [sh_cn_1 (by rw [← h2 j (Nat.le_refl _)]; exact q1), ← nI_1, ← Int32.add_assoc] at hi
      refine br_f (sw_8f h8) (sw_hd1 h8 (fun r => q1 ((sh_R_dm R h8).mp r)) (br_f (by decide) ?_))
      refine sw_heal h8 hw (by omega) hz hd ?_
      exact nm_e (nm_r (nI_1 j) hi)
theorem sl_xput {post : Int32 → SX → Prop} {h : Int32} {dw z dm ce : Nat → Int32} {e n : Nat} (he : e < 8) (h0 : 0 < n) (hn : n ≤ 4)
    (K : ∀ ce' : Nat → Int32, (∀ o, o < n → ce' (e * 5 + o) = dw o) → (∀ i, i < e * 5 ∨ e * 5 + n ≤ i → ce' i = ce i) →
      post (nI n) (0, h, dw, upd z e (nI n), upd dm e (-5), upd ce' (e * 5 + n) (sh_sx (fun o => ce' (e * 5 + o)) n (n + 1)))) :
    ∀ (d j : Nat) (ce' : Nat → Int32), j + d = n → (∀ o, o < j → ce' (e * 5 + o) = dw o) → (∀ i, i < e * 5 ∨ e * 5 + j ≤ i → ce' i = ce i) →
      wX_put_22 post (nI e) (nI n) h (d + 1) (nI j) dw z dm ce' := by
  intro d
  induction d with
  | zero =>
    intro j ce' hj h1 h2
    have e1 : j = n := by omega
    subst e1
    refine br_t (nI_le (Nat.le_refl _) (by omega)) ⟨sw_in he, nm_r (e' := upd z e (nI j)) (by rw [sw_cl he]) ⟨sw_in he, nm_r (e' := upd dm e (-5)) (by rw [sw_cl he]) (sw_par he ?_)⟩⟩
    rw [pk_us]
    refine sw_reb he hn (by omega) pk_us ?_
    refine ⟨sw_in he, ?_⟩
    rw [sw_cl he, pk_us]
    exact K ce' h1 h2
  | succ d ih =>
    intro j ce' hj h1 h2
    refine br_f (nI_ge (by omega) (by omega)) (sw_cell ⟨vp_in_nI (by omega) (by omega), sw_i5 he (by omega), nm_r (e' := upd ce' (e * 5 + j) (dw j)) ?_ (nm_r (nI_1 j) (ih (j + 1) _ (by omega) (fun o ho => ?_) (fun i hi => ?_)))⟩)
    · rw [sw_c5 he (show j < 5 from by omega), nI_clamp (show j < 2 ^ 31 from by omega)]
    · by_cases r : o = j
      · subst r; exact pk_us
      · rw [sh_ue5 r]; exact h1 o (by omega)
    · rw [pk_un (show i ≠ e * 5 + j from by omega)]
      exact h2 i (by omega)
theorem sl_yput {post : Int32 → SY → Prop} {h : Int32} {dw wo z co ma : Nat → Int32} {e n : Nat} (he : e < 8) (hn : n ≤ 4)
    (K : ∀ wo' : Nat → Int32, (∀ i, i < n → wo' (4 * e + i) = dw i) → (∀ i, i < 4 * e ∨ 4 * e + n ≤ i → wo' i = wo i) →
      post (nI n) (0, h, dw, wo', upd z e (nI n), co, upd ma e 0)) :
    ∀ (d j : Nat) (wo' : Nat → Int32), j + d = n → (∀ i, i < j → wo' (4 * e + i) = dw i) → (∀ i, i < 4 * e ∨ 4 * e + j ≤ i → wo' i = wo i) →
      wY_put_22 post (nI e) (nI n) h (d + 1) (nI j) dw wo' z co ma := by
  intro d
  induction d with
  | zero =>
    intro j wo' hj h1 h2
    have e1 : j = n := by omega
    subst e1
    refine br_t (nI_le (Nat.le_refl _) (by omega)) ⟨sw_in he, nm_r (e' := upd z e (nI j)) (by rw [sw_cl he]) ⟨sw_in he, nm_r (e' := upd ma e 0) (by rw [sw_cl he]) ⟨sw_in he, ?_⟩⟩⟩
    rw [sw_cl he, pk_us]
    exact K wo' h1 h2
  | succ d ih =>
    intro j wo' hj h1 h2
    refine br_f (nI_ge (by omega) (by omega)) ⟨vp_in_nI (by omega) (by omega), sw_i4 he (by omega), nm_r (e' := upd wo' (4 * e + j) (dw j)) ?_ (nm_r (nI_1 j) (ih (j + 1) _ (by omega) (fun o ho => ?_) (fun i hi => ?_)))⟩
    · rw [sw_c4 he (show j < 4 from by omega), nI_clamp (show j < 2 ^ 31 from by omega)]
    · by_cases r : o = j
      · subst r; exact pk_us
      · rw [pk_un (show 4 * e + o ≠ 4 * e + j from by omega)]; exact h1 o (by omega)
    · rw [pk_un (show i ≠ 4 * e + j from by omega)]
      exact h2 i (by omega)
theorem sl_los {post : Int32 → SX → Prop} {q h : Int32} {dw z dm wo co ma : Nat → Int32} {x : Nat} (hx : x < 5) (hm : ∀ i, i < 8 → ma i = 0)
    (K : ∀ ce : Nat → Int32, sh_R z dm ce wo co ma → post 0 (q, h, dw, z, dm, ce)) :
    ∀ (d j : Nat) (ce : Nat → Int32), j + d = 8 → sh_R z dm ce wo co ma → wX_lose_23 post (nI x) (d + 1) (nI j) q h dw z dm ce := by
  intro d
  induction d with
  | zero =>
    intro j ce hj R
    exact br_t (sw_8t (by omega)) (K ce R)
  | succ d ih =>
    intro j ce hj R
    have h8 : j < 8 := by omega
    obtain ⟨w, hw, hz⟩ := sh_R_w R h8
    refine br_f (sw_8f h8) (sw_cell ⟨sw_i5 h8 hx, nm_r (e' := upd ce (j * 5 + x) 0) (by rw [sw_c5 h8 hx]) ?_⟩)
    by_cases q0 : w = 0
    · subst q0
      exact sw_ab1 h8 hz (br_f (by decide) (nm_r (nI_1 j) (ih (j + 1) _ (by omega) (sh_los0 R 0 hz hw h8 hx (Or.inl rfl)))))
    · refine sw_ab0 h8 (by rw [hz]; exact sw_nz (by omega) hw) (br_t rfl (sw_par h8 ?_))
      rw [hz]
      by_cases q2 : w < x
      · exact br_t (nI_lt q2 (by omega)) (nm_r (nI_1 j) (ih (j + 1) _ (by omega) (sh_los0 R 0 hz hw h8 hx (Or.inr q2))))
      · refine br_f (nI_nlt (by omega) (by omega)) (sw_reb h8 hw hx hz ?_)
        exact nm_r (nI_1 j) (ih (j + 1) _ (by omega) (sh_los1 R 0 hz hw h8 (by omega) (by omega) (hm j h8)))
theorem sl_xcp {post : Int32 → SX → Prop} {q h : Int32} {dw z dm ce : Nat → Int32} {a b : Nat} (ha : a < 8) (hb : b < 8)
    (K : ∀ ce' : Nat → Int32, (∀ o, o < 5 → ce' (b * 5 + o) = ce (a * 5 + o)) → (∀ i, i < b * 5 ∨ b * 5 + 5 ≤ i → ce' i = ce i) →
      post (z a) (q, h, dw, upd z b (z a), upd dm b (-5), ce')) :
    ∀ (d j : Nat) (ce' : Nat → Int32), j + d = 5 → (∀ o, o < j → ce' (b * 5 + o) = ce (a * 5 + o)) → (∀ i, i < b * 5 ∨ b * 5 + j ≤ i → ce' i = ce i) →
      wX_copy_31 post (nI a) (nI b) q h (d + 1) (nI j) dw z dm ce' := by
  intro d
  induction d with
  | zero =>
    intro j ce' hj h1 h2
    have e1 : j = 5 := by omega
    subst e1
    refine br_t (nI_le (a := 5) (by omega) (by omega)) ⟨sw_in ha, sw_in hb, nm_r (e' := upd z b (z a)) (by rw [sw_cl ha, sw_cl hb]) ⟨sw_in hb, nm_r (e' := upd dm b (-5)) (by rw [sw_cl hb]) ⟨sw_in hb, ?_⟩⟩⟩
    rw [sw_cl hb, pk_us]
    exact K ce' h1 h2
  | succ d ih =>
    intro j ce' hj h1 h2
    have hs : ce' (a * 5 + j) = ce (a * 5 + j) := h2 _ (by omega)
    refine br_f (nI_ge (b := 5) (by omega) (by omega)) (sw_cell (sw_cell ⟨sw_i5 ha (by omega), sw_i5 hb (by omega), nm_r (e' := upd ce' (b * 5 + j) (ce (a * 5 + j))) ?_ (nm_r (nI_1 j) (ih (j + 1) _ (by omega) (fun o ho => ?_) (fun i hi => ?_)))⟩))
    · rw [sw_c5 ha (show j < 5 from by omega), sw_c5 hb (show j < 5 from by omega), hs]
    · by_cases r : o = j
      · subst r; exact pk_us
      · rw [sh_ue5 r]; exact h1 o (by omega)
    · rw [pk_un (show i ≠ b * 5 + j from by omega)]
      exact h2 i (by omega)
theorem sl_ycp {post : Int32 → SY → Prop} {q h : Int32} {dw wo z co ma : Nat → Int32} {a b : Nat} (ha : a < 8) (hb : b < 8)
    (K : ∀ wo' : Nat → Int32, (∀ i, i < 4 → wo' (4 * b + i) = wo (4 * a + i)) → (∀ i, i < 4 * b ∨ 4 * b + 4 ≤ i → wo' i = wo i) →
      post (z a) (q, h, dw, wo', upd z b (z a), co, upd ma b 0)) :
    ∀ (d j : Nat) (wo' : Nat → Int32), j + d = 4 → (∀ i, i < j → wo' (4 * b + i) = wo (4 * a + i)) → (∀ i, i < 4 * b ∨ 4 * b + j ≤ i → wo' i = wo i) →
      wY_copy_32 post (nI a) (nI b) q h (d + 1) (nI j) dw wo' z co ma := by
  intro d
  induction d with
  | zero =>
    intro j wo' hj h1 h2
    have e1 : j = 4 := by omega
    subst e1
    have ez : upd z b (z a) a = z a := by
      by_cases r : a = b
      · subst r; exact pk_us
      · exact pk_un r
    refine br_t (nI_le (a := 4) (by omega) (by omega)) ⟨sw_in ha, sw_in hb, nm_r (e' := upd z b (z a)) (by rw [sw_cl ha, sw_cl hb]) ⟨sw_in hb, nm_r (e' := upd ma b 0) (by rw [sw_cl hb]) ⟨sw_in ha, ?_⟩⟩⟩
    rw [sw_cl ha, ez]
    exact K wo' h1 h2
  | succ d ih =>
    intro j wo' hj h1 h2
    have hs : wo' (4 * a + j) = wo (4 * a + j) := h2 _ (by omega)
    refine br_f (nI_ge (b := 4) (by omega) (by omega)) ⟨sw_i4 ha (by omega), sw_i4 hb (by omega), nm_r (e' := upd wo' (4 * b + j) (wo (4 * a + j))) ?_ (nm_r (nI_1 j) (ih (j + 1) _ (by omega) (fun o ho => ?_) (fun i hi => ?_)))⟩
    · rw [sw_c4 ha (show j < 4 from by omega), sw_c4 hb (show j < 4 from by omega), hs]
    · by_cases r : o = j
      · subst r; exact pk_us
      · rw [pk_un (show 4 * b + o ≠ 4 * b + j from by omega)]; exact h1 o (by omega)
    · rw [pk_un (show i ≠ 4 * b + j from by omega)]
      exact h2 i (by omega)
theorem sl_xdg {post : Int32 → Prop} {q h : Int32} {dw z dm ce wo co ma : Nat → Int32} {e w : Nat} (R : sh_R z dm ce wo co ma) (he : e < 8) (hz : z e = nI w) (hw : w ≤ 4)
    (hp : post (sh_ds (fun i => wo (4 * e + i)) w)) :
    ∀ d j : Nat, j + d = w → wX_digest_14 post (nI e) q h dw z dm ce (d + 1) (sh_ds (fun i => wo (4 * e + i)) j) (nI j) := by
  intro d
  induction d with
  | zero =>
    intro j hj
    have e1 : j = w := by omega
    subst e1
    exact ⟨sw_in he, br_t (by rw [sw_cl he, hz]; exact nI_le (Nat.le_refl _) (by omega)) hp⟩
  | succ d ih =>
    intro j hj
    have hi := ih (j + 1) (by omega)
    obtain ⟨g1, g2⟩ := sh_dg R (i := j) he hz hw (by omega)
    refine ⟨sw_in he, br_f (by rw [sw_cl he, hz]; exact nI_ge (by omega) (by omega)) ⟨sw_in he, ?_⟩⟩
    rw [sw_cl he]
    by_cases r : dm e = nI j
    · refine br_t r (sw_sound he hw (by omega) hz ?_)
      rw [g1 r]
      exact nm_r (by rw [nI_1]; exact (sh_ds_s _ j).symm) (nm_r (nI_1 j) hi)
    · refine br_f r (sw_cell ⟨sw_i5 he (by omega), ?_⟩)
      rw [sw_c5 he (show j < 5 from by omega), g2 r]
      exact nm_r (by rw [nI_1]; exact (sh_ds_s _ j).symm) (nm_r (nI_1 j) hi)
theorem sl_ydg {post : Int32 → Prop} {q h : Int32} {dw wo z co ma : Nat → Int32} {e w : Nat} (he : e < 8) (hz : z e = nI w) (hw : w ≤ 4)
    (hp : post (sh_ds (fun i => wo (4 * e + i)) w)) :
    ∀ d j : Nat, j + d = w → wY_digest_14 post (nI e) q h dw wo z co ma (d + 1) (sh_ds (fun i => wo (4 * e + i)) j) (nI j) := by
  intro d
  induction d with
  | zero =>
    intro j hj
    have e1 : j = w := by omega
    subst e1
    exact ⟨sw_in he, br_t (by rw [sw_cl he, hz]; exact nI_le (Nat.le_refl _) (by omega)) hp⟩
  | succ d ih =>
    intro j hj
    have hi := ih (j + 1) (by omega)
    refine ⟨sw_in he, br_f (by rw [sw_cl he, hz]; exact nI_ge (by omega) (by omega)) ⟨sw_i4 he (by omega), ?_⟩⟩
    rw [sw_c4 he (show j < 4 from by omega)]
    exact nm_r (by rw [nI_1]; exact (sh_ds_s _ j).symm) (nm_r (nI_1 j) hi)
end
section
/-! the relation, and the tails of read and damage -/
def i_Rel (_ : Nat) (u : SX) (v : SY) : Prop :=
  ∃ (n : Nat) (h : Int32) (dw z dm ce wo co ma : Nat → Int32), n ≤ 4 ∧ u = (nI n, h, dw, z, dm, ce) ∧ v = (nI n, h, dw, wo, z, co, ma) ∧ sh_R z dm ce wo co ma
theorem so_mk {k n : Nat} {h : Int32} {dw z dm ce wo co ma : Nat → Int32} (hn : n ≤ 4) (R : sh_R z dm ce wo co ma) : i_Rel k (nI n, h, dw, z, dm, ce) (nI n, h, dw, wo, z, co, ma) :=
  ⟨n, h, dw, z, dm, ce, wo, co, ma, hn, rfl, rfl, R⟩
theorem so_mk0 {k : Nat} {h : Int32} {dw z dm ce wo co ma : Nat → Int32} (R : sh_R z dm ce wo co ma) : i_Rel k (0, h, dw, z, dm, ce) (0, h, dw, wo, z, co, ma) :=
  so_mk (n := 0) (by omega) R
theorem so_ma {z dm ce wo co ma ma' : Nat → Int32} (R : sh_R z dm ce wo co ma) (h : ∀ i, i < 8 → ma' i = ma i) : sh_R z dm ce wo co ma' := by
  intro e he
  rw [h e he]
  exact R e he
theorem so_rdx {post : Int32 → SX → Prop} {q h : Int32} {dw z dm ce : Nat → Int32} {e i : Nat} (he : e < 8) (hi : i < 5) (hp : post (ce (e * 5 + i)) (q, h, dw, z, dm, ce)) :
    wX_read_51 post (nI e) (nI i) q h dw z dm ce := by
  unfold wX_read_51
  refine sw_cell ⟨sw_i5 he hi, ?_⟩
  rw [sw_c5 he hi]
  exact hp
theorem so_rdy {post : Int32 → SY → Prop} {q h : Int32} {dw wo z co ma : Nat → Int32} {e i : Nat} (he : e < 8) (hi : i < 4) (hp : post (wo (4 * e + i)) (q, h, dw, wo, z, co, ma)) :
    wY_read_65 post (nI e) (nI i) q h dw wo z co ma :=
  ⟨sw_i4 he hi, by rw [sw_c4 he hi]; exact hp⟩
theorem so_dmx {post : Int32 → SX → Prop} {q h m : Int32} {dw z dm ce : Nat → Int32} {e c w : Nat} (he : e < 8) (hw : w ≤ 4) (hc : c < 5) (hz : z e = nI w)
    (h1 : upd ce (e * 5 + c) (ce (e * 5 + c) ^^^ m) (e * 5 + c) = sh_sx (fun o => upd ce (e * 5 + c) (ce (e * 5 + c) ^^^ m) (e * 5 + o)) c (w + 1) → post 0 (q, h, dw, z, upd dm e (-5), upd ce (e * 5 + c) (ce (e * 5 + c) ^^^ m)))
    (h2 : ¬ upd ce (e * 5 + c) (ce (e * 5 + c) ^^^ m) (e * 5 + c) = sh_sx (fun o => upd ce (e * 5 + c) (ce (e * 5 + c) ^^^ m) (e * 5 + o)) c (w + 1) → post 1 (q, h, dw, z, upd dm e (nI c), upd ce (e * 5 + c) (ce (e * 5 + c) ^^^ m))) :
    wX_damage_57 post (nI e) (nI c) m q h dw z dm ce := by
  unfold wX_damage_57
  refine sw_cell ⟨sw_i5 he hc, sw_i5 he hc, nm_r (e' := upd ce (e * 5 + c) (ce (e * 5 + c) ^^^ m)) (by rw [sw_c5 he hc]) ?_⟩
  refine sw_cell ⟨sw_i5 he hc, sw_sound he hw hc hz ?_⟩
  rw [sw_c5 he hc]
  refine ⟨fun r => ?_, fun r => ?_⟩
  · exact br_f (by decide) ⟨sw_in he, nm_r (e' := upd dm e (-5)) (by rw [sw_cl he]) (br_f (by decide) (h1 r))⟩
  · exact br_t rfl ⟨sw_in he, nm_r (e' := upd dm e (nI c)) (by rw [sw_cl he]) (br_t rfl (h2 r))⟩
theorem so_dmy {post : Int32 → SY → Prop} {q h m : Int32} {dw wo z co ma : Nat → Int32} {e c : Nat} (he : e < 8)
    (h1 : ma e ^^^ m = 0 → post 0 (q, h, dw, wo, z, upd co e (nI c), upd ma e (ma e ^^^ m))) (h2 : ¬ ma e ^^^ m = 0 → post 1 (q, h, dw, wo, z, upd co e (nI c), upd ma e (ma e ^^^ m))) :
    wY_damage_60 post (nI e) (nI c) m q h dw wo z co ma := by
  refine ⟨sw_in he, nm_r (e' := upd co e (nI c)) (by rw [sw_cl he]) ⟨sw_in he, sw_in he, nm_r (e' := upd ma e (ma e ^^^ m)) (by rw [sw_cl he]) ⟨sw_in he, ?_⟩⟩⟩
  rw [sw_cl he, pk_us]
  exact ⟨h1, h2⟩
/-- both sides' damage from where the tests have passed: one answer, related states -/
theorem so_dmg {k n : Nat} {h : Int32} {dw z dm ce wo co ma : Nat → Int32} (hn : n ≤ 4) (R : sh_R z dm ce wo co ma) {e c w : Nat} (m : Int32) (he : e < 8) (hz : z e = nI w) (hw : w ≤ 4) (h0 : 0 < w) (hc : c ≤ w) (hm : ma e = 0 ∨ co e = nI c) :
    ∃ (r : Int32) (u : SX) (v : SY), (∀ post : Int32 → SX → Prop, post r u → wX_damage_57 post (nI e) (nI c) m (nI n) h dw z dm ce) ∧ (∀ post : Int32 → SY → Prop, post r v → wY_damage_60 post (nI e) (nI c) m (nI n) h dw wo z co ma) ∧ i_Rel k u v := by
  obtain ⟨D1, D2, D3⟩ := sh_dmg R m he hz hw h0 hc hm
  by_cases q1 : ma e ^^^ m = 0
  · exact ⟨0, _, _, fun post hp => so_dmx he hw (by omega) hz (fun _ => hp) (fun r => absurd (D1.mpr q1) r), fun post hp => so_dmy he (fun _ => hp) (fun r => absurd q1 r), so_mk hn (D2 q1)⟩
  · exact ⟨1, _, _, fun post hp => so_dmx he hw (by omega) hz (fun r => absurd (D1.mp r) q1) (fun _ => hp), fun post hp => so_dmy he (fun r => absurd r q1) (fun _ => hp), so_mk hn (D3 q1)⟩
end
section
/-! the owed rows -/
theorem i_up {k : Nat} {u : SX} {v : SY} (h : i_Rel k u v) : i_Rel (k + 4) u v := h
theorem i_vc0 : wpX_init (fun u => wpY_init (fun v => i_Rel 0 u v)) :=
  ⟨9, sl_init (fun dm hd => so_mk0 (k := 0) (sh_new hd (fun _ _ => rfl))) 8 0 _ rfl (fun i hi => absurd hi (by omega))⟩
theorem i_vc_draft {k : Nat} {u : SX} {v : SY} (I : i_Rel k u v) (hk : k + 4 ≤ 2048) (v1 : Int32) : wpX_draft (fun r u' => wpY_draft (fun r' v' => r' = r ∧ i_Rel (k + 4) u' v') v v1) u v1 := by
  obtain ⟨n, h, dw, z, dm, ce, wo, co, ma, hn, rfl, rfl, R⟩ := I
  by_cases h4 : n < 4
  · have e1 : upd dw (nI n).toNatClampNeg v1 = upd dw n v1 := by rw [nI_clamp (show n < 2 ^ 31 from by omega)]
    have hi : vp_in (nI n) 4 := vp_in_nI h4 (by omega)
    have hne : ¬ nI n = nI 4 := fun r => absurd ((nI_eq (by omega) (by omega)).mp r) (by omega)
    refine br_t (nI_lt (b := 4) h4 (by omega)) ⟨hi, nm_r e1 (nm_r (nI_1 n) ?_)⟩
    exact br_f hne ⟨hi, nm_r e1 (nm_r (nI_1 n) ⟨rfl, so_mk (by omega) R⟩)⟩
  · have e1 : n = 4 := by omega
    subst e1
    exact br_f (nI_nlt (b := 4) (by omega) (by omega)) (br_t rfl ⟨rfl, so_mk (by omega) R⟩)
theorem i_vc_scrap {k : Nat} {u : SX} {v : SY} (I : i_Rel k u v) (hk : k + 4 ≤ 2048) : wpX_scrap (fun u' => wpY_scrap (fun v' => i_Rel (k + 4) u' v') v) u := by
  obtain ⟨n, h, dw, z, dm, ce, wo, co, ma, hn, rfl, rfl, R⟩ := I
  exact so_mk0 (k := k + 4) R
theorem i_vc_put {k : Nat} {u : SX} {v : SY} (I : i_Rel k u v) (hk : k + 4 ≤ 2048) (v1 : Int32) : wpX_put (fun r u' => wpY_put (fun r' v' => r' = r ∧ i_Rel (k + 4) u' v') v v1) u v1 := by
  obtain ⟨n, h, dw, z, dm, ce, wo, co, ma, hn, rfl, rfl, R⟩ := I
  unfold wpX_put wpY_put
  dsimp only
  rcases sw_ext v1 with ⟨e, he, rfl⟩ | ⟨hx, hy⟩
  · by_cases q0 : n = 0
    · subst q0
      refine sw_xin he (br_f (by decide) (br_t rfl ?_))
      exact sw_yin he (br_f (by decide) (br_t rfl ⟨rfl, so_mk (by omega) R⟩))
    · have hz : ¬ nI n = 0 := sw_nz (by omega) hn
      refine sw_xin he (br_f (by decide) (br_f hz ⟨n + 1, ?_⟩))
      refine sl_xput he (by omega) hn (fun ce' h1 h2 => ?_) n 0 ce (by omega) (fun o ho => absurd ho (by omega)) (fun i _ => rfl)
      refine sw_yin he (br_f (by decide) (br_f hz ⟨n + 1, ?_⟩))
      refine sl_yput he hn (fun wo' h3 h4 => ?_) n 0 wo (by omega) (fun o ho => absurd ho (by omega)) (fun i _ => rfl)
      exact ⟨rfl, so_mk0 (sh_put R (by omega) hn h1 h2 h3 h4)⟩
  · refine hx _ _ (br_t rfl ?_)
    exact hy _ _ (br_t rfl ⟨rfl, so_mk hn R⟩)
theorem i_vc_delete {k : Nat} {u : SX} {v : SY} (I : i_Rel k u v) (hk : k + 4 ≤ 2048) (v1 : Int32) : wpX_delete (fun r u' => wpY_delete (fun r' v' => r' = r ∧ i_Rel (k + 4) u' v') v v1) u v1 := by
  obtain ⟨n, h, dw, z, dm, ce, wo, co, ma, hn, rfl, rfl, R⟩ := I
  unfold wpX_delete wpY_delete
  dsimp only
  rcases sw_ext v1 with ⟨e, he, rfl⟩ | ⟨hx, hy⟩
  · rw [sw_cl he]
    have hi := sw_in he
    by_cases q0 : z e = 0
    · refine sw_xin he (br_f (by decide) (sw_ab1 he q0 (br_f (by decide) ?_)))
      exact sw_yin he (br_f (by decide) ⟨hi, br_t q0 ⟨rfl, so_mk hn R⟩⟩)
    · refine sw_xin he (br_f (by decide) (sw_ab0 he q0 (br_t rfl ⟨hi, nm_e ⟨hi, nm_e ⟨hi, nm_e ?_⟩⟩⟩)))
      exact sw_yin he (br_f (by decide) ⟨hi, br_f q0 ⟨hi, nm_e ⟨hi, nm_e ⟨hi, nm_e ⟨rfl, so_mk hn (sh_del R)⟩⟩⟩⟩⟩)
  · refine hx _ _ (br_t rfl ?_)
    exact hy _ _ (br_t rfl ⟨rfl, so_mk hn R⟩)
theorem i_vc_size {k : Nat} {u : SX} {v : SY} (I : i_Rel k u v) (hk : k + 4 ≤ 2048) (v1 : Int32) : wpX_size (fun r => wpY_size (fun r' => r' = r ∧ i_Rel (k + 4) u v) v v1) u v1 := by
  have J := i_up I
  obtain ⟨n, h, dw, z, dm, ce, wo, co, ma, hn, rfl, rfl, R⟩ := I
  unfold wpX_size wpY_size
  dsimp only
  rcases sw_ext v1 with ⟨e, he, rfl⟩ | ⟨hx, hy⟩
  · have hi := sw_in he
    refine sw_xin he (br_f (by decide) ⟨hi, ?_⟩)
    exact sw_yin he (br_f (by decide) ⟨hi, rfl, J⟩)
  · refine hx _ _ (br_t rfl ?_)
    exact hy _ _ (br_t rfl ⟨rfl, J⟩)
theorem i_vc_read {k : Nat} {u : SX} {v : SY} (I : i_Rel k u v) (hk : k + 4 ≤ 2048) (v1 : Int32) (v2 : Int32) : wpX_read (fun r u' => wpY_read (fun r' v' => r' = r ∧ i_Rel (k + 4) u' v') v v1 v2) u v1 v2 := by
  obtain ⟨n, h, dw, z, dm, ce, wo, co, ma, hn, rfl, rfl, R⟩ := I
  unfold wpX_read wpY_read
  dsimp only
  rcases sw_ext v1 with ⟨e, he, rfl⟩ | ⟨hx, hy⟩
  · have hi8 := sw_in he
    obtain ⟨w, hw, hz⟩ := sh_R_w R he
    rw [sw_cl he, hz]
    by_cases hneg : v2 < 0
    · refine sw_xin he (br_f (by decide) (br_t hneg ?_))
      exact sw_yin he (br_f (by decide) (br_t hneg ⟨rfl, so_mk hn R⟩))
    · obtain ⟨i, hi, rfl⟩ := nI_of hneg
      by_cases hiw : i < w
      · have hlt : nI i < nI w := nI_lt hiw (by omega)
        by_cases qm : ma e = 0
        · refine sw_xin he (br_f (by decide) (br_f hneg ⟨hi8, br_t hlt (sw_hd0 he ((sh_R_dm R he).mpr qm) (br_t rfl (so_rdx he (by omega) ?_)))⟩))
          exact sw_yin he (br_f (by decide) (br_f hneg ⟨hi8, br_t hlt ⟨hi8, br_t qm (so_rdy he (by omega) ⟨(sh_rd R he hz hw hiw (Or.inl qm)).symm, so_mk hn R⟩)⟩⟩))
        · obtain ⟨w', c, h0', hw', hcw, hz', hd, hco, R'⟩ := sh_heal R he qm
          have ew : w' = w := (nI_eq (by omega) (by omega)).mp (hz'.symm.trans hz)
          subst ew
          have hnd : ¬ dm e = -5 := fun r => qm ((sh_R_dm R he).mp r)
          by_cases qc : c = w'
          · subst qc
            refine sw_xin he (br_f (by decide) (br_f hneg ⟨hi8, br_t hlt (sw_hd1 he hnd (br_f (by decide) ⟨hi8, sw_par he (br_t (hd.trans hz.symm) (so_rdx he (by omega) ?_))⟩))⟩))
            exact sw_yin he (br_f (by decide) (br_f hneg ⟨hi8, br_t hlt ⟨hi8, br_f qm ⟨hi8, hi8, br_t hco (so_rdy he (by omega) ⟨(sh_rd R he hz hw hiw (Or.inr (hco.trans hz.symm))).symm, so_mk hn R⟩)⟩⟩⟩))
          · have hne : ¬ nI c = nI w' := fun r => qc ((nI_eq (by omega) (by omega)).mp r)
            refine sw_xin he (br_f (by decide) (br_f hneg ⟨hi8, br_t hlt (sw_hd1 he hnd (br_f (by decide) ⟨hi8, sw_par he (br_f (fun r => hne (hd.symm.trans (r.trans hz))) (sw_heal he hw (by omega) hz hd ?_))⟩))⟩))
            refine so_rdx he (by omega) ?_
            exact sw_yin he (br_f (by decide) (br_f hneg ⟨hi8, br_t hlt ⟨hi8, br_f qm ⟨hi8, hi8, br_f (fun r => hne (hco.symm.trans r)) ⟨hi8, nm_e (nm_e (so_rdy he (by omega) ⟨(sh_rd R' he hz hw hiw (Or.inl pk_us)).symm, so_mk hn R'⟩))⟩⟩⟩⟩))
      · have hnlt : ¬ nI i < nI w := nI_nlt (by omega) hi
        refine sw_xin he (br_f (by decide) (br_f hneg ⟨hi8, br_f hnlt ?_⟩))
        exact sw_yin he (br_f (by decide) (br_f hneg ⟨hi8, br_f hnlt ⟨rfl, so_mk hn R⟩⟩))
  · refine hx _ _ (br_t rfl ?_)
    exact hy _ _ (br_t rfl ⟨rfl, so_mk hn R⟩)
theorem i_vc_damage {k : Nat} {u : SX} {v : SY} (I : i_Rel k u v) (hk : k + 4 ≤ 2048) (v1 : Int32) (v2 : Int32) (v3 : Int32) : wpX_damage (fun r u' => wpY_damage (fun r' v' => r' = r ∧ i_Rel (k + 4) u' v') v v1 v2 v3) u v1 v2 v3 := by
  obtain ⟨n, h, dw, z, dm, ce, wo, co, ma, hn, rfl, rfl, R⟩ := I
  unfold wpX_damage wpY_damage
  dsimp only
  rcases sw_ext v1 with ⟨e, he, rfl⟩ | ⟨hx, hy⟩
  · have hi8 := sw_in he
    obtain ⟨w, hw, hz⟩ := sh_R_w R he
    rw [sw_cl he]
    by_cases q0 : w = 0
    · have hz0 : z e = 0 := by rw [hz, q0]; rfl
      refine sw_xin he (br_f (by decide) (sw_ab1 he hz0 (br_f (by decide) ?_)))
      exact sw_yin he (br_f (by decide) ⟨hi8, br_t hz0 ⟨rfl, so_mk hn R⟩⟩)
    · have hz0 : ¬ z e = 0 := by rw [hz]; exact sw_nz (by omega) hw
      by_cases hneg : v2 < 0
      · refine sw_xin he (br_f (by decide) (sw_ab0 he hz0 (br_t rfl (br_t hneg ?_))))
        exact sw_yin he (br_f (by decide) ⟨hi8, br_f hz0 (br_t hneg ⟨rfl, so_mk hn R⟩)⟩)
      · obtain ⟨c, hc, rfl⟩ := nI_of hneg
        by_cases hcw : c ≤ w
        · have hle : nI c ≤ z e := by rw [hz]; exact nI_le hcw (by omega)
          by_cases qm : ma e = 0
          · obtain ⟨r, u', v', HX, HY, J⟩ := so_dmg (k := k + 4) (h := h) (dw := dw) hn R v3 he hz hw (by omega) hcw (Or.inl qm)
            refine sw_xin he (br_f (by decide) (sw_ab0 he hz0 (br_t rfl (br_f hneg (sw_par he (br_t hle (sw_hd0 he ((sh_R_dm R he).mpr qm) (br_t rfl (HX _ ?_)))))))))
            exact sw_yin he (br_f (by decide) ⟨hi8, br_f hz0 (br_f hneg ⟨hi8, br_t hle ⟨hi8, br_t qm (HY _ ⟨rfl, J⟩)⟩⟩)⟩)
          · obtain ⟨w', c', h0', hw', hcw', hz', hd, hco, R'⟩ := sh_heal R he qm
            have hnd : ¬ dm e = -5 := fun r => qm ((sh_R_dm R he).mp r)
            by_cases qc : c' = c
            · subst qc
              obtain ⟨r, u', v', HX, HY, J⟩ := so_dmg (k := k + 4) (h := h) (dw := dw) hn R v3 he hz hw (by omega) hcw (Or.inr hco)
              refine sw_xin he (br_f (by decide) (sw_ab0 he hz0 (br_t rfl (br_f hneg (sw_par he (br_t hle (sw_hd1 he hnd (br_f (by decide) ⟨hi8, br_t hd (HX _ ?_)⟩))))))))
              exact sw_yin he (br_f (by decide) ⟨hi8, br_f hz0 (br_f hneg ⟨hi8, br_t hle ⟨hi8, br_f qm ⟨hi8, br_t hco (HY _ ⟨rfl, J⟩)⟩⟩⟩)⟩)
            · have hne : ¬ nI c' = nI c := fun r => qc ((nI_eq (by omega) hc).mp r)
              refine sw_xin he (br_f (by decide) (sw_ab0 he hz0 (br_t rfl (br_f hneg (sw_par he (br_t hle (sw_hd1 he hnd (br_f (by decide) ⟨hi8, br_f (fun r => hne (hd.symm.trans r)) ?_⟩))))))))
              exact sw_yin he (br_f (by decide) ⟨hi8, br_f hz0 (br_f hneg ⟨hi8, br_t hle ⟨hi8, br_f qm ⟨hi8, br_f (fun r => hne (hco.symm.trans r)) ⟨rfl, so_mk hn R⟩⟩⟩⟩)⟩)
        · have hnle : ¬ nI c ≤ z e := by rw [hz]; exact nI_ge (by omega) hc
          refine sw_xin he (br_f (by decide) (sw_ab0 he hz0 (br_t rfl (br_f hneg (sw_par he (br_f hnle ?_))))))
          exact sw_yin he (br_f (by decide) ⟨hi8, br_f hz0 (br_f hneg ⟨hi8, br_f hnle ⟨rfl, so_mk hn R⟩⟩)⟩)
  · refine hx _ _ (br_t rfl ?_)
    exact hy _ _ (br_t rfl ⟨rfl, so_mk hn R⟩)
theorem i_vc_damaged {k : Nat} {u : SX} {v : SY} (I : i_Rel k u v) (hk : k + 4 ≤ 2048) (v1 : Int32) : wpX_damaged (fun r => wpY_damaged (fun r' => r' = r ∧ i_Rel (k + 4) u v) v v1) u v1 := by
  have J := i_up I
  obtain ⟨n, h, dw, z, dm, ce, wo, co, ma, hn, rfl, rfl, R⟩ := I
  unfold wpX_damaged wpY_damaged
  dsimp only
  rcases sw_ext v1 with ⟨e, he, rfl⟩ | ⟨hx, hy⟩
  · have hi8 := sw_in he
    rw [sw_cl he]
    by_cases q0 : z e = 0
    · refine sw_xin he (br_f (by decide) (sw_ab1 he q0 (br_f (by decide) ?_)))
      exact sw_yin he (br_f (by decide) ⟨hi8, br_t q0 ⟨rfl, J⟩⟩)
    · refine sw_xin he (br_f (by decide) (sw_ab0 he q0 (br_t rfl ⟨hi8, ?_⟩)))
      by_cases qm : ma e = 0
      · exact sw_yin he (br_f (by decide) ⟨hi8, br_f q0 ⟨hi8, br_t qm ⟨((sh_R_dm R he).mpr qm).symm, J⟩⟩⟩)
      · obtain ⟨w', c', h0', hw', hcw', hz', hd, hco, R'⟩ := sh_heal R he qm
        exact sw_yin he (br_f (by decide) ⟨hi8, br_f q0 ⟨hi8, br_f qm ⟨hi8, hco.trans hd.symm, J⟩⟩⟩)
  · refine hx _ _ (br_t rfl ?_)
    exact hy _ _ (br_t rfl ⟨rfl, J⟩)
theorem i_vc_scrub {k : Nat} {u : SX} {v : SY} (I : i_Rel k u v) (hk : k + 4 ≤ 2048) : wpX_scrub (fun r u' => wpY_scrub (fun r' v' => r' = r ∧ i_Rel (k + 4) u' v') v) u := by
  obtain ⟨n, h, dw, z, dm, ce, wo, co, ma, hn, rfl, rfl, R⟩ := I
  unfold wpX_scrub wpY_scrub
  dsimp only
  have X := sl_xsc (post := fun r u' => wpY_damagedExtents (fun r_1 => ∃ n7 : Nat, wY_scrub_7 (fun r' v' => r' = r ∧ i_Rel (k + 4) u' v') r_1 (nI n) h n7 0 dw wo z co ma) (nI n, h, dw, wo, z, co, ma))
    (q := nI n) (h := h) (dw := dw) (z := z) (wo := wo) (co := co) (ma0 := ma) (fun dm' ce' ma' R' h0 => sw_yde ⟨9, sl_ysc (fun ma'' hm => ⟨rfl, so_mk hn (so_ma R' (fun i hi => (hm i hi).trans (h0 i hi).symm))⟩) 8 0 ma rfl (fun i hi => absurd hi (by omega))⟩)
    8 0 dm ce ma rfl R (fun i hi => absurd hi (by omega)) (fun i _ => rfl)
  rw [show sh_cn ma 0 = 0 from rfl, nI_0, Int32.add_zero] at X
  exact ⟨9, X⟩
theorem i_vc_healed {k : Nat} {u : SX} {v : SY} (I : i_Rel k u v) (hk : k + 4 ≤ 2048) : wpX_healed (fun r => wpY_healed (fun r' => r' = r ∧ i_Rel (k + 4) u v) v) u := by
  have J := i_up I
  obtain ⟨n, h, dw, z, dm, ce, wo, co, ma, hn, rfl, rfl, R⟩ := I
  exact ⟨rfl, J⟩
theorem i_vc_lose {k : Nat} {u : SX} {v : SY} (I : i_Rel k u v) (hk : k + 4 ≤ 2048) (v1 : Int32) : wpX_lose (fun r u' => wpY_lose (fun r' => r' = r ∧ i_Rel (k + 4) u' v) v v1) u v1 := by
  obtain ⟨n, h, dw, z, dm, ce, wo, co, ma, hn, rfl, rfl, R⟩ := I
  unfold wpX_lose wpY_lose
  dsimp only
  by_cases hneg : v1 < 0
  · refine br_t hneg ?_
    exact br_t hneg ⟨rfl, so_mk hn R⟩
  · obtain ⟨x, hx, rfl⟩ := nI_of hneg
    by_cases h5 : x < 5
    · have hl5 : nI x < 5 := nI_lt (b := 5) h5 (by omega)
      have hl4 : nI x ≤ 4 := nI_le (b := 4) (by omega) (by omega)
      by_cases qc : sh_cn ma 8 = 0
      · have hm := sh_cn_z.mp qc
        refine br_f hneg (br_t hl5 ⟨9, sw_any0L (fun i hi => (sh_R_dm R hi).mpr (hm i hi)) (br_t rfl ⟨9, sl_los h5 hm (fun ce' R' => ?_) 8 0 ce rfl R⟩) 8 0 rfl⟩)
        refine br_f hneg (br_t hl4 (sw_yde ?_))
        rw [qc]
        exact br_t (by decide) ⟨rfl, so_mk hn R'⟩
      · have hex : ∃ i, 0 ≤ i ∧ i < 8 ∧ ¬ dm i = -5 := by
          apply Classical.byContradiction
          intro hno
          refine qc (sh_cn_z.mpr (fun i hi => ?_))
          apply Classical.byContradiction
          intro hmi
          exact hno ⟨i, Nat.zero_le i, hi, fun r => hmi ((sh_R_dm R hi).mp r)⟩
        refine br_f hneg (br_t hl5 ⟨9, sw_any1L (br_f (by decide) ?_) 8 0 rfl hex⟩)
        refine br_f hneg (br_t hl4 (sw_yde ?_))
        have hle := sh_cn_le ma 8
        exact br_f (nI_nle (by omega) (by omega)) ⟨rfl, so_mk hn R⟩
    · have hl5 : ¬ nI x < 5 := nI_nlt (b := 5) (by omega) hx
      have hl4 : ¬ nI x ≤ 4 := nI_ge (a := 4) (by omega) hx
      refine br_f hneg (br_f hl5 ?_)
      exact br_f hneg (br_f hl4 ⟨rfl, so_mk hn R⟩)
theorem i_vc_copy {k : Nat} {u : SX} {v : SY} (I : i_Rel k u v) (hk : k + 4 ≤ 2048) (v1 : Int32) (v2 : Int32) : wpX_copy (fun r u' => wpY_copy (fun r' v' => r' = r ∧ i_Rel (k + 4) u' v') v v1 v2) u v1 v2 := by
  obtain ⟨n, h, dw, z, dm, ce, wo, co, ma, hn, rfl, rfl, R⟩ := I
  unfold wpX_copy wpY_copy
  dsimp only
  rcases sw_ext v1 with ⟨a, ha, rfl⟩ | ⟨hx, hy⟩
  · rcases sw_ext v2 with ⟨b, hb, rfl⟩ | ⟨hx, hy⟩
    · rw [sw_cl ha]
      by_cases qm : ma a = 0
      · refine sw_xin ha (br_f (by decide) (sw_xin hb (br_f (by decide) (sw_hd0 ha ((sh_R_dm R ha).mpr qm) (br_t rfl ⟨6, sl_xcp ha hb (fun ce' h1 h2 => ?_) 5 0 ce rfl (fun o ho => absurd ho (by omega)) (fun i _ => rfl)⟩)))))
        exact sw_yin ha (br_f (by decide) (sw_yin hb (br_f (by decide) ⟨sw_in ha, br_t qm ⟨5, sl_ycp ha hb (fun wo' h3 h4 => ⟨rfl, so_mk hn (sh_cpy R ha qm h1 h2 h3 h4)⟩) 4 0 wo rfl (fun o ho => absurd ho (by omega)) (fun i _ => rfl)⟩⟩)))
      · refine sw_xin ha (br_f (by decide) (sw_xin hb (br_f (by decide) (sw_hd1 ha (fun r => qm ((sh_R_dm R ha).mp r)) (br_f (by decide) ?_)))))
        exact sw_yin ha (br_f (by decide) (sw_yin hb (br_f (by decide) ⟨sw_in ha, br_f qm ⟨rfl, so_mk hn R⟩⟩)))
    · refine sw_xin ha (br_f (by decide) (hx _ _ (br_t rfl ?_)))
      exact sw_yin ha (br_f (by decide) (hy _ _ (br_t rfl ⟨rfl, so_mk hn R⟩)))
  · refine hx _ _ (br_t rfl ?_)
    exact hy _ _ (br_t rfl ⟨rfl, so_mk hn R⟩)
theorem i_vc_digest {k : Nat} {u : SX} {v : SY} (I : i_Rel k u v) (hk : k + 4 ≤ 2048) (v1 : Int32) : wpX_digest (fun r => wpY_digest (fun r' => r' = r ∧ i_Rel (k + 4) u v) v v1) u v1 := by
  have J := i_up I
  obtain ⟨n, h, dw, z, dm, ce, wo, co, ma, hn, rfl, rfl, R⟩ := I
  unfold wpX_digest wpY_digest
  dsimp only
  rcases sw_ext v1 with ⟨e, he, rfl⟩ | ⟨hx, hy⟩
  · obtain ⟨w, hw, hz⟩ := sh_R_w R he
    refine sw_xin he (br_f (by decide) ⟨w + 1, sl_xdg R he hz hw ?_ w 0 (by omega)⟩)
    exact sw_yin he (br_f (by decide) ⟨w + 1, sl_ydg he hz hw ⟨rfl, J⟩ w 0 (by omega)⟩)
  · refine hx _ _ (br_t rfl ?_)
    exact hy _ _ (br_t rfl ⟨rfl, J⟩)
end
