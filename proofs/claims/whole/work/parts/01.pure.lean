theorem pk_us {f : Nat → Int32} {k : Nat} {x : Int32} : upd f k x k = x := if_pos rfl
theorem pk_un {f : Nat → Int32} {k j : Nat} {x : Int32} (h : j ≠ k) : upd f k x j = f j := if_neg h
theorem pk_sub {a b : Nat} (h : b ≤ a) : nI a - nI b = nI (a - b) := by
  obtain ⟨c, rfl⟩ : ∃ c, a = c + b := ⟨a - b, by omega⟩
  rw [← nI_add, Int32.add_sub_cancel, Nat.add_sub_cancel]
theorem pk_m1 (n : Nat) : nI (n + 1) + (-1) = nI n := by
  rw [← nI_1, Int32.add_assoc, show (1 : Int32) + (-1) = 0 from rfl, Int32.add_zero]
theorem pk_mul (a b : Nat) : nI a * nI b = nI (a * b) := (Int32.ofNat_mul a b).symm
theorem pk_ix (x : Int32) {n : Nat} (hn : n < 2 ^ 31) : x < 0 ∨ nI n ≤ x ∨ ∃ j : Nat, j < n ∧ x = nI j := by
  by_cases h : x < 0
  · exact Or.inl h
  · obtain ⟨j, hj, rfl⟩ := nI_of h
    by_cases h2 : j < n
    · exact Or.inr (Or.inr ⟨j, h2, rfl⟩)
    · exact Or.inr (Or.inl (nI_le (by omega) hj))
theorem pk_le {x y : Int32} {A B : Prop} (a b : Nat) (f : a ≤ b → A) (g : b < a → B) (hx : x = nI a := by rfl) (hy : y = nI b := by rfl) (ha : a < 2 ^ 31 := by omega) (hb : b < 2 ^ 31 := by omega) : (x ≤ y → A) ∧ (¬ x ≤ y → B) := by
  subst hx hy
  rw [nI_leI ha hb]
  exact ⟨f, fun z => g (by omega)⟩
theorem pk_lt {x y : Int32} {A B : Prop} (a b : Nat) (f : a < b → A) (g : b ≤ a → B) (hx : x = nI a := by rfl) (hy : y = nI b := by rfl) (ha : a < 2 ^ 31 := by omega) (hb : b < 2 ^ 31 := by omega) : (x < y → A) ∧ (¬ x < y → B) := by
  subst hx hy
  rw [nI_ltI ha hb]
  exact ⟨f, fun z => g (by omega)⟩
theorem pk_eq {x y : Int32} {A B : Prop} (a b : Nat) (f : a = b → A) (g : a ≠ b → B) (hx : x = nI a := by rfl) (hy : y = nI b := by rfl) (ha : a < 2 ^ 31 := by omega) (hb : b < 2 ^ 31 := by omega) : (x = y → A) ∧ (¬ x = y → B) := by
  subst hx hy
  rw [nI_eq ha hb]
  exact ⟨f, g⟩
theorem pk_in {x : Int32} (n N : Nat) (h : n < N) (hx : x = nI n := by rfl) (hN : N < 2 ^ 31 := by omega) : vp_in x N := by
  subst hx
  exact vp_in_nI h hN
theorem pk_cl {x : Int32} (n : Nat) (hx : x = nI n := by rfl) (h : n < 2 ^ 31 := by omega) : x.toNatClampNeg = n := by
  subst hx
  exact nI_clamp h
theorem pk_loop {σ : Type} (W : Nat → Nat → σ → Prop) (I : Nat → σ → Prop) (e i0 : Nat) (s : σ) (hi : i0 ≤ e) (h0 : I i0 s) (hx : ∀ n s, I e s → W (n + 1) e s)
    (hs : ∀ n i s, i < e → I i s → (∀ s', I (i + 1) s' → W n (i + 1) s') → W (n + 1) i s) : ∃ n, W n i0 s :=
  ⟨e + 1, loop_i W I e hx hs (e + 1) i0 s hi (by omega) h0⟩
/-! the pure side: exclusive-ors of columns, what an extent is, what each call does with one -/
theorem sh_n5 : (5 : Int32) = nI 5 := rfl
theorem sh_n4 : (4 : Int32) = nI 4 := rfl
theorem sh_cell (e o : Nat) : nI e * 5 + nI o = nI (e * 5 + o) := by
  rw [sh_n5, pk_mul, nI_add]
theorem sh_word (e i : Nat) : 4 * nI e + nI i = nI (4 * e + i) := by
  rw [sh_n4, pk_mul, nI_add]
theorem sh_zx (a : Int32) : 0 ^^^ a = a := by rw [Int32.xor_comm, Int32.xor_zero]
theorem sh_xx (a b : Int32) : (a ^^^ b) ^^^ b = a := by rw [Int32.xor_assoc, Int32.xor_self, Int32.xor_zero]
def sh_px (f : Nat → Int32) : Nat → Int32
  | 0 => 0
  | n + 1 => sh_px f n ^^^ f n
def sh_sx (f : Nat → Int32) (c : Nat) : Nat → Int32
  | 0 => 0
  | n + 1 => if n = c then sh_sx f c n else sh_sx f c n ^^^ f n
theorem sh_px_s (f : Nat → Int32) (n : Nat) : sh_px f (n + 1) = sh_px f n ^^^ f n := rfl
theorem sh_sx_c (f : Nat → Int32) (c : Nat) : sh_sx f c (c + 1) = sh_sx f c c := if_pos rfl
theorem sh_sx_n {f : Nat → Int32} {c n : Nat} (h : n ≠ c) : sh_sx f c (n + 1) = sh_sx f c n ^^^ f n := if_neg h
theorem sh_px_congr {f g : Nat → Int32} : ∀ {n : Nat}, (∀ i, i < n → f i = g i) → sh_px f n = sh_px g n
  | 0, _ => rfl
  | n + 1, h => by
    rw [sh_px_s, sh_px_s, sh_px_congr (n := n) (fun i hi => h i (by omega)), h n (by omega)]
theorem sh_sx_congr {f g : Nat → Int32} {c : Nat} : ∀ {n : Nat}, (∀ i, i < n → i ≠ c → f i = g i) → sh_sx f c n = sh_sx g c n
  | 0, _ => rfl
  | n + 1, h => by
    have ih := sh_sx_congr (f := f) (g := g) (c := c) (n := n) (fun i hi hc => h i (by omega) hc)
    by_cases e : n = c
    · subst e
      rw [sh_sx_c, sh_sx_c, ih]
    · rw [sh_sx_n e, sh_sx_n e, ih, h n (by omega) e]
theorem sh_sx_miss {f : Nat → Int32} {c : Nat} : ∀ {n : Nat}, n ≤ c → sh_sx f c n = sh_px f n
  | 0, _ => rfl
  | n + 1, h => by
    rw [sh_sx_n (show n ≠ c from by omega), sh_px_s, sh_sx_miss (n := n) (show n ≤ c from by omega)]
theorem sh_sx_hit {f : Nat → Int32} {c : Nat} : ∀ {n : Nat}, c < n → sh_sx f c n ^^^ f c = sh_px f n
  | 0, h => by omega
  | n + 1, h => by
    by_cases e : n = c
    · subst e
      rw [sh_sx_c, sh_px_s, sh_sx_miss (Nat.le_refl _)]
    · rw [sh_sx_n e, sh_px_s, ← sh_sx_hit (f := f) (c := c) (n := n) (by omega), Int32.xor_assoc, Int32.xor_assoc, Int32.xor_comm (f n) (f c)]
/-- column c of an extent of w words g, sound -/
def sh_p (g : Nat → Int32) (w c : Nat) : Int32 := if c < w then g c else sh_px g w
theorem sh_p_w {g : Nat → Int32} {w c : Nat} (h : c < w) : sh_p g w c = g c := if_pos h
theorem sh_p_p (g : Nat → Int32) (w : Nat) : sh_p g w w = sh_px g w := if_neg (Nat.lt_irrefl w)
theorem sh_sound {f g : Nat → Int32} {w c : Nat} (hc : c ≤ w) (h : ∀ o, o ≤ w → o ≠ c → f o = sh_p g w o) : sh_sx f c (w + 1) = sh_p g w c := by
  rw [sh_sx_congr (f := f) (g := sh_p g w) (c := c) (n := w + 1) (fun i hi hn => h i (by omega) hn)]
  have h1 := sh_sx_hit (f := sh_p g w) (c := c) (n := w + 1) (by omega)
  rw [sh_px_s, sh_p_p, sh_px_congr (f := sh_p g w) (g := g) (n := w) (fun i hi => sh_p_w hi), Int32.xor_self] at h1
  exact Int32.xor_eq_zero_iff.mp h1
/-- what the damage is in column c -/
def sh_d (co m : Int32) (c : Nat) : Int32 := if co = nI c then m else 0
theorem sh_d_0 (co : Int32) (c : Nat) : sh_d co 0 c = 0 := by unfold sh_d; split <;> rfl
theorem sh_d_y (c : Nat) (m : Int32) : sh_d (nI c) m c = m := if_pos rfl
theorem sh_d_n {a c : Nat} (m : Int32) (ha : a < 2 ^ 31) (hc : c < 2 ^ 31) (h : a ≠ c) : sh_d (nI a) m c = 0 := if_neg (fun z => h ((nI_eq ha hc).mp z))
theorem sh_m5 {c : Nat} (h : c < 2 ^ 31) : nI c ≠ -5 := by
  intro z
  have h1 : (nI c).toInt = (-5 : Int32).toInt := by rw [z]
  rw [nI_toInt h, show (-5 : Int32).toInt = -5 from by decide] at h1
  omega
/-- one extent: X's size, damaged column and columns f; Y's words g, column and mask -/
def sh_Ext (z dm : Int32) (f g : Nat → Int32) (co ma : Int32) : Prop :=
  ∃ w : Nat, w ≤ 4 ∧ z = nI w ∧ ((ma = 0 ∧ dm = -5) ∨ (ma ≠ 0 ∧ 0 < w ∧ ∃ c : Nat, c ≤ w ∧ co = nI c ∧ dm = nI c)) ∧
    (0 < w → ∀ o, o ≤ w → f o = sh_p g w o ^^^ sh_d co ma o)
theorem sh_Ext_congr {z dm : Int32} {f g f' g' : Nat → Int32} {co ma : Int32} (h : sh_Ext z dm f g co ma) (hf : ∀ o, o < 5 → f' o = f o) (hg : ∀ i, i < 4 → g' i = g i) : sh_Ext z dm f' g' co ma := by
  obtain ⟨w, hw, hz, hd, hc⟩ := h
  refine ⟨w, hw, hz, hd, fun h0 o ho => ?_⟩
  rw [hf o (by omega), hc h0 o ho]
  have e : sh_px g' w = sh_px g w := sh_px_congr (fun i hi => hg i (by omega))
  by_cases q : o < w
  · rw [sh_p_w q, sh_p_w q, hg o (by omega)]
  · have : o = w := by omega
    subst this
    rw [sh_p_p, sh_p_p, e]
/-- sound extents -/
theorem sh_Ext_ok {w : Nat} {f g : Nat → Int32} (co : Int32) (hw : w ≤ 4) (hc : 0 < w → ∀ o, o ≤ w → f o = sh_p g w o) : sh_Ext (nI w) (-5) f g co 0 :=
  ⟨w, hw, rfl, Or.inl ⟨rfl, rfl⟩, fun h0 o ho => by rw [sh_d_0, Int32.xor_zero]; exact hc h0 o ho⟩
theorem sh_Ext_0 (f g : Nat → Int32) (co : Int32) : sh_Ext 0 (-5) f g co 0 :=
  sh_Ext_ok (w := 0) co (by omega) (fun h => absurd h (by omega))
/-- a damaged one -/
theorem sh_Ext_bad {w c : Nat} {f g : Nat → Int32} {m : Int32} (hw : w ≤ 4) (h0 : 0 < w) (hcw : c ≤ w) (hm : m ≠ 0) (hc : f c = sh_p g w c ^^^ m) (hn : ∀ o, o ≤ w → o ≠ c → f o = sh_p g w o) : sh_Ext (nI w) (nI c) f g (nI c) m := by
  refine ⟨w, hw, rfl, Or.inr ⟨hm, h0, c, hcw, rfl, rfl⟩, fun _ o ho => ?_⟩
  by_cases e : o = c
  · subst e
    rw [sh_d_y]; exact hc
  · rw [sh_d_n m (by omega) (by omega) (fun z => e z.symm), Int32.xor_zero]; exact hn o ho e
/-- an extent is sound, or damaged in a column: the two shapes -/
theorem sh_Ext_cases {z dm : Int32} {f g : Nat → Int32} {co ma : Int32} (h : sh_Ext z dm f g co ma) :
    ∃ w : Nat, w ≤ 4 ∧ z = nI w ∧ ((ma = 0 ∧ dm = -5 ∧ (0 < w → ∀ o, o ≤ w → f o = sh_p g w o)) ∨
      (ma ≠ 0 ∧ 0 < w ∧ ∃ c : Nat, c ≤ w ∧ co = nI c ∧ dm = nI c ∧ f c = sh_p g w c ^^^ ma ∧ ∀ o, o ≤ w → o ≠ c → f o = sh_p g w o)) := by
  obtain ⟨w, hw, hz, hd, hc⟩ := h
  refine ⟨w, hw, hz, ?_⟩
  rcases hd with ⟨hm, hd⟩ | ⟨hm, h0, c, hcw, hco, hd⟩
  · refine Or.inl ⟨hm, hd, fun h0 o ho => ?_⟩
    have := hc h0 o ho
    rw [hm, sh_d_0, Int32.xor_zero] at this
    exact this
  · refine Or.inr ⟨hm, h0, c, hcw, hco, hd, ?_, fun o ho hn => ?_⟩
    · have := hc h0 c hcw
      rw [hco, sh_d_y] at this
      exact this
    · have := hc h0 o ho
      rw [hco, sh_d_n ma (by omega) (by omega) (fun z => hn z.symm), Int32.xor_zero] at this
      exact this
/-- all extents: X's sizes, damaged columns, cells; Y's words, columns, masks -/
def sh_R (z dm ce wo co ma : Nat → Int32) : Prop :=
  ∀ e, e < 8 → sh_Ext (z e) (dm e) (fun o => ce (e * 5 + o)) (fun i => wo (4 * e + i)) (co e) (ma e)
theorem sh_R_set {z dm ce wo co ma z' dm' ce' wo' co' ma' : Nat → Int32} (e : Nat) (h : sh_R z dm ce wo co ma)
    (hz : ∀ j, j ≠ e → z' j = z j) (hd : ∀ j, j ≠ e → dm' j = dm j) (hce : ∀ j o, j ≠ e → o < 5 → ce' (j * 5 + o) = ce (j * 5 + o))
    (hwo : ∀ j i, j ≠ e → i < 4 → wo' (4 * j + i) = wo (4 * j + i)) (hco : ∀ j, j ≠ e → co' j = co j) (hma : ∀ j, j ≠ e → ma' j = ma j)
    (hE : sh_Ext (z' e) (dm' e) (fun o => ce' (e * 5 + o)) (fun i => wo' (4 * e + i)) (co' e) (ma' e)) : sh_R z' dm' ce' wo' co' ma' := by
  intro j hj
  by_cases q : j = e
  · subst q; exact hE
  · rw [hz j q, hd j q, hco j q, hma j q]
    exact sh_Ext_congr (h j hj) (fun o ho => hce j o q ho) (fun i hi => hwo j i q hi)
theorem sh_R_w {z dm ce wo co ma : Nat → Int32} (h : sh_R z dm ce wo co ma) {e : Nat} (he : e < 8) : ∃ w : Nat, w ≤ 4 ∧ z e = nI w := by
  obtain ⟨w, hw, hz, _⟩ := h e he
  exact ⟨w, hw, hz⟩
theorem sh_R_dm {z dm ce wo co ma : Nat → Int32} (h : sh_R z dm ce wo co ma) {e : Nat} (he : e < 8) : dm e = -5 ↔ ma e = 0 := by
  obtain ⟨w, hw, hz, hd, _⟩ := h e he
  rcases hd with ⟨hm, hd⟩ | ⟨hm, h0, c, hcw, hco, hd⟩
  · exact ⟨fun _ => hm, fun _ => hd⟩
  · exact ⟨fun q => absurd (hd.symm.trans q) (sh_m5 (by omega)), fun q => absurd q hm⟩
theorem sh_un5 {ce : Nat → Int32} {e c : Nat} {v : Int32} (hc : c < 5) : ∀ j o, j ≠ e → o < 5 → upd ce (e * 5 + c) v (j * 5 + o) = ce (j * 5 + o) :=
  fun j o hj ho => pk_un (by omega)
theorem sh_ue5 {ce : Nat → Int32} {e c o : Nat} {v : Int32} (h : o ≠ c) : upd ce (e * 5 + c) v (e * 5 + o) = ce (e * 5 + o) := pk_un (by omega)
/-- how many of the first n extents are damaged -/
def sh_cn (ma : Nat → Int32) : Nat → Nat
  | 0 => 0
  | n + 1 => if ma n = 0 then sh_cn ma n else sh_cn ma n + 1
theorem sh_cn_0 {ma : Nat → Int32} {n : Nat} (h : ma n = 0) : sh_cn ma (n + 1) = sh_cn ma n := if_pos h
theorem sh_cn_1 {ma : Nat → Int32} {n : Nat} (h : ¬ ma n = 0) : sh_cn ma (n + 1) = sh_cn ma n + 1 := if_neg h
theorem sh_cn_le (ma : Nat → Int32) : ∀ n, sh_cn ma n ≤ n
  | 0 => Nat.le_refl _
  | n + 1 => by
    have ih := sh_cn_le ma n
    by_cases h : ma n = 0
    · rw [sh_cn_0 h]; omega
    · rw [sh_cn_1 h]; omega
theorem sh_cn_z {ma : Nat → Int32} : ∀ {n : Nat}, sh_cn ma n = 0 ↔ ∀ j, j < n → ma j = 0
  | 0 => ⟨fun _ j hj => absurd hj (by omega), fun _ => rfl⟩
  | n + 1 => by
    have ih := sh_cn_z (ma := ma) (n := n)
    by_cases h : ma n = 0
    · rw [sh_cn_0 h, ih]
      constructor
      · intro q j hj
        by_cases e : j = n
        · subst e; exact h
        · exact q j (by omega)
      · intro q j hj
        exact q j (by omega)
    · rw [sh_cn_1 h]
      constructor
      · intro q; omega
      · intro q; exact absurd (q n (by omega)) h
/-- the digest's sum -/
def sh_ds (g : Nat → Int32) : Nat → Int32
  | 0 => 0
  | n + 1 => sh_ds g n + nI (n + 1) * g n
theorem sh_ds_s (g : Nat → Int32) (n : Nat) : sh_ds g (n + 1) = sh_ds g n + nI (n + 1) * g n := rfl
