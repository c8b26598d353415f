/-! what is so of every run: bounds, whose nonce is whose, and that nothing gets too long -/
def cnt (f : Nat → Bool) : Nat → Nat
  | 0 => 0
  | n + 1 => cnt f n + if f n = true then 1 else 0
theorem cnt_le (f : Nat → Bool) : ∀ n, cnt f n ≤ n
  | 0 => Nat.le_refl _
  | n + 1 => by have := cnt_le f n; simp only [cnt]; split <;> omega
theorem cnt_lt {f : Nat → Bool} {k : Nat} (hk : ¬ f k = true) : ∀ n, k < n → cnt f n + 1 ≤ n
  | 0, h => by omega
  | n + 1, h => by
    simp only [cnt]
    by_cases hkn : k = n
    · subst hkn; rw [if_neg hk]; have := cnt_le f k; omega
    · have := cnt_lt hk n (by omega); split <;> omega
theorem cnt_mono {f g : Nat → Bool} (hfg : ∀ k, f k = true → g k = true) : ∀ n, cnt f n ≤ cnt g n
  | 0 => Nat.le_refl _
  | n + 1 => by
    have := cnt_mono hfg n
    simp only [cnt]
    by_cases hn : f n = true
    · rw [if_pos hn, if_pos (hfg n hn)]; omega
    · rw [if_neg hn]; omega
theorem cnt_add {f g : Nat → Bool} {k : Nat} (hk : ¬ f k = true) (gk : g k = true) (hfg : ∀ i, f i = true → g i = true) : ∀ n, k < n → cnt f n + 1 ≤ cnt g n
  | 0, h => by omega
  | n + 1, h => by
    simp only [cnt]
    by_cases hkn : k = n
    · subst hkn; rw [if_neg hk, if_pos gk]; have := cnt_mono hfg k; omega
    · have := cnt_add hk gk hfg n (by omega)
      by_cases hn : f n = true
      · rw [if_pos hn, if_pos (hfg n hn)]; omega
      · rw [if_neg hn]; omega
def cG (G : Nat → Nat → Bool) : Nat := cnt (G 0) 60 + cnt (G 1) 60 + cnt (G 2) 60 + cnt (G 3) 60 + cnt (G 4) 60 + cnt (G 5) 60
theorem cG_le (G : Nat → Nat → Bool) : cG G ≤ 360 := by
  have h0 := cnt_le (G 0) 60
  have h1 := cnt_le (G 1) 60
  have h2 := cnt_le (G 2) 60
  have h3 := cnt_le (G 3) 60
  have h4 := cnt_le (G 4) 60
  have h5 := cnt_le (G 5) 60
  unfold cG; omega
theorem cG_lt {G : Nat → Nat → Bool} {nd k : Nat} (hnd : nd < 6) (hk : k < 60) (hG : ¬ G nd k = true) : cG G + 1 ≤ 360 := by
  have h0 := cnt_le (G 0) 60
  have h1 := cnt_le (G 1) 60
  have h2 := cnt_le (G 2) 60
  have h3 := cnt_le (G 3) 60
  have h4 := cnt_le (G 4) 60
  have h5 := cnt_le (G 5) 60
  have hx := cnt_lt hG 60 hk
  unfold cG
  match nd, hnd with
  | 0, _ => omega
  | 1, _ => omega
  | 2, _ => omega
  | 3, _ => omega
  | 4, _ => omega
  | 5, _ => omega
  | n + 6, h => omega
def gA (G : Nat → Nat → Bool) (nd k : Nat) : Nat → Nat → Bool := fun x i => G x i || (x == nd && i == k)
theorem gA_up {G : Nat → Nat → Bool} {nd k x i : Nat} (h : G x i = true) : gA G nd k x i = true := by simp [gA, h]
theorem gA_s {G : Nat → Nat → Bool} {nd k : Nat} : gA G nd k nd k = true := by simp [gA]
theorem cG_add {G : Nat → Nat → Bool} {nd k : Nat} (hnd : nd < 6) (hk : k < 60) (hG : ¬ G nd k = true) : cG G + 1 ≤ cG (gA G nd k) := by
  have m : ∀ x, cnt (G x) 60 ≤ cnt (gA G nd k x) 60 := fun x => cnt_mono (fun i hi => gA_up hi) 60
  have a := cnt_add (f := G nd) (g := gA G nd k nd) hG gA_s (fun i hi => gA_up hi) 60 hk
  have m0 := m 0
  have m1 := m 1
  have m2 := m 2
  have m3 := m 3
  have m4 := m 4
  have m5 := m 5
  unfold cG
  match nd, hnd with
  | 0, _ => omega
  | 1, _ => omega
  | 2, _ => omega
  | 3, _ => omega
  | 4, _ => omega
  | 5, _ => omega
  | n + 6, h => omega
def fr0 (b : Nat → Int32) : Prop := b 0 = 0 ∧ b 2 = -1 ∧ b 3 = -1 ∧ b 4 = -1 ∧ b 5 = -1 ∧ b 6 = -1 ∧ b 7 = -1
def eG (N : Nat → Nat) (kb now : Nat) (B : Nat → Nat → Int32) (e : En) : Prop :=
  (∃ nd, nd < N 0 ∧ e.1 0 = nI nd) ∧ (∃ t, t < N 0 ∧ e.1 7 = nI t) ∧ (∃ nm, nm < 531441 ∧ e.1 1 = nI nm) ∧ (∀ i, bI (e.1 3) i = true → i < N 0) ∧ (∃ k, k < kb ∧ e.1 6 = nI k ∧ bL (e.2 5) k = true) ∧ (∀ k, bL (e.2 5) k = true → k < kb ∧ B k 8 = 1 ∧ B k 9 = e.1 1 ∧ B k 10 = e.1 2) ∧ (∀ k, bL (e.2 4) k = true → bL (e.2 5) k = true ∧ fr0 (B k)) ∧ ∃ s, s ≤ now ∧ e.1 9 = nI s
def plG (kb : Nat) (B : Nat → Nat → Int32) (p : Ms) : Prop := (p 0 = 0 ∨ p 0 = 1 ∨ p 0 = 2) ∧ (∃ nm, nm < 531441 ∧ p 4 = nI nm) ∧ (p 0 = 0 → ∃ k, k < kb ∧ p 6 = nI k ∧ B k 8 = 1 ∧ B k 9 = p 4 ∧ B k 10 = p 5)
def pG (N : Nat → Nat) (kb lo : Nat) (B : Nat → Nat → Int32) (p : Ms) : Prop := (∃ f, f < N 0 ∧ p 1 = nI f) ∧ (∃ t, t < N 0 ∧ p 2 = nI t) ∧ (∃ d, lo ≤ d ∧ d ≤ 200 ∧ p 3 = nI d) ∧ plG kb B p
def bG (now : Nat) (b : Nat → Int32) : Prop := (∃ a, a ≤ now ∧ b 1 = nI a) ∧ (fr0 b ∨ (b 0 = 1 ∧ (∃ a c, a ≤ c ∧ c ≤ now ∧ b 1 = nI a ∧ b 2 = nI c) ∧ b 5 = -1 ∧ b 6 = -1 ∧ b 7 = -1) ∨ (b 0 = 2 ∧ b 3 = -1 ∧ b 4 = -1) ∨ (b 0 = 3 ∧ b 3 = -1 ∧ b 4 = -1 ∧ b 5 = -1 ∧ b 6 = -1 ∧ b 7 = -1))
def iB (kb now : Nat) (B : Nat → Nat → Int32) : Prop := ∀ k, B k 8 = 1 → k < kb ∧ bG now (B k)
def pwU (L : List En) : Prop := L.Pairwise (fun e f => ¬ (e.1 0 = f.1 0 ∧ e.1 1 = f.1 1 ∧ e.1 2 = f.1 2))
def pwA (L : List En) : Prop := L.Pairwise (fun e f => ∀ k, ¬ (bL (e.2 4) k = true ∧ bL (f.2 4) k = true))
def iG (D : Nat → Int64) (L : List En) (nF s : Nat) (G : Nat → Nat → Bool) : Prop :=
  (∀ nd k, nd < 6 → bL (D nd) k = true → G nd k = true) ∧ (∀ e ∈ L, ∀ nd k, nd < 6 → e.1 0 = nI nd → bL (e.2 5) k = true → G nd k = true) ∧ (∀ nd k, nd < 6 → G nd k = true → bL (D nd) k = true ∨ ∃ e ∈ L, e.1 0 = nI nd ∧ bL (e.2 5) k = true) ∧ nF + cbL L + s ≤ cG G ∧ ∀ nd, nd < 6 → (L.filter (atN nd)).length ≤ cnt (G nd) 60
def Inv (N : Nat → Nat) (kb lo s : Nat) (st : St) : Prop :=
  kb ≤ 60 ∧ s_n st ≤ 99 ∧ (∀ e ∈ s_L st, eG N kb (s_n st) (s_B st) e) ∧ (∀ p ∈ s_F st, pG N kb lo (s_B st) p) ∧ mOk (s_M st) ∧ (∀ nd k, nd < 6 → bL (s_D st nd) k = true → k < kb) ∧ (∀ nd, nd < 6 → (s_S st nd).length ≤ N (5 + nd)) ∧ iB kb (s_n st) (s_B st) ∧ pwU (s_L st) ∧ pwA (s_L st) ∧ ∃ G, iG (s_D st) (s_L st) (s_F st).length s G
section Inv
variable {N : Nat → Nat} {aw : Int32} {kb lo s : Nat} {st : St}
/-- a fate changes where nobody looks -/
def sB8 (B B' : Nat → Nat → Int32) : Prop := ∀ k i, 8 ≤ i → B' k i = B k i
theorem plG.kp {B B' : Nat → Nat → Int32} {p : Ms} (v : plG kb B p) (h : sB8 B B') : plG kb B' p := by
  refine ⟨v.1, v.2.1, fun h0 => ?_⟩
  obtain ⟨k, h1, h2, h3, h4, h5⟩ := v.2.2 h0
  exact ⟨k, h1, h2, by rw [h k 8 (by omega)]; exact h3, by rw [h k 9 (by omega)]; exact h4, by rw [h k 10 (by omega)]; exact h5⟩
theorem pG.kp {B B' : Nat → Nat → Int32} {p : Ms} (v : pG N kb lo B p) (h : sB8 B B') : pG N kb lo B' p := ⟨v.1, v.2.1, v.2.2.1, v.2.2.2.kp h⟩
theorem eG.kp {B B' : Nat → Nat → Int32} {now : Nat} {e : En} (v : eG N kb now B e) (h : sB8 B B') (ha : ∀ k, bL (e.2 4) k = true → fr0 (B k) → fr0 (B' k)) : eG N kb now B' e := by
  obtain ⟨v1, v2, v3, v4, v5, v6, v7, v8⟩ := v
  refine ⟨v1, v2, v3, v4, v5, fun k hk => ?_, fun k hk => ⟨(v7 k hk).1, ha k hk (v7 k hk).2⟩, v8⟩
  obtain ⟨q1, q2, q3, q4⟩ := v6 k hk
  exact ⟨q1, by rw [h k 8 (by omega)]; exact q2, by rw [h k 9 (by omega)]; exact q3, by rw [h k 10 (by omega)]; exact q4⟩
theorem fSet_8 {b : Nat → Int32} {now i : Nat} {p : Ms} (hi : 8 ≤ i) : fSet b now p i = b i := by
  unfold fSet
  split
  · rw [if_neg (by omega), if_neg (by omega), if_neg (by omega), if_neg (by omega)]
  · rw [if_neg (by omega), if_neg (by omega), if_neg (by omega), if_neg (by omega), if_neg (by omega)]
theorem bG_set {now : Nat} {b : Nat → Int32} {p : Ms} (v : bG now b) (hf : fr0 b) (hp : p 0 = 1 ∨ p 0 = 2) : bG now (fSet b now p) := by
  obtain ⟨⟨a, a1, a2⟩, -⟩ := v
  obtain ⟨f0, f2, f3, f4, f5, f6, f7⟩ := hf
  rcases hp with hp | hp
  · refine ⟨⟨a, a1, by simp [fSet, hp, a2]⟩, Or.inr (Or.inl ⟨by simp [fSet, hp], ⟨a, now, a1, Nat.le_refl _, by simp [fSet, hp, a2], by simp [fSet, hp]⟩, by simp [fSet, hp, f5], by simp [fSet, hp, f6], by simp [fSet, hp, f7]⟩)⟩
  · have hp1 : ¬ p 0 = 1 := by rw [hp]; decide
    exact ⟨⟨a, a1, by simp [fSet, hp1, a2]⟩, Or.inr (Or.inr (Or.inl ⟨by simp [fSet, hp1], by simp [fSet, hp1, f3], by simp [fSet, hp1, f4]⟩))⟩
/-- what is sent is good -/
theorem msg_G {B : Nat → Nat → Int32} {a b l now : Nat} {p : Ms} (ok : nOk N) (ha : a < N 0) (hb : b < N 0) (hl : l < N 2) (hlo : lo ≤ now + 1) (hn : now ≤ 99) (hp : plG kb B p) : pG N kb lo B (msg a b (nI (now + N (13 + 3 * l))) p) := by
  have := ok.2.2.2.2.2.2.1 l hl
  exact ⟨⟨a, ha, rfl⟩, ⟨b, hb, rfl⟩, ⟨now + N (13 + 3 * l), by omega, by omega, rfl⟩, hp⟩
theorem send_X {a b : Nat} {p : Ms} (ok : nOk N) (ha : a < N 0) (hb : b < N 0) (hlo : lo ≤ s_n st + 1) (hn : s_n st ≤ 99) (hp : plG kb (s_B st) p) : ∃ X, s_F (send N aw st a b p) = s_F st ++ X ∧ X.length ≤ 1 ∧ ∀ q ∈ X, pG N kb lo (s_B st) q := by
  unfold send
  cases hu : upL N aw (s_d st) (6 * a + b) with
  | none => exact ⟨[], by simp [tick, q_T], by simp, fun q hq => by cases hq⟩
  | some l =>
    refine ⟨[msg a b (nI (s_n st + N (13 + 3 * l))) p], rfl, by simp, fun q hq => ?_⟩
    rw [List.mem_singleton.mp hq]
    exact msg_G ok ha hb (upL_lt hu).1 hlo hn hp
theorem inv_send {a b : Nat} {p : Ms} (ok : nOk N) (I : Inv N kb lo (s + 1) st) (ha : a < N 0) (hb : b < N 0) (hlo : lo ≤ s_n st + 1) (hp : plG kb (s_B st) p) : Inv N kb lo s (send N aw st a b p) := by
  obtain ⟨i0, i1, i2, i3, i4, i5, i6, i7, i8, i9, G, g1, g2, g3, g4, g5⟩ := I
  obtain ⟨k1, k2, k3, k4, k5, k6, k7⟩ := send_k (N := N) (aw := aw) (st := st) (a := a) (b := b) (p := p)
  obtain ⟨X, x1, x2, x3⟩ := send_X (aw := aw) ok ha hb hlo i1 hp
  unfold Inv
  rw [k1, k3, k4, k5, k6, k7, x1]
  refine ⟨i0, i1, i2, fun q hq => ?_, i4, i5, i6, i7, i8, i9, G, g1, g2, g3, ?_, g5⟩
  · rcases List.mem_append.mp hq with hq | hq
    · exact i3 q hq
    · exact x3 q hq
  · rw [List.length_append]; omega
theorem inv_tick {i : Nat} (I : Inv N kb lo s st) : Inv N kb lo s (tick st i) := I
theorem inv_sl {s' : Nat} (I : Inv N kb lo s st) (h : s' ≤ s) : Inv N kb lo s' st := by
  obtain ⟨i0, i1, i2, i3, i4, i5, i6, i7, i8, i9, G, g1, g2, g3, g4, g5⟩ := I
  exact ⟨i0, i1, i2, i3, i4, i5, i6, i7, i8, i9, G, g1, g2, g3, by omega, g5⟩
theorem inv_settle {k : Nat} {p : Ms} (I : Inv N kb lo s st) (hk : s_B st k 8 = 1) (hf : fr0 (s_B st k)) (hp : p 0 = 1 ∨ p 0 = 2) (hno : ∀ e ∈ s_L st, ¬ bL (e.2 4) k = true) : Inv N kb lo s (settle st k p) := by
  obtain ⟨i0, i1, i2, i3, i4, i5, i6, i7, i8, i9, i10⟩ := I
  have h8 : sB8 (s_B st) (s_B (settle st k p)) := fun k' i hi => by
    show ug (s_B st) k (fSet (s_B st k) (s_n st) p) k' i = _
    by_cases hkk : k' = k
    · subst hkk; rw [ug_e, fSet_8 hi]
    · rw [ug_n hkk]
  refine ⟨i0, i1, fun e he => (i2 e he).kp h8 (fun k' hk' hf' => ?_), fun q hq => (i3 q hq).kp h8, i4, i5, i6, fun k' hk' => ?_, i8, i9, i10⟩
  · have : k' ≠ k := fun hh => hno e he (hh ▸ hk')
    show fr0 (ug (s_B st) k (fSet (s_B st k) (s_n st) p) k')
    rw [ug_n this]; exact hf'
  · have h1 := i7 k' (by rw [← h8 k' 8 (by omega)]; exact hk')
    refine ⟨h1.1, ?_⟩
    show bG (s_n st) (ug (s_B st) k (fSet (s_B st k) (s_n st) p) k')
    by_cases hkk : k' = k
    · subst hkk; rw [ug_e]; exact bG_set h1.2 hf hp
    · rw [ug_n hkk]; exact h1.2
theorem inv_answ {nd k : Nat} {fr : Option Nat} {p : Ms} (ok : nOk N) (I : Inv N kb lo s st) (hnd : nd < N 0) (hf : ∀ f, fr = some f → f < N 0 ∧ 1 ≤ s) (hlo : lo ≤ s_n st + 1) (hk : fr = none → s_B st k 8 = 1 ∧ fr0 (s_B st k) ∧ ∀ e ∈ s_L st, ¬ bL (e.2 4) k = true) (hp : p 0 = 1 ∨ p 0 = 2) (hpl : plG kb (s_B st) p) : Inv N kb lo 0 (answ N aw st nd fr k p) := by
  cases fr with
  | none =>
    obtain ⟨h1, h2, h3⟩ := hk rfl
    exact inv_sl (inv_settle I h1 h2 hp h3) (Nat.zero_le _)
  | some f =>
    obtain ⟨h1, h2⟩ := hf f rfl
    exact inv_send ok (inv_sl I (by omega)) hnd h1 hlo hpl
theorem cb_or {x : Int32} {f : Nat} (hf : f < 32) : ∀ d i, cb (x ||| pI f) d i ≤ cb x d i + if i ≤ f ∧ f < i + d then 1 else 0 := by
  intro d
  induction d with
  | zero => intro i; simp [cb]
  | succ d ih =>
    intro i
    have h1 := ih (i + 1)
    have h2 : bI (x ||| pI f) i = (bI x i || decide (f = i)) := by rw [bI_or]; show (bI x i || bI ((1 : Int32) <<< (nI f &&& 31)) i) = _; rw [bI_p hf]
    simp only [cb, h2]
    by_cases hfi : f = i
    · subst hfi
      have h3 : ¬ (f + 1 ≤ f ∧ f < f + 1 + d) := by omega
      rw [if_neg h3] at h1
      rw [if_pos (show f ≤ f ∧ f < f + (d + 1) by omega)]
      cases bI x f <;> simp <;> omega
    · have : (if i ≤ f ∧ f < i + (d + 1) then 1 else 0) = (if i + 1 ≤ f ∧ f < i + 1 + d then 1 else 0) := by
        by_cases hc : i ≤ f ∧ f < i + (d + 1)
        · rw [if_pos hc, if_pos (by omega)]
        · rw [if_neg hc, if_neg (by omega)]
      rw [this]
      simp only [hfi, decide_false, Bool.or_false]
      omega
theorem cb_0 : ∀ d i, cb 0 d i = 0 := by
  intro d
  induction d with
  | zero => exact fun i => rfl
  | succ d ih => intro i; simp only [cb, bI_0, ih]; simp
theorem cb_join {e : En} {fr : Option Nat} {k : Nat} (hf : ∀ f, fr = some f → f < 6) : cb ((eJoin e fr k).1 3) 6 0 ≤ cb (e.1 3) 6 0 + if fr.isSome = true then 1 else 0 := by
  cases fr with
  | none => simp [eJoin]
  | some f =>
    have := hf f rfl
    have h1 := cb_or (x := e.1 3) (show f < 32 by omega) 6 0
    rw [if_pos (by omega)] at h1
    simpa [eJoin] using h1
theorem cbL_mid {u w : List En} {e : En} : cbL (u ++ e :: w) = cbL u + cb (e.1 3) 6 0 + cbL w := by simp [cbL]; omega
theorem len_flt {L : List En} (h : ∀ e ∈ L, ∃ nd, nd < 6 ∧ e.1 0 = nI nd) : L.length = (L.filter (atN 0)).length + (L.filter (atN 1)).length + (L.filter (atN 2)).length + (L.filter (atN 3)).length + (L.filter (atN 4)).length + (L.filter (atN 5)).length := by
  induction L with
  | nil => rfl
  | cons e L ih =>
    obtain ⟨nd, n1, n2⟩ := h e (by simp)
    have ih := ih (fun a ha => h a (by simp [ha]))
    have st : ∀ x, x < 6 → ((e :: L).filter (atN x)).length = (L.filter (atN x)).length + if nd = x then 1 else 0 := fun x hx => by
      by_cases hc : nd = x
      · rw [List.filter_cons_of_pos (by rw [atN_x n2 hx n1]; simp [hc]), if_pos hc]; rfl
      · rw [List.filter_cons_of_neg (by rw [atN_x n2 hx n1]; simp [hc]), if_neg hc]; rfl
    rw [st 0 (by omega), st 1 (by omega), st 2 (by omega), st 3 (by omega), st 4 (by omega), st 5 (by omega), List.length_cons]
    match nd, n1 with
    | 0, _ => simp; omega
    | 1, _ => simp; omega
    | 2, _ => simp; omega
    | 3, _ => simp; omega
    | 4, _ => simp; omega
    | 5, _ => simp; omega
    | n + 6, h => omega
/-- a nonce that is new at a node -/
theorem new_G {nd k nm : Nat} {ws : Int32} {G : Nat → Nat → Bool} (I : Inv N kb lo s st) (g : iG (s_D st) (s_L st) (s_F st).length s G) (hnd : nd < 6) (h9 : s_B st k 9 = nI nm) (h10 : s_B st k 10 = ws) (hq : fs (isE nd (nI nm) ws) (s_L st) = none) (hd : ¬ bL (s_D st nd) k = true) : ¬ G nd k = true := by
  intro hG
  rcases g.2.2.1 nd k hnd hG with hh | ⟨e, h1, h2, h3⟩
  · exact hd hh
  · obtain ⟨-, -, -, -, -, v6, -, -⟩ := I.2.2.1 e h1
    obtain ⟨-, -, q3, q4⟩ := v6 k h3
    have := fs_none hq e h1
    simp only [isE, decide_eq_false_iff_not] at this
    exact this ⟨h2, by rw [← q3, h9], by rw [← q4, h10]⟩
theorem room {nd k nm : Nat} {ws : Int32} (ok : nOk N) (I : Inv N kb lo s st) (hnd : nd < 6) (hk : k < 60) (h9 : s_B st k 9 = nI nm) (h10 : s_B st k 10 = ws) (hq : fs (isE nd (nI nm) ws) (s_L st) = none) (hd : ¬ bL (s_D st nd) k = true) : (s_L st).length < 360 ∧ ((s_L st).filter (atN nd)).length ≤ 59 ∧ (s_F st).length < 360 := by
  obtain ⟨G, g⟩ := I.2.2.2.2.2.2.2.2.2.2
  have b0 := ok.1
  have nG := new_G I g hnd h9 h10 hq hd
  have l1 := cG_lt hnd hk nG
  have l2 := cnt_lt nG 60 hk
  have gg := g.2.2.2.2
  have lf := len_flt (L := s_L st) (fun e he => by
    obtain ⟨x, x1, x2⟩ := (I.2.2.1 e he).1
    exact ⟨x, by omega, x2⟩)
  have g0 := gg 0 (by omega)
  have g1 := gg 1 (by omega)
  have g2 := gg 2 (by omega)
  have g3 := gg 3 (by omega)
  have g4 := gg 4 (by omega)
  have g5 := gg 5 (by omega)
  have gn := gg nd hnd
  have g6 := g.2.2.2.1
  unfold cG at l1 g6
  refine ⟨by omega, by omega, by omega⟩
end Inv
