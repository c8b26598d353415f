/-! reading: verbs, on both sides -/
def vw (v i : Nat) : Int32 := (es_byt.getD v []).getD i 0
def vl (v : Nat) : Nat := es_len.getD v 0
def vc (v : Nat) : Nat := ([474315253107, 1818846821, 1919905645, 1818848875, 491496240229, 495623239269, 6386539, 440005915496, 2002872692, 6518132, 1835363940, 6778740, 1819243380] : List Nat).getD v 0
theorem vc_w : ∀ v, v < 13 → vc v = wB (vw v) 0 (vl v) ∧ vc v < 9223372036854775808 ∧ 0 < vc v ∧ vl v ≤ 5 ∧ slen v = nI (vl v) ∧ ∀ i, i < vl v → (97 ≤ cz (vw v i) ∧ cz (vw v i) ≤ 122 ∧ vw v i = nI (cz (vw v i))) := by decide +kernel
theorem vw_u : ∀ v, v < 13 → ∀ v', v' < 13 → v ≠ v' → ¬ (vl v = vl v' ∧ ∀ i, i < vl v → vw v i = vw v' i) := by decide +kernel
/-- the word from b on, of k letters, is the verb v -/
def isV' (t : Nat → Int32) (b k v : Nat) : Prop := k = vl v ∧ ∀ i, i < k → t (b + i) = vw v i
section Verb
variable {K1 K2 : Ly} {n r u m l a b kd : Nat} {h1 h2 : Hp} {t : Nat → Int32}
theorem wB_half {t : Nat → Int32} {b : Nat} : ∀ k, (∀ i, b ≤ i → i < b + k → 97 ≤ cz (t i) ∧ cz (t i) ≤ 122) → 2 * wB t b k < 256 ^ k := by
  intro k
  induction k with
  | zero => intro _; simp [wB]
  | succ k ih =>
    intro h
    have i1 := ih (fun i h1 h2 => h i h1 (by omega))
    obtain ⟨c1, c2⟩ := h (b + k) (by omega) (by omega)
    have p := Nat.pow_succ (n := 256) (m := k)
    rw [wB, p]; omega
theorem wB_inj {t s : Nat → Int32} {b c : Nat} : ∀ k k', (∀ i, i < k → 97 ≤ cz (t (b + i)) ∧ cz (t (b + i)) ≤ 122) → (∀ i, i < k' → 97 ≤ cz (s (c + i)) ∧ cz (s (c + i)) ≤ 122) → wB t b k = wB s c k' → k = k' ∧ ∀ i, i < k → cz (t (b + i)) = cz (s (c + i)) := by
  intro k
  induction k with
  | zero =>
    intro k' _ hs he
    cases k' with
    | zero => exact ⟨rfl, fun i hi => by omega⟩
    | succ k' =>
      have := (hs k' (by omega)).1
      simp only [wB] at he
      omega
  | succ k ih =>
    intro k' ht hs he
    have c1 := ht k (by omega)
    cases k' with
    | zero => simp only [wB] at he; omega
    | succ k' =>
      have c2 := hs k' (by omega)
      simp only [wB] at he
      obtain ⟨e1, e2⟩ := ih k' (fun i hi => ht i (by omega)) (fun i hi => hs i (by omega)) (by omega)
      subst e1
      refine ⟨rfl, fun i hi => ?_⟩
      by_cases hik : i = k
      · subst hik; omega
      · exact e2 i (by omega)
theorem wB_co {t s : Nat → Int32} {b c : Nat} : ∀ k, (∀ i, i < k → t (b + i) = s (c + i)) → wB t b k = wB s c k := by
  intro k
  induction k with
  | zero => intro _; rfl
  | succ k ih => intro h; rw [wB, wB, ih (fun i hi => h i (by omega)), h k (by omega)]
/-- the reference's comparison of a word with a verb -/
theorem m_verb {k v : Nat} {w : Int64} (hv : v < 13) (hbt : ∀ i, i < k → isBt (t (b + i))) (hL : ∀ i, i < k → 97 ≤ cz (t (b + i)) ∧ cz (t (b + i)) ≤ 122) (hw : w = if k ≤ 8 then lN (wB t b k) else 0) : (lg_cmp w (lN (vc v)) = 0) ↔ isV' t b k v := by
  obtain ⟨a1, a2, a3, a4, a5, a6⟩ := vc_w v hv
  rw [lg_cmp_eq, hw]
  unfold isV'
  by_cases hk : k ≤ 8
  · have h2 := wB_half (t := t) (b := b) k (fun i h1 h2 => by
      have := hL (i - b) (by omega)
      rw [show b + (i - b) = i by omega] at this
      exact this)
    have p8 : 256 ^ k ≤ 256 ^ 8 := Nat.pow_le_pow_right (by omega) hk
    rw [if_pos hk, pk_lEQ (by omega) a2]
    constructor
    · intro he
      obtain ⟨e1, e2⟩ := wB_inj (t := t) (s := vw v) (b := b) (c := 0) k (vl v) hL (fun i hi => by rw [Nat.zero_add]; exact ⟨(a6 i hi).1, (a6 i hi).2.1⟩) (he.trans a1)
      refine ⟨e1, fun i hi => ?_⟩
      have h3 := e2 i hi
      rw [Nat.zero_add] at h3
      have h4 := (a6 i (by omega)).2.2
      rw [cz_nI (hbt i hi) (by have := hL i hi; omega), h3, ← h4]
    · rintro ⟨e1, e2⟩
      rw [a1, ← e1]
      exact wB_co k (fun i hi => by rw [Nat.zero_add]; exact e2 i hi)
  · rw [if_neg hk]
    constructor
    · intro he
      have : lN 0 = lN (vc v) := he
      rw [pk_lEQ (by omega) a2] at this
      omega
    · rintro ⟨e1, -⟩; omega
theorem m_verb0 {v : Nat} (hv : v < 13) : ¬ lg_cmp (0 : Int64) (lN (vc v)) = 0 := by
  obtain ⟨a1, a2, a3, -⟩ := vc_w v hv
  rw [lg_cmp_eq]
  intro he
  have : lN 0 = lN (vc v) := he
  rw [pk_lEQ (by omega) a2] at this
  omega
theorem isV_u {k v v' : Nat} (hv : v < 13) (hv' : v' < 13) (h : isV' t b k v) (h' : isV' t b k v') : v = v' := by
  by_cases hh : v = v'
  · exact hh
  · exfalso
    refine vw_u v hv v' hv' hh ⟨h.1.symm.trans h'.1, fun i hi => ?_⟩
    rw [← h.2 i (by rw [h.1]; exact hi), h'.2 i (by rw [h.1]; exact hi)]
theorem wo_v : ∀ v, v < 13 → f5_wordOf (nI v) = v := by decide +kernel
/-- the class's comparison -/
theorem c_here (ku : K1 u = some (.inr (1, 600))) (hn : 5000 ≤ n) (v : TR r u m t l a b 1 h1 h2) {w : Nat} (hw : w < 13) : ∃ c : Bool, f5_isHere K1 n r w h1 = some (if c = true then 1 else 0) ∧ (c = true ↔ isV' t b (a - b) w) := by
  obtain ⟨V, h9, -, hba, -⟩ := v
  obtain ⟨v1, v2, v3, v4, v5, v6, v7, v8, v9⟩ := V
  obtain ⟨a1, a2, a3, a4, a5, a6⟩ := vc_w w hw
  have sb : nI a - nI b = nI (a - b) := pk_sub hba
  unfold f5_isHere
  rw [v8, h9, sb, a5]
  simp only [x_eq (show a - b < 2147483648 by omega) (show vl w < 2147483648 by omega)]
  by_cases hk : a - b = vl w
  · rw [if_pos hk]
    have go : ∀ (d i fu : Nat), i + d = vl w → d < fu → ∃ c : Bool, f5_isHere_L20 K1 n r w h1 fu (nI i) = some (if c = true then 1 else 0) ∧ (c = true ↔ ∀ q, i ≤ q → q < vl w → t (b + q) = vw w q) := by
      intro d
      induction d with
      | zero =>
        intro i fu hi hf
        obtain ⟨fu, rfl⟩ : ∃ g, fu = g + 1 := ⟨fu - 1, by omega⟩
        have e1 : nI (vl w) ≤ nI i := nI_le (by omega) (by omega)
        exact ⟨true, by rw [f5_isHere_L20, a5, if_pos e1]; rfl, ⟨fun _ q h1 h2 => by omega, fun _ => rfl⟩⟩
      | succ d ih =>
        intro i fu hi hf
        obtain ⟨fu, rfl⟩ : ∃ g, fu = g + 1 := ⟨fu - 1, by omega⟩
        have e1 : ¬ nI (vl w) ≤ nI i := nI_ge (by omega) (by omega)
        obtain ⟨c, q1, q2⟩ := ih (i + 1) fu (by omega) (by omega)
        have es : sch w (nI i) = vw w i := by unfold sch vw; rw [x_cl (by omega)]
        have e2 : inb (nI i) (es_len.getD w 0) = true := x_in (show i < vl w by omega) (show vl w < 2147483648 by omega)
        have cs : f5_isHere_L20 K1 n r w h1 (fu + 1) (nI i) = if t (b + i) = vw w i then some (if c = true then 1 else 0) else some 0 := by
          rw [f5_isHere_L20, a5, if_neg e1, v4, x_oa ku, h9, nI_add, x_in (show b + i < 600 by omega) (by omega), x_gd, e2, x_gd, x_cl (by omega), (v7 (b + i) (by omega)).1, es, x_lt, nI_1, q1]
        rw [cs]
        by_cases hc : t (b + i) = vw w i
        · refine ⟨c, by rw [if_pos hc], ?_⟩
          rw [q2]
          constructor
          · intro hh q h1 h2
            by_cases hq : q = i
            · rw [hq]; exact hc
            · exact hh q (by omega) h2
          · intro hh q h1 h2; exact hh q (by omega) h2
        · exact ⟨false, by rw [if_neg hc]; rfl, ⟨fun hh => absurd hh (by decide), fun hh => absurd (hh i (Nat.le_refl _) (by omega)) hc⟩⟩
    obtain ⟨c, q1, q2⟩ := go (vl w) 0 n (by omega) (by omega)
    refine ⟨c, q1, ?_⟩
    rw [q2]
    unfold isV'
    rw [hk]
    exact ⟨fun hh => ⟨rfl, fun i hi => hh i (by omega) hi⟩, fun hh q _ h2 => hh.2 q h2⟩
  · exact ⟨false, by rw [if_neg hk]; rfl, ⟨fun hh => absurd hh (by decide), fun hh => absurd hh.1 hk⟩⟩
theorem c_verbL (ku : K1 u = some (.inr (1, 600))) (hn : 5000 ≤ n) (v : TR r u m t l a b 1 h1 h2) {s lo hi : Nat} (hs : s < 3) (h6 : h1.1 r 6 = nI s) (hlo : vrb (nI s) = nI lo) (hhi : vrb (nI (s + 1)) = nI hi) (hh : lo ≤ hi) (h13 : hi ≤ 13) : ∃ vb : Option Nat, f5_verbHere K1 n r h1 = some (oI vb) ∧ (∀ w, vb = some w → lo ≤ w ∧ w < hi ∧ isV' t b (a - b) w) ∧ (vb = none → ∀ w, lo ≤ w → w < hi → ¬ isV' t b (a - b) w) := by
  have go : ∀ (d i fu : Nat), i + d = hi → d < fu → ∃ vb : Option Nat, f5_verbHere_L9 K1 n r h1 fu (nI i) = some (oI vb) ∧ (∀ w, vb = some w → i ≤ w ∧ w < hi ∧ isV' t b (a - b) w) ∧ (vb = none → ∀ w, i ≤ w → w < hi → ¬ isV' t b (a - b) w) := by
    intro d
    induction d with
    | zero =>
      intro i fu hi hf
      obtain ⟨fu, rfl⟩ : ∃ g, fu = g + 1 := ⟨fu - 1, by omega⟩
      refine ⟨none, ?_, fun w hw => by (cases hw), fun _ w h1 h2 => by omega⟩
      rw [f5_verbHere_L9, h6, nI_1, x_in (show s + 1 < 4 by omega) (by omega), x_gd, hhi, if_pos (nI_le (by omega) (by omega))]; rfl
    | succ d ih =>
      intro i fu hi' hf
      obtain ⟨fu, rfl⟩ : ∃ g, fu = g + 1 := ⟨fu - 1, by omega⟩
      obtain ⟨c, c1, c2⟩ := c_here (K1 := K1) ku hn v (show i < 13 by omega)
      have cs : f5_verbHere_L9 K1 n r h1 (fu + 1) (nI i) = if (if c = true then (1 : Int32) else 0) = 0 then f5_verbHere_L9 K1 n r h1 fu (nI (i + 1)) else some (nI i) := by
        rw [f5_verbHere_L9, h6, nI_1, x_in (show s + 1 < 4 by omega) (by omega), x_gd, hhi, if_neg (nI_ge (show i < hi by omega) (by omega)), wo_v i (by omega), c1, x_bp, x_lt, nI_1]
      rw [cs]
      cases c with
      | true =>
        refine ⟨some i, by rw [if_neg (by decide)]; rfl, fun w hw => ?_, fun hh => by cases hh⟩
        cases hw
        exact ⟨Nat.le_refl _, by omega, c2.mp rfl⟩
      | false =>
        obtain ⟨vb, g1, g2, g3⟩ := ih (i + 1) fu (by omega) (by omega)
        refine ⟨vb, by rw [if_pos (by decide)]; exact g1, fun w hw => ⟨by have := (g2 w hw).1; omega, (g2 w hw).2⟩, fun hn w h1 h2 => ?_⟩
        by_cases hwi : w = i
        · subst hwi; exact fun hh => absurd (c2.mpr hh) (by decide)
        · exact g3 hn w (by omega) h2
  obtain ⟨vb, g1, g2, g3⟩ := go (hi - lo) lo n (by omega) (by omega)
  refine ⟨vb, ?_, g2, g3⟩
  unfold f5_verbHere
  rw [h6, x_in (show s < 4 by omega) (by omega), x_gd, x_lt, hlo]
  exact g1
end Verb
