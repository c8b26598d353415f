/-! the reference ends entries, node by node -/
section MEnds
variable {K : Ly} {n m j : Nat} {h : Hp} {N : Nat → Nat} {aw : Int32} {W : List Ms}
def Bf (st : St) (l : List En) : Nat → Nat → Int32 := fun k => if k < 60 ∧ l.any (fun e => bL (e.2 4) k) = true then endB (s_B st k) (s_n st) else s_B st k
def Mf (N : Nat → Nat) (st : St) (l : List En) : Nat → Int32 := fun i => if l.any (fun e => 6 * eNd e + (e.1 7).toNatClampNeg == i) = true then nI (N 1) else s_M st i
def Df (st : St) (l : List En) : Nat → Int64 := fun x => (l.filter (fun e => eNd e == x)).foldl (fun d e => d ||| e.2 5) (s_D st x)
theorem endB2 {b : Nat → Int32} {now : Nat} : endB (endB b now) now = endB b now := by
  funext i
  unfold endB
  split
  · rfl
  · split <;> rfl
theorem fe : ∀ (l : List En) (st : St), l.foldl (end1 N) st = q_D (q_M (q_B st (Bf st l)) (Mf N st l)) (Df st l) := by
  intro l
  induction l with
  | nil =>
    intro st
    have h1 : Bf st [] = s_B st := by funext k; simp [Bf]
    have h2 : Mf N st [] = s_M st := by funext k; simp [Mf]
    have h3 : Df st [] = s_D st := by funext k; simp [Df]
    rw [h1, h2, h3]; rfl
  | cons e l ih =>
    intro st
    rw [List.foldl_cons, ih]
    have h1 : Bf (end1 N st e) l = Bf st (e :: l) := by
      funext k
      show (if k < 60 ∧ l.any (fun e => bL (e.2 4) k) = true then endB (if k < 60 ∧ bL (e.2 4) k = true then endB (s_B st k) (s_n st) else s_B st k) (s_n st) else (if k < 60 ∧ bL (e.2 4) k = true then endB (s_B st k) (s_n st) else s_B st k)) = if k < 60 ∧ (e :: l).any (fun e => bL (e.2 4) k) = true then endB (s_B st k) (s_n st) else s_B st k
      rw [List.any_cons]
      by_cases hk : k < 60
      · by_cases hb : bL (e.2 4) k = true
        · rw [if_pos (⟨hk, hb⟩ : k < 60 ∧ bL (e.2 4) k = true), if_pos (⟨hk, by simp [hb]⟩ : k < 60 ∧ (bL (e.2 4) k || l.any (fun e => bL (e.2 4) k)) = true)]
          split
          · exact endB2
          · rfl
        · rw [if_neg (fun hh : k < 60 ∧ bL (e.2 4) k = true => hb hh.2)]
          have : (bL (e.2 4) k || l.any (fun e => bL (e.2 4) k)) = l.any (fun e => bL (e.2 4) k) := by simp [hb]
          rw [this]
      · rw [if_neg (fun hh : k < 60 ∧ l.any (fun e => bL (e.2 4) k) = true => hk hh.1), if_neg (fun hh : k < 60 ∧ bL (e.2 4) k = true => hk hh.1), if_neg (fun hh : k < 60 ∧ (bL (e.2 4) k || l.any (fun e => bL (e.2 4) k)) = true => hk hh.1)]
    have h2 : Mf N (end1 N st e) l = Mf N st (e :: l) := by
      funext i
      show (if l.any (fun e => 6 * eNd e + (e.1 7).toNatClampNeg == i) = true then nI (N 1) else ug (s_M st) (6 * eNd e + (e.1 7).toNatClampNeg) (nI (N 1)) i) = if (e :: l).any (fun e => 6 * eNd e + (e.1 7).toNatClampNeg == i) = true then nI (N 1) else s_M st i
      rw [List.any_cons]
      by_cases hb : i = 6 * eNd e + (e.1 7).toNatClampNeg
      · subst hb; rw [ug_e]; simp
      · rw [ug_n hb]
        have : (6 * eNd e + (e.1 7).toNatClampNeg == i) = false := by simp; omega
        rw [this, Bool.false_or]
    have h3 : Df (end1 N st e) l = Df st (e :: l) := by
      funext x
      show (l.filter (fun e => eNd e == x)).foldl (fun d e => d ||| e.2 5) (ug (s_D st) (eNd e) (s_D st (eNd e) ||| e.2 5) x) = ((e :: l).filter (fun e => eNd e == x)).foldl (fun d e => d ||| e.2 5) (s_D st x)
      by_cases hb : x = eNd e
      · subst hb; rw [ug_e, List.filter_cons_of_pos (by simp)]; rfl
      · rw [ug_n hb, List.filter_cons_of_neg (by simp; omega)]
    rw [h1, h2, h3]; rfl
theorem fe_eq {l l' : List En} {st : St} (hx : ∀ x, l.filter (fun e => eNd e == x) = l'.filter (fun e => eNd e == x)) : l.foldl (end1 N) st = l'.foldl (end1 N) st := by
  have mem : ∀ e, e ∈ l ↔ e ∈ l' := fun e => by
    constructor
    · intro he
      have : e ∈ l.filter (fun a => eNd a == eNd e) := List.mem_filter.mpr ⟨he, by simp⟩
      rw [hx] at this; exact (List.mem_filter.mp this).1
    · intro he
      have : e ∈ l'.filter (fun a => eNd a == eNd e) := List.mem_filter.mpr ⟨he, by simp⟩
      rw [← hx] at this; exact (List.mem_filter.mp this).1
  have an : ∀ pr : En → Bool, l.any pr = l'.any pr := fun pr => by
    rw [Bool.eq_iff_iff, List.any_eq_true, List.any_eq_true]
    constructor
    · rintro ⟨e, h1, h2⟩; exact ⟨e, (mem e).mp h1, h2⟩
    · rintro ⟨e, h1, h2⟩; exact ⟨e, (mem e).mpr h1, h2⟩
  rw [fe, fe]
  have h1 : Bf st l = Bf st l' := by funext k; unfold Bf; rw [an]
  have h2 : Mf N st l = Mf N st l' := by funext k; unfold Mf; rw [an]
  have h3 : Df st l = Df st l' := by funext k; unfold Df; rw [hx]
  rw [h1, h2, h3]
theorem fe_n {l : List En} {st : St} : s_n (l.foldl (end1 N) st) = s_n st ∧ s_F (l.foldl (end1 N) st) = s_F st := by rw [fe]; exact ⟨rfl, rfl⟩
theorem fe_L : ∀ (l : List En) (s : St) (L : List En), l.foldl (end1 N) (q_L s L) = q_L (l.foldl (end1 N) s) L := by
  intro l
  induction l with
  | nil => exact fun s L => rfl
  | cons a l ihl => exact fun s L => ihl (end1 N s a) L
theorem mend1 {q : Nat} {x1 x2 : Int32} {e : En} {r2 r12 : Int32 → Hp → Option Hp} (hq : q < 384) : ∀ (d k fu : Nat) (h : Hp) (st : St) (B0 : Nat → Nat → Int32), k + d = 64 → d < fu → (∀ k, bL (e.2 4) k = true → k < 60 ∧ B0 k 8 = 1) → vM m h j N aw (q_B st (enB (e.2 4) (s_n st) k B0)) W → agR h m q e → ∃ h' fu', f11_endsAll_L80 K n m x1 x2 (nI q) r2 r12 fu (nI k) h = f11_endsAll_L80 K n m x1 x2 (nI q) r2 r12 (fu' + 1) (nI 64) h' ∧ vM m h' j N aw (q_B st (enB (e.2 4) (s_n st) 64 B0)) W ∧ agR h' m q e ∧ ChM RX m h h' := by
  have e5 : inb (nI q) 384 = true := x_in (by omega) (by omega)
  have e6 : (nI q).toNatClampNeg = q := x_cl (by omega)
  intro d
  induction d with
  | zero =>
    intro k fu h st B0 hk hf hB v ag
    obtain ⟨fu, rfl⟩ : ∃ g, fu = g + 1 := ⟨fu - 1, by omega⟩
    rw [show k = 64 by omega] at v ⊢
    exact ⟨h, fu, rfl, v, ag, ChM.rf⟩
  | succ d ih =>
    intro k fu h st B0 hk hf hB v ag
    obtain ⟨fu, rfl⟩ : ∃ g, fu = g + 1 := ⟨fu - 1, by omega⟩
    have e1 : ¬ (64 : Int32) ≤ nI k := by rw [l_64]; exact nI_ge (by omega) (by omega)
    have g4 : h.2.1 (m + 22) q = e.2 4 := ag.2.2.2.1
    have e2 : inb (nI k) 64 = true := x_in (by omega) (by omega)
    have e3 : (nI k).toNatClampNeg = k := x_cl (by omega)
    obtain ⟨v1, v2, v3, v4, v5, v6, v7, v8, v9, v10⟩ := id v
    by_cases hb : bL (e.2 4) k = true
    · obtain ⟨h1, eh⟩ : ∃ h1, h1 = sI (sI h (m + 40) k 3) (m + 41) k (nI (s_n st)) := ⟨_, rfl⟩
      have ch1 : ChM [40, 41] m h h1 := by rw [eh]; exact ChM.A (by omega) (by simp) (ChM.A (by omega) (by simp) ChM.rf)
      have vv : vM m h1 j N aw (q_B st (enB (e.2 4) (s_n st) (k + 1) B0)) W := by
        refine ⟨v1.kp ch1 (by decide), mnow_kp v2 ch1 (by decide), mdn_kp v3 ch1 (by decide), v4.kp ch1 (by decide) (by decide), v5.kp ch1 (by decide) (by decide), v6.kp ch1 (by decide), v7.kp ch1 (by decide), v8.kp ch1 (by decide), fun i hi => ?_, v10.kp ch1 (by decide)⟩
        have w9 : mB1 m h i (enB (e.2 4) (s_n st) k B0 i) := v9 i hi
        show mB1 m h1 i (enB (e.2 4) (s_n st) (k + 1) B0 i)
        by_cases hjk : i = k
        · subst hjk
          have y1 : enB (e.2 4) (s_n st) (i + 1) B0 i = endB (B0 i) (s_n st) := by unfold enB; rw [if_pos ⟨by omega, hb⟩]
          have y2 : enB (e.2 4) (s_n st) i B0 i = B0 i := by unfold enB; rw [if_neg (by omega)]
          rw [y2] at w9
          rw [y1]
          have b8 := (hB i hb).2
          have f8 : endB (B0 i) (s_n st) 8 = 1 := b8
          have f0 : endB (B0 i) (s_n st) 0 = 3 := rfl
          obtain ⟨c1, c2, -⟩ := w9.1 b8
          refine ⟨fun _ => ⟨?_, ?_, fun hh => ?_, fun hh => ?_, fun _ => ?_⟩, fun hh => absurd f8 hh⟩
          · rw [eh, f0]; simp (disch := omega) only [rI_n, rI_e]
          · rw [eh]; simp (disch := omega) only [rI_n]; exact c2
          · rw [f0] at hh; exact absurd hh (by decide)
          · rw [f0] at hh; exact absurd hh (by decide)
          · rw [eh]; simp (disch := omega) only [rI_e]; rfl
        · have y1 : enB (e.2 4) (s_n st) (k + 1) B0 i = enB (e.2 4) (s_n st) k B0 i := by
            unfold enB
            by_cases hjl : i < k
            · by_cases hbj : bL (e.2 4) i = true
              · rw [if_pos ⟨by omega, hbj⟩, if_pos ⟨hjl, hbj⟩]
              · rw [if_neg (fun hh => hbj hh.2), if_neg (fun hh => hbj hh.2)]
            · rw [if_neg (fun hh => by omega), if_neg (fun hh => hjl hh.1)]
          rw [y1]
          refine w9.kp (fun r hr => ?_)
          rw [eh]; simp (disch := omega) only [rI_n]
      obtain ⟨h2, fu', t1, t2, t3, t4⟩ := ih (k + 1) fu h1 st B0 (by omega) (by omega) hB vv (ag.kp ch1 (by decide))
      refine ⟨h2, fu', ?_, t2, t3, (ch1.up (by decide)).tr t4⟩
      rw [← t1]
      have y3 : (sI h (m + 40) k 3).1 m 27 = nI (s_n st) := by rw [rI_n (by omega)]; exact v2
      simp only [f11_endsAll_L80, if_neg e1, g4, e5, e6, mhasL (show k < 64 by omega), if_pos hb, if_neg b_10, e2, e3, x_gd, x_lt, nI_1, y3, ← eh]
    · have vv : vM m h j N aw (q_B st (enB (e.2 4) (s_n st) (k + 1) B0)) W := by
        have : enB (e.2 4) (s_n st) (k + 1) B0 = enB (e.2 4) (s_n st) k B0 := by
          funext i
          unfold enB
          by_cases hjk : i = k
          · subst hjk; rw [if_neg (fun hh => hb hh.2), if_neg (fun hh => hb hh.2)]
          · by_cases hjl : i < k
            · by_cases hbj : bL (e.2 4) i = true
              · rw [if_pos ⟨by omega, hbj⟩, if_pos ⟨hjl, hbj⟩]
              · rw [if_neg (fun hh => hbj hh.2), if_neg (fun hh => hbj hh.2)]
            · rw [if_neg (fun hh => by omega), if_neg (fun hh => hjl hh.1)]
        rw [this]; exact v
      obtain ⟨h2, fu', t1, t2, t3, t4⟩ := ih (k + 1) fu h st B0 (by omega) (by omega) hB vv ag
      refine ⟨h2, fu', ?_, t2, t3, t4⟩
      rw [← t1]
      simp only [f11_endsAll_L80, if_neg e1, g4, e5, e6, mhasL (show k < 64 by omega), if_neg hb, if_true, x_gd, x_lt, nI_1]
theorem flt_at {nd : Nat} {L u w : List En} {e : En} (hl : L.filter (atN nd) = u ++ e :: w) : ∃ U Wl, L = U ++ e :: Wl ∧ U.filter (atN nd) = u ∧ Wl.filter (atN nd) = w ∧ e.1 0 = nI nd := by
  obtain ⟨L1, L2, h1, h2, h3⟩ := List.filter_eq_append_iff.mp hl
  obtain ⟨M1, M2, h4, h5, h6, h7⟩ := List.filter_eq_cons_iff.mp h3
  refine ⟨L1 ++ M1, M2, by rw [h1, h4]; simp, ?_, h7, by simpa [atN] using h6⟩
  rw [List.filter_append, h2, List.filter_eq_nil_iff.mpr h5, List.append_nil]
theorem mendN {nd : Nat} {r2 : Int32 → Hp → Option Hp} (ok : nOk N) (hnd : nd < N 0) (hn : 400 ≤ n) (now : Nat) : ∀ (w u : List En) (fu : Nat) (h : Hp) (st : St), s_n st = now → (s_L st).filter (atN nd) = u ++ w → w.length < fu → (∀ e ∈ w, eOk N e ∧ eM N (s_B st) e) → vM m h j N aw st W → ∃ h' L', f11_endsAll_L12 K n m (nI nd) r2 fu (nI u.length) h = r2 (nI (nd + 1)) h' ∧ vM m h' j N aw (q_L ((w.filter (fun e => decide (e.1 10 = nI now))).foldl (end1 N) st) L') W ∧ L'.filter (atN nd) = u ++ w.filter (fun e => !(decide (e.1 10 = nI now))) ∧ (∀ x, x < 6 → x ≠ nd → L'.filter (atN x) = (s_L st).filter (atN x)) ∧ ChM RX m h h' := by
  have b0 := ok.1
  have i6 : inb (nI nd) 6 = true := x_in (by omega) (by omega)
  have i7 : (nI nd).toNatClampNeg = nd := x_cl (by omega)
  intro w
  induction w with
  | nil =>
    intro u fu h st hnw hl hf he v
    obtain ⟨fu, rfl⟩ : ∃ g, fu = g + 1 := ⟨fu - 1, by omega⟩
    have v4 := v.2.2.2.1 nd (by omega)
    rw [hl, List.append_nil] at v4
    have e1 : h.1 (m + 18) nd ≤ nI u.length := by rw [v4.1]; exact nI_le (Nat.le_refl _) (by have := v4.2.1; omega)
    refine ⟨h, s_L st, ?_, v, by rw [hl]; simp, fun _ _ _ => rfl, ChM.rf⟩
    simp only [f11_endsAll_L12, i6, i7, x_gd, if_pos e1, x_lt, nI_1]
  | cons e w ih =>
    intro u fu h st hnw hl hf he v
    obtain ⟨fu, rfl⟩ : ∃ g, fu = g + 1 := ⟨fu - 1, by omega⟩
    obtain ⟨v1, v2, v3, v4, v5, v6, v7, v8, v9, v10⟩ := id v
    obtain ⟨U, Wl, l1, l2, l3, l4⟩ := flt_at hl
    have v4n := v4 nd (by omega)
    rw [hl] at v4n
    have v4' := v4
    rw [l1] at v4'
    obtain ⟨a1, a2, -⟩ := mvE_at (by omega) l4 v4'
    rw [l2] at a1 a2
    have e1 : ¬ h.1 (m + 18) nd ≤ nI u.length := by rw [v4n.1]; exact nI_ge (by simp) (by have := v4n.2.1; omega)
    obtain ⟨q, hq⟩ : ∃ q, q = 64 * nd + u.length := ⟨_, rfl⟩
    have e4 : (64 : Int32) * nI nd + nI u.length = nI q := by rw [l_64, pk_mul, nI_add, hq]
    have e5 : inb (nI q) 384 = true := x_in (by omega) (by omega)
    have e6 : (nI q).toNatClampNeg = q := x_cl (by omega)
    rw [← hq] at a2
    obtain ⟨⟨⟨nd', nd1, nd2⟩, ⟨t, t1, t2⟩⟩, em⟩ := he e (by simp)
    have g10 := a2.2.2.2.2.2.2.2.2.2
    have g5 := a2.2.2.2.2.1
    have g7 : h.1 (m + 25) q = nI t := a2.2.2.2.2.2.2.1.trans t2
    by_cases hd : e.1 10 = nI now
    · obtain ⟨h1, eh⟩ : ∃ h1, h1 = sI (sL h (m + 12) nd (s_D st nd ||| e.2 5)) (m + 13) (6 * nd + t) (nI (N 1)) := ⟨_, rfl⟩
      have ch1 : ChM [12, 13] m h h1 := by rw [eh]; exact ChM.A (by omega) (by simp) (ChM.L (by omega) (by simp) ChM.rf)
      have f4 : (6 : Int32) * nI nd + nI t = nI (6 * nd + t) := by rw [l_6, pk_mul, nI_add]
      have f5 : inb (nI (6 * nd + t)) 36 = true := x_in (by omega) (by omega)
      have f6 : (nI (6 * nd + t)).toNatClampNeg = 6 * nd + t := x_cl (by omega)
      let stM := q_D (q_M st (ug (s_M st) (6 * nd + t) (nI (N 1)))) (ug (s_D st) nd (s_D st nd ||| e.2 5))
      have vv1 : vM m h1 j N aw (q_B stM (enB (e.2 4) (s_n stM) 0 (s_B st))) W := by
        have eb : enB (e.2 4) (s_n stM) 0 (s_B st) = s_B st := by funext k; unfold enB; rw [if_neg (by omega)]
        rw [eb]
        refine ⟨v1.kp ch1 (by decide), mnow_kp v2 ch1 (by decide), mdn_kp v3 ch1 (by decide), v4.kp ch1 (by decide) (by decide), v5.kp ch1 (by decide) (by decide), fun i hi => ?_, fun i hi => ?_, v8.kp ch1 (by decide), v9.kp ch1 (by decide), v10.kp ch1 (by decide)⟩
        · show h1.1 (m + 13) i = ug (s_M st) (6 * nd + t) (nI (N 1)) i
          rw [eh]
          by_cases hi2 : i = 6 * nd + t
          · subst hi2; rw [ug_e, rI_e]
          · rw [ug_n hi2, rI_n (by omega), rL_i]; exact v6 i hi
        · show h1.2.1 (m + 12) i = ug (s_D st) nd (s_D st nd ||| e.2 5) i
          rw [eh, rI_l]
          by_cases hi2 : i = nd
          · subst hi2; rw [ug_e, rL_e]
          · rw [ug_n hi2, rL_n (by omega)]; exact v7 i hi
      obtain ⟨h2, fu', t3, t4, t5, t6⟩ := mend1 (K := K) (n := n) (x1 := nI nd) (x2 := nI u.length) (r2 := r2) (r12 := f11_endsAll_L12 K n m (nI nd) r2 fu) (q := q) (by omega) 64 0 n h1 stM (s_B st) (by omega) (by omega) em.2 vv1 (a2.kp ch1 (by decide))
      have eq64 : enB (e.2 4) (s_n stM) 64 (s_B st) = enB (e.2 4) (s_n stM) 60 (s_B st) := by
        funext k
        unfold enB
        by_cases hk : bL (e.2 4) k = true
        · have := (em.2 k hk).1
          rw [if_pos ⟨by omega, hk⟩, if_pos ⟨this, hk⟩]
        · rw [if_neg (fun hh => hk hh.2), if_neg (fun hh => hk hh.2)]
      have ee : end1 N st e = q_B stM (enB (e.2 4) (s_n stM) 60 (s_B st)) := by
        have y1 : eNd e = nd := by unfold eNd; rw [l4]; exact x_cl (by omega)
        have y2 : (e.1 7).toNatClampNeg = t := by rw [t2]; exact x_cl (by omega)
        unfold end1; rw [y1, y2]; rfl
      rw [eq64, ← ee] at t4
      have vE := t4.2.2.2.1
      rw [show s_L (end1 N st e) = U ++ e :: Wl from l1] at vE
      have v27 := vE nd (by omega)
      rw [flt_mid l4, l2] at v27
      obtain ⟨h3, d1, d2, d3⟩ := mremoves (K := K) (n := n) (by omega) (by omega) (by have := v27.2.1; omega) v27.1 (fun i e he => by simpa using v27.2.2 i e he)
      rw [← hq] at d1
      have vv3 := t4.eL d3.ch (mvE_del (by omega) l4 vE d3 (by rw [l2]; exact d2))
      obtain ⟨h5, L', k1, k2, k3, k4, k5⟩ := ih u fu h3 (q_L (end1 N st e) (U ++ Wl)) hnw (by show (U ++ Wl).filter (atN nd) = u ++ w; rw [List.filter_append, l2, l3]) (by simp at hf; omega) (fun a ha => by
        refine ⟨(he a (by simp [ha])).1, (he a (by simp [ha])).2.1, fun k hk => ⟨((he a (by simp [ha])).2.2 k hk).1, ?_⟩⟩
        have := ((he a (by simp [ha])).2.2 k hk).2
        show (if k < 60 ∧ bL (e.2 4) k = true then endB (s_B st k) (s_n st) else s_B st k) 8 = 1
        split
        · exact this
        · exact this) vv3
      refine ⟨h5, L', ?_, ?_, ?_, fun x hx hne => ?_, (((ch1.up (by decide)).tr t6).tr (d3.ch.up (by decide))).tr k5⟩
      · have st1 : f11_endsAll_L12 K n m (nI nd) r2 (fu + 1) (nI u.length) h = f11_endsAll_L80 K n m (nI nd) (nI u.length) (nI q) r2 (f11_endsAll_L12 K n m (nI nd) r2 fu) n (nI 0) h1 := by
          have dd := v7 nd (by omega)
          have lf : h.1 m 24 = nI (N 1) := v1.1.2.2.2.1
          simp only [f11_endsAll_L12, i6, i7, x_gd, if_neg e1, x_lt, e4, e5, e6, g10, v2, hnw, if_pos hd, dd, g5, rL_i, g7, f4, f5, f6, lf, ← eh]; rfl
        rw [st1, t3]
        simp only [f11_endsAll_L80, l_64, if_pos (nI_le (Nat.le_refl 64) (by omega)), d1, x_bp]
        exact k1
      · have f1 : ((e :: w).filter (fun e => decide (e.1 10 = nI now))) = e :: w.filter (fun e => decide (e.1 10 = nI now)) := by simp [hd]
        rw [f1, List.foldl_cons]
        rw [fe_L] at k2
        exact k2
      · rw [k3]; congr 1; simp [hd]
      · rw [k4 x hx hne]
        show (U ++ Wl).filter (atN x) = _
        rw [l1]
        exact flt_del (by omega) hx hne l4
    · obtain ⟨h5, L', k1, k2, k3, k4, k5⟩ := ih (u ++ [e]) fu h st hnw (by rw [hl]; simp) (by simp at hf; omega) (fun a ha => he a (by simp [ha])) v
      refine ⟨h5, L', ?_, ?_, ?_, k4, k5⟩
      · rw [← len_sn (t := e)] at k1
        simp only [f11_endsAll_L12, i6, i7, x_gd, if_neg e1, x_lt, e4, e5, e6, g10, v2, hnw, if_neg hd, nI_1]
        exact k1
      · have f1 : ((e :: w).filter (fun e => decide (e.1 10 = nI now))) = w.filter (fun e => decide (e.1 10 = nI now)) := by simp [hd]
        rw [f1]; exact k2
      · rw [k3]; simp [hd]
theorem atN_x {e : En} {x y : Nat} (he : e.1 0 = nI y) (hx : x < 6) (hy : y < 6) : atN x e = decide (y = x) := by
  unfold atN; rw [he]; simp only [x_eq (show y < 2147483648 by omega) (show x < 2147483648 by omega)]
theorem fe_8 {l : List En} {st : St} {k : Nat} : s_B (l.foldl (end1 N) st) k 8 = s_B st k 8 := by
  rw [fe]
  show Bf st l k 8 = _
  unfold Bf
  split <;> rfl
theorem mendA (ok : nOk N) (hn : 400 ≤ n) (now : Nat) : ∀ (d nd fu : Nat) (h : Hp) (st : St), s_n st = now → nd + d = N 0 → d < fu → (∀ x, nd ≤ x → x < N 0 → ∀ e ∈ (s_L st).filter (atN x), eOk N e ∧ eM N (s_B st) e) → vM m h j N aw st W → ∃ (h' : Hp) (L' l' : List En), f11_endsAll_L2 K n m fu (nI nd) h = some h' ∧ vM m h' j N aw (q_L (l'.foldl (end1 N) st) L') W ∧ (∀ x, x < 6 → ¬ (nd ≤ x ∧ x < N 0) → L'.filter (atN x) = (s_L st).filter (atN x) ∧ l'.filter (atN x) = []) ∧ (∀ x, nd ≤ x → x < N 0 → L'.filter (atN x) = ((s_L st).filter (atN x)).filter (fun e => !(decide (e.1 10 = nI now))) ∧ l'.filter (atN x) = ((s_L st).filter (atN x)).filter (fun e => decide (e.1 10 = nI now))) ∧ (∀ e ∈ l', ∃ x, x < N 0 ∧ e.1 0 = nI x) ∧ ChM RX m h h' := by
  have b0 := ok.1
  intro d
  induction d with
  | zero =>
    intro nd fu h st hnw hd hf he v
    obtain ⟨fu, rfl⟩ : ∃ g, fu = g + 1 := ⟨fu - 1, by omega⟩
    have nn : h.1 m 23 = nI (N 0) := v.1.1.2.2.1
    have e1 : nI (N 0) ≤ nI nd := nI_le (by omega) (by omega)
    refine ⟨h, s_L st, [], ?_, v, fun x _ _ => ⟨rfl, rfl⟩, fun x h1 h2 => by omega, (fun e he => by cases he), ChM.rf⟩
    simp only [f11_endsAll_L2, nn, if_pos e1]
  | succ d ih =>
    intro nd fu h st hnw hd hf he v
    obtain ⟨fu, rfl⟩ : ∃ g, fu = g + 1 := ⟨fu - 1, by omega⟩
    have nn : h.1 m 23 = nI (N 0) := v.1.1.2.2.1
    have e1 : ¬ nI (N 0) ≤ nI nd := nI_ge (by omega) (by omega)
    have v4 := (v.2.2.2.1 nd (by omega)).2.1
    obtain ⟨h1, L1, k1, k2, k3, k4, k6⟩ := mendN (K := K) (n := n) (r2 := f11_endsAll_L2 K n m fu) ok (show nd < N 0 by omega) hn now ((s_L st).filter (atN nd)) [] n h st hnw rfl (by omega) (he nd (Nat.le_refl _) (by omega)) v
    obtain ⟨l1, el1⟩ : ∃ l1, l1 = ((s_L st).filter (atN nd)).filter (fun e => decide (e.1 10 = nI now)) := ⟨_, rfl⟩
    rw [← el1] at k2
    rw [List.nil_append] at k3
    have l1n : ∀ e ∈ l1, e.1 0 = nI nd := fun e hh => by
      rw [el1] at hh
      simpa [atN] using (List.mem_filter.mp (List.mem_filter.mp hh).1).2
    have l1x : ∀ x, x < 6 → x ≠ nd → l1.filter (atN x) = [] := fun x hx hne => List.filter_eq_nil_iff.mpr (fun e hh => by
      rw [atN_x (l1n e hh) hx (by omega)]; simp; omega)
    have l1s : l1.filter (atN nd) = l1 := List.filter_eq_self.mpr (fun e hh => by simp [atN, l1n e hh])
    obtain ⟨h2, L', l2, i1, i2, i3, i4, i5, i6⟩ := ih (nd + 1) fu h1 (q_L (l1.foldl (end1 N) st) L1) (by show s_n (l1.foldl (end1 N) st) = _; rw [fe_n.1]; exact hnw) (by omega) (by omega) (fun x x1 x2 e hh => by
      have hh : e ∈ L1.filter (atN x) := hh
      rw [k4 x (by omega) (by omega)] at hh
      obtain ⟨q1, q2, q3⟩ := he x (by omega) x2 e hh
      refine ⟨q1, q2, fun k hk => ⟨(q3 k hk).1, ?_⟩⟩
      show s_B (l1.foldl (end1 N) st) k 8 = 1
      rw [fe_8]; exact (q3 k hk).2) k2
    refine ⟨h2, L', l1 ++ l2, ?_, ?_, fun x hx hne => ?_, fun x h1 h2 => ?_, fun e hh => ?_, k6.tr i6⟩
    · simp only [f11_endsAll_L2, nn, if_neg e1]
      exact k1.trans i1
    · rw [List.foldl_append]
      rw [fe_L] at i2; exact i2
    · obtain ⟨r1, r2⟩ := i3 x hx (by omega)
      refine ⟨r1.trans (k4 x hx (by omega)), ?_⟩
      rw [List.filter_append, l1x x hx (by omega), r2]; rfl
    · by_cases hxn : x = nd
      · subst hxn
        obtain ⟨r1, r2⟩ := i3 x (by omega) (by omega)
        refine ⟨r1.trans k3, ?_⟩
        rw [List.filter_append, l1s, r2, List.append_nil, el1]
      · obtain ⟨r1, r2⟩ := i4 x (by omega) h2
        have k5 := k4 x (by omega) hxn
        rw [show s_L (q_L (l1.foldl (end1 N) st) L1) = L1 from rfl, k5] at r1 r2
        refine ⟨r1, ?_⟩
        rw [List.filter_append, l1x x (by omega) hxn, r2]; rfl
    · rcases List.mem_append.mp hh with hh | hh
      · exact ⟨nd, by omega, l1n e hh⟩
      · exact i5 e hh
theorem mends {st : St} (ok : nOk N) (hn : 400 ≤ n) (he : ∀ e ∈ s_L st, eOk N e ∧ eM N (s_B st) e) (v : vM m h j N aw st W) : ∃ h', f11_endsAll K n m h = some h' ∧ vM m h' j N aw (ends N st) W ∧ ChM RX m h h' := by
  have b0 := ok.1
  obtain ⟨h', L', l', i1, i2, i3, i4, i5, i6⟩ := mendA (K := K) (n := n) ok hn (s_n st) (N 0) 0 n h st rfl (by omega) (by omega) (fun x _ _ e hh => he e (List.mem_filter.mp hh).1) v
  refine ⟨h', i1, ?_, i6⟩
  have en : ∀ (e : En) (y x : Nat), e.1 0 = nI y → y < N 0 → (eNd e == x) = decide (y = x) := fun e y x h1 h2 => by
    have : eNd e = y := by unfold eNd; rw [h1]; exact x_cl (by omega)
    rw [this]; rfl
  have feq : l'.foldl (end1 N) st = ((s_L st).filter (fun e => decide (e.1 10 = nI (s_n st)))).foldl (end1 N) st := by
    refine fe_eq (fun x => ?_)
    by_cases hx : x < N 0
    · have c1 : l'.filter (fun e => eNd e == x) = l'.filter (atN x) := List.filter_congr (fun e hh => by
        obtain ⟨y, y1, y2⟩ := i5 e hh
        rw [en e y x y2 y1, atN_x y2 (by omega) (by omega)])
      have c2 : ((s_L st).filter (fun e => decide (e.1 10 = nI (s_n st)))).filter (fun e => eNd e == x) = ((s_L st).filter (fun e => decide (e.1 10 = nI (s_n st)))).filter (atN x) := List.filter_congr (fun e hh => by
        obtain ⟨⟨⟨y, y1, y2⟩, -⟩, -⟩ := he e (List.mem_filter.mp hh).1
        rw [en e y x y2 y1, atN_x y2 (by omega) (by omega)])
      rw [c1, c2, (i4 x (by omega) hx).2, List.filter_filter, List.filter_filter]
      refine List.filter_congr (fun e _ => Bool.and_comm _ _)
    · rw [List.filter_eq_nil_iff.mpr (fun e hh => by
        obtain ⟨y, y1, y2⟩ := i5 e hh
        rw [en e y x y2 y1]; simp; omega), List.filter_eq_nil_iff.mpr (fun e hh => by
        obtain ⟨⟨⟨y, y1, y2⟩, -⟩, -⟩ := he e (List.mem_filter.mp hh).1
        rw [en e y x y2 y1]; simp; omega)]
  rw [feq] at i2
  obtain ⟨v1, v2, v3, v4, v5, v6, v7, v8, v9, v10⟩ := i2
  refine ⟨v1, v2, v3, fun x hx => ?_, v5, v6, v7, v8, v9, v10⟩
  have := v4 x hx
  rw [show s_L (q_L (((s_L st).filter (fun e => decide (e.1 10 = nI (s_n st)))).foldl (end1 N) st) L') = L' from rfl] at this
  have key : L'.filter (atN x) = ((s_L st).filter (fun e => !(decide (e.1 10 = nI (s_n st))))).filter (atN x) := by
    by_cases hxn : x < N 0
    · rw [(i4 x (by omega) hxn).1, List.filter_filter, List.filter_filter]
      refine List.filter_congr (fun e _ => Bool.and_comm _ _)
    · rw [(i3 x hx (by omega)).1]
      have nn : ∀ e ∈ s_L st, ¬ atN x e = true := fun e hh => by
        obtain ⟨⟨⟨y, y1, y2⟩, -⟩, -⟩ := he e hh
        rw [atN_x y2 hx (by omega)]; simp; omega
      rw [List.filter_eq_nil_iff.mpr nn, List.filter_eq_nil_iff.mpr (fun e hh => nn e (List.mem_filter.mp hh).1)]
  rw [key] at this
  exact this
end MEnds
