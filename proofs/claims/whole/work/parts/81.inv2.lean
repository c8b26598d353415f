/-! the invariant is kept: interests -/
section Inv2
variable {N : Nat → Nat} {aw : Int32} {kb lo s : Nat} {st : St}
theorem cG_mono {G : Nat → Nat → Bool} {nd k : Nat} : cG G ≤ cG (gA G nd k) := by
  have m : ∀ x, cnt (G x) 60 ≤ cnt (gA G nd k x) 60 := fun x => cnt_mono (fun i hi => gA_up hi) 60
  have m0 := m 0
  have m1 := m 1
  have m2 := m 2
  have m3 := m 3
  have m4 := m 4
  have m5 := m 5
  unfold cG; omega
theorem bL_pL {x : Int64} {k i : Nat} (hk : k < 64) : bL (x ||| pL k) i = (bL x i || decide (k = i)) := by
  rw [bL_or]; show (bL x i || bL ((1 : Int64) <<< ((nI k).toInt64 &&& 63)) i) = _; rw [bL_p hk]
theorem bI_pI {x : Int32} {k i : Nat} (hk : k < 32) : bI (x ||| pI k) i = (bI x i || decide (k = i)) := by
  rw [bI_or]; show (bI x i || bI ((1 : Int32) <<< (nI k &&& 31)) i) = _; rw [bI_p hk]
/-- the bits of an entry that was joined -/
theorem jn_5 {e : En} {fr : Option Nat} {k i : Nat} (hk : k < 64) : bL ((eJoin e fr k).2 5) i = (bL (e.2 5) i || decide (k = i)) := by
  cases fr <;> exact bL_pL hk
theorem jn_4 {e : En} {fr : Option Nat} {k i : Nat} (hk : k < 64) : bL ((eJoin e fr k).2 4) i = (bL (e.2 4) i || (fr.isNone && decide (k = i))) := by
  cases fr with
  | none =>
    show bL (e.2 4 ||| pL k) i = _
    rw [bL_pL hk]; simp
  | some f => show bL (e.2 4) i = _; simp
theorem jn_3 {e : En} {fr : Option Nat} {k i : Nat} (hf : ∀ f, fr = some f → f < 6) (h : bI ((eJoin e fr k).1 3) i = true) : bI (e.1 3) i = true ∨ ∃ f, fr = some f ∧ f = i := by
  cases fr with
  | none => exact Or.inl h
  | some f =>
    have := hf f rfl
    have h : bI (e.1 3 ||| pI f) i = true := h
    rw [bI_pI (by omega)] at h
    simp at h
    rcases h with h | h
    · exact Or.inl h
    · exact Or.inr ⟨f, rfl, h⟩
theorem jn_o {e : En} {fr : Option Nat} {k i : Nat} (hi : i ≠ 3) : (eJoin e fr k).1 i = e.1 i := by
  cases fr with
  | none => rfl
  | some f => show (if i = 3 then _ else e.1 i) = _; rw [if_neg hi]
theorem inv_join {nd k nm : Nat} {fr : Option Nat} {ws : Int32} {u w : List En} {e : En} (ok : nOk N) (I : Inv N kb lo s st) (hl : s_L st = u ++ e :: w) (hnd : nd < N 0) (he : e.1 0 = nI nd ∧ e.1 1 = nI nm ∧ e.1 2 = ws) (hk : k < kb) (hB : s_B st k 8 = 1 ∧ s_B st k 9 = nI nm ∧ s_B st k 10 = ws) (hf : ∀ f, fr = some f → f < N 0 ∧ 1 ≤ s) (hfr : fr = none → fr0 (s_B st k) ∧ ∀ e ∈ s_L st, ¬ bL (e.2 5) k = true) : Inv N kb lo 0 (q_L st (u ++ eJoin e fr k :: w)) := by
  obtain ⟨i0, i1, i2, i3, i4, i5, i6, i7, i8, i9, G, g1, g2, g3, g4, g5⟩ := I
  have b0 := ok.1
  have k64 : k < 64 := by omega
  have hf6 : ∀ f, fr = some f → f < 6 := fun f hh => by have := (hf f hh).1; omega
  have hin : ∀ a, a ∈ u ++ eJoin e fr k :: w → a = eJoin e fr k ∨ a ∈ s_L st := fun a ha => by
    rw [hl]
    rcases List.mem_append.mp ha with ha | ha
    · exact Or.inr (by simp [ha])
    · rcases List.mem_cons.mp ha with ha | ha
      · exact Or.inl ha
      · exact Or.inr (by simp [ha])
  have he' : e ∈ s_L st := by rw [hl]; simp
  obtain ⟨v1, v2, v3, v4, v5, v6, v7, v8⟩ := i2 e he'
  rw [hl] at i8 i9
  refine ⟨i0, i1, fun a ha => ?_, i3, i4, i5, i6, i7, ?_, ?_, gA G nd k, ?_, ?_, ?_, ?_, ?_⟩
  · rcases hin a ha with rfl | ha
    · refine ⟨by rw [jn_o (by omega)]; exact v1, by rw [jn_o (by omega)]; exact v2, by rw [jn_o (by omega)]; exact v3, fun i hi => ?_, ?_, fun i hi => ?_, fun i hi => ?_, by rw [jn_o (by omega)]; exact v8⟩
      · rcases jn_3 hf6 hi with hh | ⟨f, f1, rfl⟩
        · exact v4 i hh
        · exact (hf f f1).1
      · obtain ⟨x, x1, x2, x3⟩ := v5
        exact ⟨x, x1, by rw [jn_o (by omega)]; exact x2, by rw [jn_5 k64]; simp [x3]⟩
      · rw [jn_5 k64] at hi
        rw [jn_o (by omega), jn_o (by omega)]
        simp at hi
        rcases hi with hi | rfl
        · exact v6 i hi
        · exact ⟨hk, hB.1, hB.2.1.trans he.2.1.symm, hB.2.2.trans he.2.2.symm⟩
      · rw [jn_4 k64] at hi
        rw [jn_5 k64]
        simp at hi
        rcases hi with hi | ⟨hi, rfl⟩
        · exact ⟨by simp [(v7 i hi).1], (v7 i hi).2⟩
        · exact ⟨by simp, (hfr hi).1⟩
    · exact i2 a ha
  · -- one entry a name and wish at a node
    show pwU (u ++ eJoin e fr k :: w)
    unfold pwU at i8 ⊢
    rw [List.pairwise_append] at i8 ⊢
    obtain ⟨a1, a2, a3⟩ := i8
    rw [List.pairwise_cons] at a2 ⊢
    refine ⟨a1, ⟨fun f hff => ?_, a2.2⟩, fun a ha f hff => ?_⟩
    · rw [jn_o (by omega), jn_o (by omega), jn_o (by omega)]; exact a2.1 f hff
    · rcases List.mem_cons.mp hff with rfl | hff
      · rw [jn_o (by omega), jn_o (by omega), jn_o (by omega)]; exact a3 a ha e (by simp)
      · exact a3 a ha f (by simp [hff])
  · show pwA (u ++ eJoin e fr k :: w)
    have nk : ∀ a ∈ s_L st, fr = none → ¬ bL (a.2 4) k = true := fun a ha hn hh => (hfr hn).2 a ha ((i2 a ha).2.2.2.2.2.2.1 k hh).1
    unfold pwA at i9 ⊢
    rw [List.pairwise_append] at i9 ⊢
    obtain ⟨a1, a2, a3⟩ := i9
    rw [List.pairwise_cons] at a2 ⊢
    refine ⟨a1, ⟨fun f hff i => ?_, a2.2⟩, fun a ha f hff i => ?_⟩
    · rw [jn_4 k64]
      rintro ⟨h1, h2⟩
      simp at h1
      rcases h1 with h1 | ⟨h1, rfl⟩
      · exact a2.1 f hff i ⟨h1, h2⟩
      · exact nk f (by rw [hl]; simp [hff]) h1 h2
    · rcases List.mem_cons.mp hff with rfl | hff
      · rw [jn_4 k64]
        rintro ⟨h1, h2⟩
        simp at h2
        rcases h2 with h2 | ⟨h2, rfl⟩
        · exact a3 a ha e (by simp) i ⟨h1, h2⟩
        · exact nk a (by rw [hl]; simp [ha]) h2 h1
      · exact a3 a ha f (by simp [hff]) i
  · exact fun x i hx hi => gA_up (g1 x i hx hi)
  · intro a ha x i hx h1 h2
    rcases hin a ha with rfl | ha
    · rw [jn_o (by omega)] at h1
      rw [jn_5 k64] at h2
      simp at h2
      rcases h2 with h2 | rfl
      · exact gA_up (g2 e he' x i hx h1 h2)
      · rw [he.1] at h1
        rw [x_eq (by omega) (by omega)] at h1
        subst h1; exact gA_s
    · exact gA_up (g2 a ha x i hx h1 h2)
  · intro x i hx h1
    simp only [gA, Bool.or_eq_true, Bool.and_eq_true, beq_iff_eq] at h1
    rcases h1 with h1 | ⟨rfl, rfl⟩
    · rcases g3 x i hx h1 with h2 | ⟨a, a1, a2, a3⟩
      · exact Or.inl h2
      · refine Or.inr ?_
        rw [hl] at a1
        by_cases hae : a = e
        · subst hae
          exact ⟨eJoin a fr k, by show eJoin a fr k ∈ u ++ eJoin a fr k :: w; simp, by rw [jn_o (by omega)]; exact a2, by rw [jn_5 k64]; simp [a3]⟩
        · refine ⟨a, ?_, a2, a3⟩
          show a ∈ u ++ eJoin e fr k :: w
          rcases List.mem_append.mp a1 with a1 | a1
          · simp [a1]
          · rcases List.mem_cons.mp a1 with a1 | a1
            · exact absurd a1 hae
            · simp [a1]
    · exact Or.inr ⟨eJoin e fr i, by show eJoin e fr i ∈ u ++ eJoin e fr i :: w; simp, by rw [jn_o (by omega)]; exact he.1, by rw [jn_5 k64]; simp⟩
  · show (s_F st).length + cbL (u ++ eJoin e fr k :: w) + 0 ≤ cG (gA G nd k)
    have m := cG_mono (G := G) (nd := nd) (k := k)
    rw [hl, cbL_mid] at g4
    rw [cbL_mid]
    have cj := cb_join (e := e) (fr := fr) (k := k) hf6
    cases fr with
    | none => simp at cj; omega
    | some f => have := (hf f rfl).2; simp at cj; omega
  · intro x hx
    have := g5 x hx
    rw [hl] at this
    have m : cnt (G x) 60 ≤ cnt (gA G nd k x) 60 := cnt_mono (fun i hi => gA_up hi) 60
    have ll : ((u ++ eJoin e fr k :: w).filter (atN x)).length = ((u ++ e :: w).filter (atN x)).length := by
      have : atN x (eJoin e fr k) = atN x e := by unfold atN; rw [jn_o (by omega)]
      rw [List.filter_append, List.filter_append, List.length_append, List.length_append, List.filter_cons, List.filter_cons, this]
      split <;> rfl
    show ((u ++ eJoin e fr k :: w).filter (atN x)).length ≤ _
    omega
theorem inv_make {nd k nm : Nat} {fr : Option Nat} {ws : Int32} (ok : nOk N) (I : Inv N kb lo s st) (hnd : nd < N 0) (hnm : nm < 531441) (hlo : lo ≤ s_n st + 1) (hk : k < kb) (hB : s_B st k 8 = 1 ∧ s_B st k 9 = nI nm ∧ s_B st k 10 = ws) (hf : ∀ f, fr = some f → f < N 0 ∧ 1 ≤ s) (hfr : fr = none → fr0 (s_B st k) ∧ ∀ e ∈ s_L st, ¬ bL (e.2 5) k = true) (hq : fs (isE nd (nI nm) ws) (s_L st) = none) (hd : ¬ bL (s_D st nd) k = true) : Inv N kb lo 0 (makeE N aw st nd fr nm ws k) := by
  have b0 := ok.1
  have hf6 : ∀ f, fr = some f → f < 6 := fun f hh => by have := (hf f hh).1; omega
  have nk : ∀ a ∈ s_L st, fr = none → ¬ bL (a.2 4) k = true := fun a ha hn hh => (hfr hn).2 a ha ((I.2.2.1 a ha).2.2.2.2.2.2.1 k hh).1
  unfold makeE
  cases hb : bw N aw (s_d st) (s_M st) nd nm ((newE N st nd fr nm ws k).1 3) with
  | none =>
    refine inv_answ ok I hnd hf hlo (fun hn => ⟨hB.1, (hfr hn).1, fun e he => nk e he hn⟩) (Or.inr rfl) ⟨Or.inr (Or.inr rfl), ⟨nm, hnm, rfl⟩, fun hh => absurd hh (by decide : ¬ (2 : Int32) = 0)⟩
  | some t =>
    have ht := bw_lt ok hb
    obtain ⟨i0, i1, i2, i3, i4, i5, i6, i7, i8, i9, G, g⟩ := id I
    have nG := new_G I g (by omega) hB.2.1 hB.2.2 hq hd
    obtain ⟨g1, g2, g3, g4, g5⟩ := g
    have k64 : k < 64 := by omega
    obtain ⟨E, eE⟩ : ∃ E, E = eOut (newE N st nd fr nm ws k) t (s_n st) := ⟨_, rfl⟩
    have o0 : E.1 0 = nI nd := by rw [eE]; show (newE N st nd fr nm ws k).1 0 = _; unfold newE; rw [jn_o (by omega)]; rfl
    have o1 : E.1 1 = nI nm := by rw [eE]; show (newE N st nd fr nm ws k).1 1 = _; unfold newE; rw [jn_o (by omega)]; rfl
    have o2 : E.1 2 = ws := by rw [eE]; show (newE N st nd fr nm ws k).1 2 = _; unfold newE; rw [jn_o (by omega)]; rfl
    have o3 : E.1 3 = (newE N st nd fr nm ws k).1 3 := by rw [eE]; rfl
    have o6 : E.1 6 = nI k := by rw [eE]; show (newE N st nd fr nm ws k).1 6 = _; unfold newE; rw [jn_o (by omega)]; rfl
    have o7 : E.1 7 = nI t := by rw [eE]; rfl
    have o9 : E.1 9 = nI (s_n st) := by rw [eE]; rfl
    have n5 : ∀ i, bL (E.2 5) i = decide (k = i) := fun i => by
      rw [eE]; show bL ((newE N st nd fr nm ws k).2 5) i = _
      unfold newE; rw [jn_5 k64]
      show (bL 0 i || _) = _
      rw [bL_0]; simp
    have n4 : ∀ i, bL (E.2 4) i = (fr.isNone && decide (k = i)) := fun i => by
      rw [eE]; show bL ((newE N st nd fr nm ws k).2 4) i = _
      unfold newE; rw [jn_4 k64]
      show (bL 0 i || _) = _
      rw [bL_0]; simp
    have I2 : Inv N kb lo (0 + 1) (q_L st (s_L st ++ [E])) := by
      refine ⟨i0, i1, fun a ha => ?_, i3, i4, i5, i6, i7, ?_, ?_, gA G nd k, ?_, ?_, ?_, ?_, ?_⟩
      · rcases List.mem_append.mp ha with ha | ha
        · exact i2 a ha
        · rw [List.mem_singleton.mp ha]
          refine ⟨⟨nd, hnd, o0⟩, ⟨t, ht, o7⟩, ⟨nm, hnm, o1⟩, fun i hi => ?_, ⟨k, hk, o6, by rw [n5]; simp⟩, fun i hi => ?_, fun i hi => ?_, ⟨s_n st, Nat.le_refl _, o9⟩⟩
          · rw [o3] at hi
            unfold newE at hi
            rcases jn_3 hf6 hi with hh | ⟨f, f1, rfl⟩
            · have hh : bI 0 i = true := hh
              rw [bI_0] at hh; cases hh
            · exact (hf f f1).1
          · rw [n5] at hi; simp at hi; subst hi
            exact ⟨hk, hB.1, by rw [o1]; exact hB.2.1, by rw [o2]; exact hB.2.2⟩
          · rw [n4] at hi; simp at hi
            obtain ⟨hi1, rfl⟩ := hi
            exact ⟨by rw [n5]; simp, (hfr hi1).1⟩
      · show pwU (s_L st ++ [E])
        unfold pwU at i8 ⊢
        rw [List.pairwise_append]
        refine ⟨i8, by simp, fun a ha f hff => ?_⟩
        rw [List.mem_singleton.mp hff, o0, o1, o2]
        have := fs_none hq a ha
        simpa [isE] using this
      · show pwA (s_L st ++ [E])
        unfold pwA at i9 ⊢
        rw [List.pairwise_append]
        refine ⟨i9, by simp, fun a ha f hff i => ?_⟩
        rw [List.mem_singleton.mp hff, n4]
        rintro ⟨h1, h2⟩
        simp at h2
        obtain ⟨h3, rfl⟩ := h2
        exact nk a ha h3 h1
      · exact fun x i hx hi => gA_up (g1 x i hx hi)
      · intro a ha x i hx h1 h2
        rcases List.mem_append.mp ha with ha | ha
        · exact gA_up (g2 a ha x i hx h1 h2)
        · rw [List.mem_singleton.mp ha] at h1 h2
          rw [n5] at h2; simp at h2; subst h2
          rw [o0, x_eq (by omega) (by omega)] at h1
          subst h1; exact gA_s
      · intro x i hx h1
        simp only [gA, Bool.or_eq_true, Bool.and_eq_true, beq_iff_eq] at h1
        rcases h1 with h1 | ⟨rfl, rfl⟩
        · rcases g3 x i hx h1 with h2 | ⟨a, a1, a2, a3⟩
          · exact Or.inl h2
          · exact Or.inr ⟨a, List.mem_append.mpr (Or.inl a1), a2, a3⟩
        · exact Or.inr ⟨E, List.mem_append.mpr (Or.inr (by simp)), o0, by rw [n5]; simp⟩
      · show (s_F st).length + cbL (s_L st ++ [E]) + (0 + 1) ≤ cG (gA G nd k)
        have m := cG_add (G := G) (nd := nd) (k := k) (by omega) (by omega) nG
        have c1 : cbL (s_L st ++ [E]) = cbL (s_L st) + cb (E.1 3) 6 0 := by simp [cbL]
        have c2 : cb (E.1 3) 6 0 ≤ if fr.isSome = true then 1 else 0 := by
          rw [o3]
          have := cb_join (e := mkE (nI nd) (nI nm) ws 0 (nI k) (-1) 0 0 (nI (s_n st + N 1)) 0 0) (fr := fr) (k := k) hf6
          rw [show cb ((mkE (nI nd) (nI nm) ws 0 (nI k) (-1) 0 0 (nI (s_n st + N 1)) 0 0).1 3) 6 0 = 0 from cb_0 6 0] at this
          unfold newE
          omega
        rw [c1]
        cases fr with
        | none => simp at c2; omega
        | some f => have := (hf f rfl).2; simp at c2; omega
      · intro x hx
        have := g5 x hx
        show ((s_L st ++ [E]).filter (atN x)).length ≤ _
        rw [List.filter_append, List.length_append]
        have m : cnt (G x) 60 ≤ cnt (gA G nd k x) 60 := cnt_mono (fun i hi => gA_up hi) 60
        by_cases hxn : x = nd
        · subst hxn
          have m2 := cnt_add (f := G x) (g := gA G x k x) nG gA_s (fun i hi => gA_up hi) 60 (by omega)
          have : ([E].filter (atN x)).length ≤ 1 := List.length_filter_le _ _
          omega
        · have : [E].filter (atN x) = [] := List.filter_eq_nil_iff.mpr (fun a ha => by
            rw [List.mem_singleton.mp ha, atN_x o0 hx (by omega)]; simp; omega)
          rw [this]; simpa using Nat.le_trans (g5 x hx) m
    have := inv_send (aw := aw) (a := nd) (b := t) (p := plI (nI nm) ws (nI k)) ok I2 hnd ht hlo ⟨Or.inl rfl, ⟨nm, hnm, rfl⟩, fun _ => ⟨k, hk, rfl, hB.1, hB.2.1, hB.2.2⟩⟩
    rw [eE] at this
    exact this
theorem inv_inte {nd k nm : Nat} {fr : Option Nat} {ws : Int32} (ok : nOk N) (I : Inv N kb lo s st) (hnd : nd < N 0) (hnm : nm < 531441) (hlo : lo ≤ s_n st + 1) (hk : k < kb) (hB : s_B st k 8 = 1 ∧ s_B st k 9 = nI nm ∧ s_B st k 10 = ws) (hf : ∀ f, fr = some f → f < N 0 ∧ 1 ≤ s) (hfr : fr = none → fr0 (s_B st k) ∧ ∀ e ∈ s_L st, ¬ bL (e.2 5) k = true) : Inv N kb lo 0 (inte N aw st nd fr nm ws k) := by
  have b0 := ok.1
  have nk : ∀ a ∈ s_L st, fr = none → ¬ bL (a.2 4) k = true := fun a ha hn hh => (hfr hn).2 a ha ((I.2.2.1 a ha).2.2.2.2.2.2.1 k hh).1
  have ans : ∀ (st' : St) (p : Ms), Inv N kb lo s st' → s_L st' = s_L st → s_B st' = s_B st → s_n st' = s_n st → (p 0 = 1 ∨ p 0 = 2) → p 4 = nI nm → Inv N kb lo 0 (answ N aw st' nd fr k p) := fun st' p I' h1 h2 h3 h4 h5 => by
    refine inv_answ ok I' hnd hf (by rw [h3]; exact hlo) (fun hn => ⟨by rw [h2]; exact hB.1, by rw [h2]; exact (hfr hn).1, fun e he => nk e (h1 ▸ he) hn⟩) h4 ⟨?_, ⟨nm, hnm, h5⟩, fun hh => ?_⟩
    · rcases h4 with h4 | h4
      · exact Or.inr (Or.inl h4)
      · exact Or.inr (Or.inr h4)
    · rcases h4 with h4 | h4 <;> (rw [hh] at h4; exact absurd h4 (by decide))
  unfold inte
  split
  · exact ans _ _ (inv_tick I) rfl rfl rfl (Or.inr rfl) rfl
  · rename_i hno
    split
    · rename_i r hg
      refine ans _ _ ?_ rfl rfl rfl (Or.inl rfl) rfl
      obtain ⟨i0, i1, i2, i3, i4, i5, i6, i7, i8, i9, i10⟩ := id I
      refine ⟨i0, i1, i2, i3, i4, i5, fun x hx => ?_, i7, i8, i9, i10⟩
      show (ug (s_S st) nd (r.1 ++ r.2.2 ++ [r.2.1]) x).length ≤ _
      by_cases hxn : x = nd
      · subst hxn
        rw [ug_e]
        have := i6 x hx
        cases hq : fs (isN (nI nm)) (s_S st x) with
        | none => rw [hq] at hg; cases hg
        | some r' =>
          rw [hq] at hg
          simp only [goodS] at hg
          split at hg
          · cases hg
            obtain ⟨l1, -, -⟩ := fs_some (show fs (isN (nI nm)) (s_S st x) = some (r.1, r.2.1, r.2.2) from hq)
            rw [l1] at this
            simp at this ⊢; omega
          · cases hg
      · rw [ug_n hxn]; exact i6 x hx
    · split
      · exact ans _ _ I rfl rfl rfl (Or.inl rfl) rfl
      · cases hq : fs (isE nd (nI nm) ws) (s_L st) with
        | some r =>
          obtain ⟨l1, l2, -⟩ := fs_some (show fs (isE nd (nI nm) ws) (s_L st) = some (r.1, r.2.1, r.2.2) from hq)
          have l2 : r.2.1.1 0 = nI nd ∧ r.2.1.1 1 = nI nm ∧ r.2.1.1 2 = ws := by simpa [isE] using l2
          exact inv_join (st := tick st 2) ok (inv_tick I) l1 hnd l2 hk hB hf hfr
        | none => exact inv_make ok I hnd hnm hlo hk hB hf hfr hq (fun hh => hno (Or.inr hh))
end Inv2
