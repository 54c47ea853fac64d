/-! what comes, in the model -/
noncomputable def wtK (D : DT) (b : Nat) (c : Nat → Prop) (k : Nat) : DT := fun f i j => @ite _ (f = 8 ∧ i = b ∧ j < k ∧ c j) (Classical.propDecidable _) 1 (D f i j)
theorem wtK_f {D : DT} {b k f i j : Nat} {c : Nat → Prop} (h : f ≠ 8) : wtK D b c k f i j = D f i j := if_neg (fun z => h z.1)
theorem wtK_0 {D : DT} {b : Nat} {c : Nat → Prop} : wtK D b c 0 = D := by
  funext f i j
  exact if_neg (fun z => absurd z.2.2.1 (Nat.not_lt_zero _))
theorem wtK_no {D : DT} {b k : Nat} {c : Nat → Prop} (h : ¬ c k) : wtK D b c (k + 1) = wtK D b c k := by
  funext f i j
  by_cases hq : f = 8 ∧ i = b ∧ j < k ∧ c j
  · rw [show wtK D b c k f i j = 1 from if_pos hq]
    exact if_pos ⟨hq.1, hq.2.1, by omega, hq.2.2.2⟩
  · rw [show wtK D b c k f i j = D f i j from if_neg hq]
    refine if_neg (fun z => ?_)
    rcases Nat.lt_succ_iff_lt_or_eq.mp z.2.2.1 with y | y
    · exact hq ⟨z.1, z.2.1, y, z.2.2.2⟩
    · rw [y] at z; exact h z.2.2.2
theorem wtK_yes {D : DT} {b k : Nat} {c : Nat → Prop} (h : c k) : wtK D b c (k + 1) = ud (wtK D b c k) 8 b k 1 := by
  funext f i j
  by_cases hk : f = 8 ∧ i = b ∧ j = k
  · rw [show ud (wtK D b c k) 8 b k 1 f i j = 1 from if_pos hk]
    exact if_pos ⟨hk.1, hk.2.1, by omega, by rw [hk.2.2]; exact h⟩
  · rw [show ud (wtK D b c k) 8 b k 1 f i j = wtK D b c k f i j from if_neg hk]
    by_cases hq : f = 8 ∧ i = b ∧ j < k ∧ c j
    · rw [show wtK D b c k f i j = 1 from if_pos hq]
      exact if_pos ⟨hq.1, hq.2.1, by omega, hq.2.2.2⟩
    · rw [show wtK D b c k f i j = D f i j from if_neg hq]
      exact if_neg (fun z => hq ⟨z.1, z.2.1, by have := z.2.2.1; have : j ≠ k := fun y => hk ⟨z.1, z.2.1, y⟩; omega, z.2.2.2⟩)
section MSA
variable {d rc rs w mg : Nat} {Q : Option Value → Mu → Prop} {μ : Mu} {T : PT} {D : DT} {Es : List Ent}
theorem c_MS_come {b : Nat} {x : Int64} (hC : XN μ w T D mg) (hD : 3 ≤ d) (hS : St μ) (hb : b < T 0 0)
    (hQ : ∀ μ', FrM w μ μ' → St μ' → XN μ' w T (wtK D b (fun s => bl x s = true ∧ ¬ kn D b s) (D 1 0 0)) mg → Q none μ') : Cal K_MS_come d rc rs [.ref (hd 65 w), .int (nI b), .long x] μ Q := by
  have hw := hC.w2; have hP := hC.P5; have h60 := hC.S60
  refine e_MS_come (g_MS_come_0 (by omega) hw hS ?_)
  generalize hc : (fun s => bl x s = true ∧ ¬ kn D b s) = c at hQ
  have hcs : ∀ s, c s ↔ (bl x s = true ∧ ¬ kn D b s) := fun s => by rw [← hc]
  have key : ∀ k, k ≤ D 1 0 0 → ∀ μ', FrM w μ μ' → St μ' → XN μ' w T (wtK D b c k) mg → Wx K_MS_come d rc rs (fun r μ' => St μ' ∧ Q r μ') 3 [(0, .ref (hd 65 w)), (1, .int (nI b)), (2, .long x), (4, .int (nI k))] [] μ' := by
    refine up_loop _ (fun μ' f1 f3 f4 => ?_) (fun k hk ih μ' f1 f3 f4 => ?_)
    · refine g_MS_come_3 (by omega) hw f3 ⟨fun _ => ⟨f3, hQ μ' f1 f3 f4⟩, fun h => absurd ?_ h⟩
      rw [f4.cnt, wtK_f (by decide)]; exact Int32.le_refl _
    · have hk' : k < wtK D b c k 1 0 0 := by rw [wtK_f (by decide)]; exact hk
      have skip : ¬ c k → Wx K_MS_come d rc rs (fun r μ' => St μ' ∧ Q r μ') 3 [(0, .ref (hd 65 w)), (1, .int (nI b)), (2, .long x), (4, .int (nI k + 1))] [] μ' := fun hn => by
        rw [nI_1]
        exact ih μ' f1 f3 (by rw [wtK_no hn]; exact f4)
      refine g_MS_come_3 (by omega) hw f3 ⟨fun h => absurd h ?_, fun _ => ?_⟩
      · rw [f4.cnt, wtK_f (by decide)]; exact nI_ge hk (by omega)
      rw [bl_t1 (by omega)]
      refine ⟨fun z => ?_, fun z => skip (fun y => z ((hcs k).mp y).1)⟩
      refine c_MS_knows f4 (by omega) f3 hb hk' ?_
      have hkn : kn (wtK D b c k) b k = kn D b k := by
        simp only [kn, wtK_f (show 5 ≠ 8 by decide), wtK_f (show 4 ≠ 8 by decide), wtK_f (show 6 ≠ 8 by decide)]
      rw [hkn]
      have v5 : vp_in (nI b) 5 := vp_in_nI (by omega) (by decide)
      refine ⟨_, rfl, fun e => ⟨v5, v5, ?_⟩, fun e => ?_⟩
      · rw [bI_z] at e
        rw [nI_clamp (by omega), nI_1]
        have hSt : St (setL μ' (hd 75 w) b (mL μ' (hd 75 w) b ||| ((1 : Int64) <<< ((nI k).toInt64 &&& 63)))) := f3
        refine ih _ (f1.setL (by decide)) hSt ?_
        rw [wtK_yes ((hcs k).mpr ⟨z, e⟩)]
        refine f4.setW hb (f4.2.1.ud8 (by decide)) ((f4.wait hb).add (k := k) (by omega) (fun s hs => ?_))
        by_cases hsk : s = k
        · subst hsk
          rw [ud_self]
          exact ⟨fun _ => Or.inr rfl, fun _ => by decide⟩
        · rw [ud_ne (fun y => hsk y.2.2)]
          exact ⟨fun y => Or.inl y, fun y => y.resolve_right hsk⟩
      · rw [bI_z, Classical.not_not] at e
        exact skip (fun y => ((hcs k).mp y).2 e)
  exact key 0 (Nat.zero_le _) μ FrM.rf hS (by rw [wtK_0]; exact hC)
/-- what comes today of these -/
def cA (D : DT) (pre : List Ent) (i j : Nat) : Prop := ∃ e ∈ pre, e.2.1 = D 0 0 0 ∧ D 12 e.1 1 = i ∧ j < D 1 0 0 ∧ bl e.2.2 j = true ∧ ¬ kn D i j
noncomputable def arD (D : DT) (pre : List Ent) : DT := fun f i j => @ite _ (f = 8 ∧ cA D pre i j) (Classical.propDecidable _) 1 (D f i j)
theorem arD_f {D : DT} {pre : List Ent} {f i j : Nat} (h : f ≠ 8) : arD D pre f i j = D f i j := if_neg (fun z => h z.1)
theorem cA_app {D : DT} {pre : List Ent} {e : Ent} {i j : Nat} : cA D (pre ++ [e]) i j ↔ cA D pre i j ∨ (e.2.1 = D 0 0 0 ∧ D 12 e.1 1 = i ∧ j < D 1 0 0 ∧ bl e.2.2 j = true ∧ ¬ kn D i j) := by
  unfold cA
  constructor
  · rintro ⟨x, hx, h⟩
    rcases List.mem_append.mp hx with y | y
    · exact Or.inl ⟨x, y, h⟩
    · rw [List.mem_singleton] at y; subst y; exact Or.inr h
  · rintro (⟨x, hx, h⟩ | h)
    · exact ⟨x, List.mem_append.mpr (Or.inl hx), h⟩
    · exact ⟨e, List.mem_append.mpr (Or.inr (List.mem_singleton.mpr rfl)), h⟩
theorem arD_no {D : DT} {pre : List Ent} {e : Ent} (h : e.2.1 ≠ D 0 0 0) : arD D (pre ++ [e]) = arD D pre := by
  have hc : ∀ i j, cA D (pre ++ [e]) i j ↔ cA D pre i j := fun i j => by
    rw [cA_app]
    exact ⟨fun z => z.resolve_right (fun y => h y.1), fun z => Or.inl z⟩
  funext f i j
  by_cases hq : f = 8 ∧ cA D pre i j
  · rw [show arD D pre f i j = 1 from if_pos hq]
    exact if_pos ⟨hq.1, (hc i j).mpr hq.2⟩
  · rw [show arD D pre f i j = D f i j from if_neg hq]
    exact if_neg (fun z => hq ⟨z.1, (hc i j).mp z.2⟩)
theorem arD_yes {D : DT} {pre : List Ent} {e : Ent} (h : e.2.1 = D 0 0 0) : wtK (arD D pre) (D 12 e.1 1) (fun s => bl e.2.2 s = true ∧ ¬ kn (arD D pre) (D 12 e.1 1) s) (arD D pre 1 0 0) = arD D (pre ++ [e]) := by
  have hkn : ∀ i j, kn (arD D pre) i j = kn D i j := fun i j => by
    simp only [kn, arD_f (show 5 ≠ 8 by decide), arD_f (show 4 ≠ 8 by decide), arD_f (show 6 ≠ 8 by decide)]
  funext f i j
  by_cases h8 : f = 8
  · subst h8
    by_cases hq : i = D 12 e.1 1 ∧ j < D 1 0 0 ∧ bl e.2.2 j = true ∧ ¬ kn D i j
    · rw [show arD D (pre ++ [e]) 8 i j = 1 from if_pos ⟨rfl, cA_app.mpr (Or.inr ⟨h, hq.1.symm, hq.2⟩)⟩]
      refine if_pos ⟨rfl, hq.1, ?_, hq.2.2.1, ?_⟩
      · rw [arD_f (by decide)]; exact hq.2.1
      · rw [hkn, ← hq.1]; exact hq.2.2.2
    · rw [show wtK (arD D pre) (D 12 e.1 1) (fun s => bl e.2.2 s = true ∧ ¬ kn (arD D pre) (D 12 e.1 1) s) (arD D pre 1 0 0) 8 i j = arD D pre 8 i j from if_neg (fun z => hq ⟨z.2.1, by have := z.2.2.1; rw [arD_f (by decide)] at this; exact this, z.2.2.2.1, by have := z.2.2.2.2; rw [hkn, ← z.2.1] at this; exact this⟩)]
      by_cases hp : cA D pre i j
      · rw [show arD D pre 8 i j = 1 from if_pos ⟨rfl, hp⟩]
        exact (if_pos ⟨rfl, cA_app.mpr (Or.inl hp)⟩).symm
      · rw [show arD D pre 8 i j = D 8 i j from if_neg (fun z => hp z.2)]
        refine (if_neg (fun z => ?_)).symm
        rcases cA_app.mp z.2 with y | y
        · exact hp y
        · exact hq ⟨y.2.1.symm, y.2.2⟩
  · rw [wtK_f h8, arD_f h8, arD_f h8]
/-- entries, from the place k on -/
def YP (μ : Mu) (w k : Nat) (l : List Ent) : Prop := ∀ j e, l[j]? = some e → mI μ (hd 79 w) (k + j) = nI e.1 ∧ mI μ (hd 80 w) (k + j) = nI e.2.1 ∧ mL μ (hd 81 w) (k + j) = e.2.2
theorem YE.yp {μ : Mu} {w : Nat} {Es : List Ent} (h : YE μ w Es) : YP μ w 0 Es := fun j e he => by rw [Nat.zero_add]; exact h.2 j e he
theorem YP.fr {μ μ' : Mu} {w k : Nat} {l : List Ent} (h : YP μ w k l) (f : FrM w μ μ') : YP μ' w k l := fun j e he => by
  rw [(f.2.2.2 79 (by decide) (by decide) _).1, (f.2.2.2 80 (by decide) (by decide) _).1, (f.2.2.2 81 (by decide) (by decide) _).2]
  exact h j e he
theorem XN.set18 {μ : Mu} {x : Int32} (h : XN μ w T D mg) : XN (setI μ (hd 65 w) 18 x) w T D mg := by
  obtain ⟨h1, h2, h3, h4, h5, h6, h7⟩ := h
  refine ⟨h1, h2, h3.fr (fun f i j hr => ?_), by rw [rd_k (by decide)]; exact h4, h5, h6, PM.fr (own := OwM w) h7 (Fr.rf.setI (by decide) (by unfold OwM; omega)) rfl (by unfold OwM; omega)⟩
  obtain ⟨κ, e, hk⟩ := mlc_k (w := w) hr
  rw [e, mI_set, if_neg]
  rintro ⟨z1, z2⟩
  have := (hd_inj (by omega) (by decide)).mp z1
  omega
theorem cE_filter {p : Ent → Bool} {r s : Nat} : ∀ l : List Ent, (∀ e ∈ l, p e = false → ¬ (e.1 = r ∧ bl e.2.2 s = true)) → cE (l.filter p) r s = cE l r s
  | [], _ => rfl
  | e :: l, h => by
    have ih := cE_filter (p := p) (r := r) (s := s) l (fun x hx => h x (List.mem_cons_of_mem _ hx))
    rw [List.filter_cons]
    by_cases hp : p e = true
    · rw [if_pos hp, cE, cE, ih]
    · rw [if_neg hp, cE, ih, if_neg (h e List.mem_cons_self (by cases hq : p e; rfl; exact absurd hq hp)), Nat.zero_add]
theorem brF_8 {E : DT} {r b s : Nat} : ∀ k, (brF E r k 8 b s ≠ 0 ↔ E 8 b s ≠ 0 ∨ (s < k ∧ E 12 r 1 = b ∧ E 10 r s = E 0 0 0 + 1 ∧ ¬ kn E b s))
  | 0 => ⟨fun z => Or.inl z, fun z => z.elim id (fun y => absurd y.1 (Nat.not_lt_zero _))⟩
  | k + 1 => by
    have ih := brF_8 (E := E) (r := r) (b := b) (s := s) k
    rw [brF]
    split
    · rename_i hc
      rw [ud_f (by decide)]
      by_cases hq : b = E 12 r 1 ∧ s = k
      · rw [show ud (brF E r k) 8 (E 12 r 1) k 1 8 b s = 1 from if_pos ⟨rfl, hq⟩]
        refine ⟨fun _ => Or.inr ⟨by omega, hq.1.symm, ?_, ?_⟩, fun _ => by decide⟩
        · rw [hq.2]; exact hc.1
        · rw [hq.1, hq.2]; exact hc.2.1
      · rw [show ud (brF E r k) 8 (E 12 r 1) k 1 8 b s = brF E r k 8 b s from if_neg (fun z => hq z.2), ih]
        refine ⟨fun z => z.elim Or.inl (fun y => Or.inr ⟨by omega, y.2⟩), fun z => z.elim Or.inl (fun y => Or.inr ⟨?_, y.2⟩)⟩
        have : s ≠ k := fun u => hq ⟨y.2.1.symm, u⟩
        omega
    · rename_i hc
      rw [ih]
      refine ⟨fun z => z.elim Or.inl (fun y => Or.inr ⟨by omega, y.2⟩), fun z => z.elim Or.inl (fun y => ?_)⟩
      rcases Nat.lt_succ_iff_lt_or_eq.mp y.1 with u | rfl
      · exact Or.inr ⟨u, y.2⟩
      · refine Classical.byContradiction (fun hn => hc ⟨y.2.2.1, by rw [y.2.1]; exact y.2.2.2, ?_⟩)
        rw [y.2.1]
        exact Classical.byContradiction (fun u => hn (ih.mp u))
theorem brA_8 {D : DT} {b s : Nat} : ∀ k, (brA D k 8 b s ≠ 0 ↔ D 8 b s ≠ 0 ∨ ∃ r, r < k ∧ s < D 1 0 0 ∧ D 12 r 1 = b ∧ D 10 r s = D 0 0 0 + 1 ∧ ¬ kn D b s)
  | 0 => ⟨fun z => Or.inl z, fun z => z.elim id (fun ⟨r, y, _⟩ => absurd y (Nat.not_lt_zero _))⟩
  | k + 1 => by
    have hkn : kn (brA D k) b s = kn D b s := by
      simp only [kn, brA_f (show 5 ≠ 8 by decide) (show 5 ≠ 11 by decide), brA_f (show 4 ≠ 8 by decide) (show 4 ≠ 11 by decide), brA_f (show 6 ≠ 8 by decide) (show 6 ≠ 11 by decide)]
    rw [brA, brF_8, brA_8 k, brA_f (by decide) (by decide), brA_f (by decide) (by decide), brA_f (by decide) (by decide), brA_f (by decide) (by decide), hkn]
    constructor
    · rintro ((z | ⟨r, h1, h2⟩) | z)
      · exact Or.inl z
      · exact Or.inr ⟨r, by omega, h2⟩
      · exact Or.inr ⟨k, by omega, z⟩
    · rintro (z | ⟨r, h1, h2⟩)
      · exact Or.inl (Or.inl z)
      · rcases Nat.lt_succ_iff_lt_or_eq.mp h1 with u | rfl
        · exact Or.inl (Or.inr ⟨r, u, h2⟩)
        · exact Or.inr h2
theorem c_MS_arrive (hC : XN μ w T D mg) (hD : 4 ≤ d) (hS : St μ) (hE : YE μ w Es) (hB : EB T D (D 0 0 0) Es) (hI : Inv T D)
    (hQ : ∀ μ' Es', Fr (OwM w) μ μ' → mR μ' = mR μ → St μ' → XN μ' w T (brA D (T 2 0)) mg → YE μ' w Es' → EB T D (D 0 0 0 + 1) Es' → Q none μ') : Cal K_MS_arrive d rc rs [.ref (hd 65 w)] μ Q := by
  have hw := hC.w2; have hP := hC.P5; have h60 := hC.S60; have hR := hC.R8; have hdy := hC.dayB; have h480 := hB.len hR
  refine e_MS_arrive (g_MS_arrive_0 (by omega) hw hS ?_)
  have key : ∀ (rest pre kept : List Ent) (μ' : Mu), Es = pre ++ rest → kept = pre.filter (fun e => !decide (e.2.1 = D 0 0 0)) → Fr (OwM w) μ μ' → mR μ' = mR μ → St μ' → mI μ' (hd 65 w) 18 = nI Es.length → XN μ' w T (arD D pre) mg → YP μ' w 0 kept → YP μ' w pre.length rest → Wx K_MS_arrive d rc rs (fun r μ' => St μ' ∧ Q r μ') 4 [(0, .ref (hd 65 w)), (1, .int (nI kept.length)), (2, .int (nI pre.length))] [] μ' := by
    intro rest
    induction rest with
    | nil =>
      intro pre kept μ' e ek f1 f2 f3 fu f4 fk fr
      rw [List.append_nil] at e
      refine g_MS_arrive_4 (by omega) hw f3 ⟨fun _ => ?_, fun h => absurd ?_ h⟩
      · have hSt : St (setI μ' (hd 65 w) 18 (nI kept.length)) := f3
        refine ⟨hSt, hQ _ kept (f1.setI (by decide) (by unfold OwM; omega)) f2 hSt ?_ ?_ ?_⟩
        · refine (f4.congr (D' := brA D (T 2 0)) (hI.br2 _ (Nat.le_refl _)).1 (fun f i j h8 h11 => by rw [brA_f h8 h11, arD_f h8]) (fun b s hb hs => ?_)).set18
          rw [brA_8]
          have ha : arD D pre 8 b s ≠ 0 ↔ D 8 b s ≠ 0 ∨ cA D pre b s := by
            by_cases hc : cA D pre b s
            · rw [show arD D pre 8 b s = 1 from if_pos ⟨rfl, hc⟩]
              exact ⟨fun _ => Or.inr hc, fun _ => by decide⟩
            · rw [show arD D pre 8 b s = D 8 b s from if_neg (fun z => hc z.2)]
              exact ⟨fun z => Or.inl z, fun z => z.resolve_right hc⟩
          rw [ha, ← e]
          refine ⟨fun z => z.elim Or.inl (fun ⟨r, h1, h2, h3, h4, h5⟩ => Or.inr ?_), fun z => z.elim Or.inl (fun ⟨x, h0, h1, h2, h3, h4, h5⟩ => Or.inr ?_)⟩
          · have hc := hB.2 r s h1 hs
            rw [bN_t (by omega)] at hc
            obtain ⟨x, hx, hx1, hx2⟩ := cE_pos (r := r) (s := s) Es (by omega)
            have := ((hB.1 x hx).2.2.2.2 s (by omega) hx2).2
            rw [hx1] at this
            exact ⟨x, hx, by omega, by rw [hx1]; exact h3, h2, hx2, h5⟩
          · obtain ⟨b1, b2, b3, b4, b5⟩ := hB.1 x h0
            exact ⟨x.1, b1, h3, h2, by rw [(b5 s (by omega) h4).2, h1], h5⟩
        · refine ⟨rd_eq, fun k x hx => ?_⟩
          have := fk k x hx
          rw [Nat.zero_add] at this
          rw [rd_ne (by decide) (by decide) (by decide), rd_ne (by decide) (by decide) (by decide), mL_setI]
          exact this
        · rw [ek, ← e]
          refine ⟨fun x hx => ?_, fun r s hr hs => ?_⟩
          · rw [List.mem_filter] at hx
            obtain ⟨b1, b2, b3, b4, b5⟩ := hB.1 x hx.1
            have hne : x.2.1 ≠ D 0 0 0 := by simpa using hx.2
            exact ⟨b1, by omega, b3, b4, b5⟩
          · by_cases hq : D 10 r s = D 0 0 0 + 1
            · rw [bN_f (by omega)]
              refine Classical.byContradiction (fun hn => ?_)
              obtain ⟨x, hx, hx1, hx2⟩ := cE_pos (r := r) (s := s) _ hn
              rw [List.mem_filter] at hx
              have hne : x.2.1 ≠ D 0 0 0 := by simpa using hx.2
              have := ((hB.1 x hx.1).2.2.2.2 s (by omega) hx2).2
              rw [hx1] at this
              omega
            · rw [cE_filter, hB.2 r s hr hs]
              · exact bN_congr ⟨fun z => by omega, fun z => by omega⟩
              · intro x hx hp ⟨hx1, hx2⟩
                have hne : x.2.1 = D 0 0 0 := by simpa using hp
                have := ((hB.1 x hx).2.2.2.2 s (by omega) hx2).2
                rw [hx1] at this
                omega
      · rw [fu, e]; exact Int32.le_refl _
    | cons x rest ih =>
      intro pre kept μ' e ek f1 f2 f3 fu f4 fk fr
      have hl : pre.length < Es.length := by rw [e]; simp
      have hkl : kept.length ≤ pre.length := by rw [ek]; exact List.length_filter_le _ _
      have hxm : x ∈ Es := by rw [e]; simp
      obtain ⟨b1, b2, b3, b4, b5⟩ := hB.1 x hxm
      obtain ⟨y1, y2, y3⟩ := fr 0 x rfl
      rw [Nat.add_zero] at y1 y2 y3
      have hvp : vp_in (nI pre.length) 480 := vp_in_nI (by omega) (by decide)
      have hvk : vp_in (nI kept.length) 480 := vp_in_nI (by omega) (by decide)
      have day0 : mI μ' (hd 65 w) 0 = nI (D 0 0 0) := by rw [f4.day, arD_f (by decide)]
      have tl : ∀ μ2, YP μ2 w pre.length (x :: rest) → YP μ2 w (pre ++ [x]).length rest := fun μ2 h j z hz => by
        rw [List.length_append, List.length_singleton, Nat.add_assoc, Nat.add_comm 1]
        exact h (j + 1) z (by rw [List.getElem?_cons_succ]; exact hz)
      refine g_MS_arrive_4 (by omega) hw f3 ⟨fun h => absurd h ?_, fun _ => ⟨hvp, ?_⟩⟩
      · rw [fu]; exact nI_ge hl (by omega)
      rw [nI_clamp (by omega), nI_clamp (by omega), y2, day0, nI_eq (by omega) (by omega)]
      refine ⟨fun z => ⟨hvp, ?_⟩, fun z => ⟨hvp, hvk, hvp, hvk, hvp, hvk, fun μ8 e8 => ?_⟩⟩
      · rw [y1, nI_clamp (by omega), y3, (f4.pr b1).2, arD_f (by decide)]
        refine ⟨vp_in_nI (by omega) (by decide), hvp, ?_⟩
        refine c_MS_come f4 (by omega) f3 (hC.rdB b1).2.1 (fun μ2 m1 m2 m3 => ⟨rfl, ?_⟩)
        rw [arD_yes z] at m3
        rw [nI_1]
        have hih := ih (pre ++ [x]) kept μ2 (by rw [e]; simp) (by rw [ek, List.filter_append]; simp [z]) (f1.trans m1.1) (m1.2.1.trans f2) m2 (m1.2.2.1.trans fu) m3 (fk.fr m1) (tl μ2 (fr.fr m1))
        rw [List.length_append, List.length_singleton] at hih
        exact hih
      · rw [nI_1, nI_1]
        rw [y1, rd_ne (by decide) (by decide) (by decide), y2, mL_setI, mL_setI, y3] at e8
        have fr8 : Fr (fun κ i => (79 ≤ κ ∧ κ ≤ 81) ∧ i = w) μ' μ8 := by
          rw [e8]
          exact ((Fr.rf.setI (by decide) ⟨by decide, rfl⟩).setI (by decide) ⟨by decide, rfl⟩).setL (by decide) ⟨by decide, rfl⟩
        have mr8 : mR μ8 = mR μ' := by rw [e8]; rfl
        have hS8 := f3.of_eq fr8.1 mr8
        have r79 : ∀ j, mI μ8 (hd 79 w) j = if j = kept.length then nI x.1 else mI μ' (hd 79 w) j := fun j => by
          rw [e8, mI_setL, rd_ne (by decide) (by decide) (by decide), mI_set]
          by_cases hq : j = kept.length
          · rw [if_pos ⟨rfl, hq⟩, if_pos hq]
          · rw [if_neg (fun u => hq u.2), if_neg hq]
        have r80 : ∀ j, mI μ8 (hd 80 w) j = if j = kept.length then nI x.2.1 else mI μ' (hd 80 w) j := fun j => by
          rw [e8, mI_setL, mI_set, rd_ne (by decide) (by decide) (by decide)]
          by_cases hq : j = kept.length
          · rw [if_pos ⟨rfl, hq⟩, if_pos hq]
          · rw [if_neg (fun u => hq u.2), if_neg hq]
        have r81 : ∀ j, mL μ8 (hd 81 w) j = if j = kept.length then x.2.2 else mL μ' (hd 81 w) j := fun j => by
          rw [e8, mL_set, mL_setI, mL_setI]
          by_cases hq : j = kept.length
          · rw [if_pos ⟨rfl, hq⟩, if_pos hq]
          · rw [if_neg (fun u => hq u.2), if_neg hq]
        have hih := ih (pre ++ [x]) (kept ++ [x]) μ8 (by rw [e]; simp) (by rw [ek, List.filter_append]; simp [z]) (f1.trans (fr8.mono (fun κ i u => by unfold OwM; omega))) (mr8.trans f2) hS8 (by rw [fr8.I (by decide) (by omega)]; exact fu) (by rw [arD_no z]; exact f4.fr fr8 mr8 (by omega)) ?_ (tl μ8 (fun j u hu => ?_))
        · rw [List.length_append, List.length_append, List.length_singleton] at hih
          exact hih
        · intro j u hu
          rw [Nat.zero_add, r79, r80, r81]
          rcases Nat.lt_or_ge j kept.length with hj | hj
          · rw [List.getElem?_append_left hj] at hu
            rw [if_neg (by omega), if_neg (by omega), if_neg (by omega)]
            have := fk j u hu
            rw [Nat.zero_add] at this; exact this
          · rw [List.getElem?_append_right hj] at hu
            have hj0 : j - kept.length = 0 := by
              rcases Nat.eq_zero_or_pos (j - kept.length) with v | v
              · exact v
              · rw [List.getElem?_eq_none (by simp; omega)] at hu; cases hu
            rw [hj0] at hu
            have hu' : x = u := Option.some.inj hu
            rw [if_pos (by omega), if_pos (by omega), if_pos (by omega), hu']
            exact ⟨rfl, rfl, rfl⟩
        · rcases Nat.eq_zero_or_pos j with rfl | hj
          · have hu' : x = u := Option.some.inj hu
            rw [Nat.add_zero, r79, r80, r81, ← hu']
            by_cases hq : pre.length = kept.length
            · rw [if_pos hq, if_pos hq, if_pos hq]; exact ⟨rfl, rfl, rfl⟩
            · rw [if_neg hq, if_neg hq, if_neg hq]; exact ⟨y1, y2, y3⟩
          · rw [r79, r80, r81, if_neg (by omega), if_neg (by omega), if_neg (by omega)]
            exact fr j u hu
  exact key Es [] [] μ rfl rfl Fr.rf rfl hS hE.1 (by
    have : arD D [] = D := by
      funext f i j
      exact if_neg (fun z => by obtain ⟨x, hx, -⟩ := z.2; cases hx)
    rw [this]; exact hC) (fun j e he => by cases he) hE.yp
end MSA
