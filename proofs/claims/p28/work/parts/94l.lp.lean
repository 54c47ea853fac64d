/-! loads, as numbers tell them; what is kept for them -/
def cntA : List Ld → Nat → Nat → Nat
  | [], _, _ => 0
  | e :: l, r, v => cntA l r v + (if e.2.1 = r ∧ e.2.2.1 = v then e.2.2.2.length else 0)
def cntL : List Ld → Nat → Nat
  | [], _ => 0
  | e :: l, r => cntL l r + (if e.2.1 = r then e.2.2.2.length else 0)
def LPd (T : PT) (D : DT) (Λ : List Ld) : Prop := (∀ e ∈ Λ, e.2.1 < T 2 0 ∧ D 0 0 0 ≤ e.2.2.1 ∧ e.2.2.2 ≠ [] ∧ ∀ k ∈ e.2.2.2, k < D 1 0 0 ∧ D 10 e.2.1 k = e.2.2.1 + 1) ∧
  (∀ r k, r < T 2 0 → k < 60 → D 0 0 0 < D 10 r k → ∃ e ∈ Λ, e.2.1 = r ∧ e.2.2.1 + 1 = D 10 r k ∧ k ∈ e.2.2.2) ∧
  (∀ r v, r < T 2 0 → D 0 0 0 ≤ v → cntA Λ r v = sumN (fun k => bN (D 10 r k = v + 1)) (D 1 0 0)) ∧ ∀ r, r < T 2 0 → cntL Λ r = uwN D r
def potF (a b dy v : Nat) : Nat := if v = 0 then a else b * (v - 1 - dy)
def pot (a b : Nat) (T : PT) (D : DT) : Nat := sumN (fun r => sumN (fun k => potF a b (D 0 0 0) (D 10 r k)) 60) (T 2 0)
section LPS
variable {T : PT} {D D' : DT} {Λ Λ' : List Ld} {r : Nat}
theorem cntA_app {v : Nat} : ∀ (l l' : List Ld), cntA (l ++ l') r v = cntA l r v + cntA l' r v
  | [], l' => (Nat.zero_add _).symm
  | e :: l, l' => by
    show cntA (l ++ l') r v + _ = cntA l r v + _ + cntA l' r v
    rw [cntA_app l l']; omega
theorem cntL_app : ∀ (l l' : List Ld), cntL (l ++ l') r = cntL l r + cntL l' r
  | [], l' => (Nat.zero_add _).symm
  | e :: l, l' => by
    show cntL (l ++ l') r + _ = cntL l r + _ + cntL l' r
    rw [cntL_app l l']; omega
theorem LPd.congr (h : LPd T D Λ) (e0 : D' 0 0 0 = D 0 0 0) (e1 : D' 1 0 0 = D 1 0 0) (e10 : ∀ i j, D' 10 i j = D 10 i j) : LPd T D' Λ := by
  unfold LPd uwN at h ⊢
  rw [e0, e1]
  simp only [e10]
  exact h
theorem SD.z (h : SD T D) {r k : Nat} (hr : r < T 2 0) (hk : k < 60) (hS : D 1 0 0 ≤ k) : D 10 r k = 0 := by
  rcases Nat.eq_zero_or_pos (D 10 r k) with z | z
  · exact z
  · exact absurd (h r k hr hk (by omega)) (by omega)
theorem LPd.mk {b n v m h : Nat} (hL : LPd T D Λ) (hI : Inv T D) (h60 : D 1 0 0 < 60) : LPd T (mkD T D b n v m h) Λ := by
  obtain ⟨l1, l2, l3, l4⟩ := hL
  have e0 : mkD T D b n v m h 0 0 0 = D 0 0 0 := mk_f (by decide) (by decide) (by decide) (by decide) (by decide)
  have e10 : ∀ i j, mkD T D b n v m h 10 i j = D 10 i j := fun i j => mk_f (by decide) (by decide) (by decide) (by decide) (by decide)
  refine ⟨fun e he => ?_, fun r k hr hk h => ?_, fun r v hr hv => ?_, fun r hr => ?_⟩
  · obtain ⟨a1, a2, a3, a4⟩ := l1 e he
    refine ⟨a1, by rw [e0]; exact a2, a3, fun k hk => ?_⟩
    rw [mk_1, e10]
    exact ⟨by have := (a4 k hk).1; omega, (a4 k hk).2⟩
  · rw [e0, e10] at h
    obtain ⟨e, he, a1, a2, a3⟩ := l2 r k hr hk h
    exact ⟨e, he, a1, by rw [e10]; exact a2, a3⟩
  · rw [e0] at hv
    have z := hI.2.2.2.z hr h60 (Nat.le_refl _)
    rw [mk_1, sumN, l3 r v hr hv, e10, z, bN_f (by omega)]
    exact sumN_congr _ (fun k _ => by rw [e10])
  · have z := hI.2.2.2.z hr h60 (Nat.le_refl _)
    rw [l4 r hr]
    unfold uwN
    rw [mk_1, sumN, e0, e10, z, bN_f (by omega)]
    exact sumN_congr _ (fun k _ => by rw [e10])
theorem send_10 {k : Nat} {r' : Nat} (hk : k < D 1 0 0) : sendD D r 10 r' k = if r' = r then @ite _ (crC D r k) (Classical.propDecidable _) (D 0 0 0 + D 9 r 0 + 1) (D 10 r' k) else D 10 r' k := by
  have e : sendD D r 10 r' k = carF D r (D 1 0 0) 10 r' k := by
    unfold sendD
    split
    · rw [ud_f (by decide)]
    · rfl
  rw [e]
  by_cases z : r' = r
  · rw [if_pos z, z]
    by_cases y : crC D r k
    · rw [if_pos y, carF_in _ hk y]
    · rw [if_neg y, carF_out _ (fun w => y w.2)]
  · rw [if_neg z, carF_f _ (Or.inr (Or.inl z))]
theorem send_10S {k r' : Nat} (hk : D 1 0 0 ≤ k) : sendD D r 10 r' k = D 10 r' k := by
  have e : sendD D r 10 r' k = carF D r (D 1 0 0) 10 r' k := by
    unfold sendD
    split
    · rw [ud_f (by decide)]
    · rfl
  rw [e, carF_f _ (Or.inr (Or.inr hk))]
theorem LPd.send {c : Nat} (hL : LPd T D Λ) (hI : Inv T D) (hr : r < T 2 0) : LPd T (sendD D r) (sndL D Λ c r) := by
  obtain ⟨l1, l2, l3, l4⟩ := hL
  obtain ⟨r1, r2, r3, r4, r5⟩ := hI.1.2.2.2 r hr
  have hS60 := hI.1.1.2.2.2.2.1
  have e0 : sendD D r 0 0 0 = D 0 0 0 := send_f (by decide) (by decide)
  have e1 : sendD D r 1 0 0 = D 1 0 0 := send_f (by decide) (by decide)
  have hmem : ∀ e, e ∈ sndL D Λ c r → e ∈ Λ ∨ (e = sndE D c r ∧ 0 < carN D r (D 1 0 0)) := fun e he => by
    unfold sndL at he
    split at he
    · rename_i z
      exact (List.mem_append.mp he).elim Or.inl (fun h => Or.inr ⟨List.mem_singleton.mp h, z⟩)
    · exact Or.inl he
  have hin : ∀ e, e ∈ Λ → e ∈ sndL D Λ c r := fun e he => by
    unfold sndL
    split
    · exact List.mem_append_left _ he
    · exact he
  have cA : ∀ r' v, cntA (sndL D Λ c r) r' v = cntA Λ r' v + (if r = r' ∧ D 0 0 0 + D 9 r 0 = v then carN D r (D 1 0 0) else 0) := fun r' v => by
    unfold sndL
    split
    · rw [cntA_app]
      show _ + (0 + (if r = r' ∧ D 0 0 0 + D 9 r 0 = v then (carL D r (D 1 0 0)).length else 0)) = _
      rw [carL_len, Nat.zero_add]
    · rename_i z
      split <;> omega
  have cL : ∀ r', cntL (sndL D Λ c r) r' = cntL Λ r' + (if r = r' then carN D r (D 1 0 0) else 0) := fun r' => by
    unfold sndL
    split
    · rw [cntL_app]
      show _ + (0 + (if r = r' then (carL D r (D 1 0 0)).length else 0)) = _
      rw [carL_len, Nat.zero_add]
    · rename_i z
      split <;> omega
  refine ⟨fun e he => ?_, fun r' k hr' hk h => ?_, fun r' v hr' hv => ?_, fun r' hr' => ?_⟩
  · rw [e0, e1]
    rcases hmem e he with w | ⟨rfl, w⟩
    · obtain ⟨a1, a2, a3, a4⟩ := l1 e w
      refine ⟨a1, a2, a3, fun k hk => ?_⟩
      obtain ⟨b1, b2⟩ := a4 k hk
      refine ⟨b1, ?_⟩
      rw [send_10 b1]
      by_cases z : e.2.1 = r
      · rw [if_pos z, if_neg (fun y => by have := y.1; rw [← z] at this; omega)]; exact b2
      · rw [if_neg z]; exact b2
    · refine ⟨hr, by show D 0 0 0 ≤ D 0 0 0 + D 9 r 0; omega, fun z => ?_, fun k hk => ?_⟩
      · have := carL_len (D := D) (r := r) (D 1 0 0)
        have z' : carL D r (D 1 0 0) = [] := z
        rw [z'] at this
        simp only [List.length_nil] at this
        omega
      · obtain ⟨b1, b2⟩ := (carL_mem (D := D) (r := r) _).mp hk
        refine ⟨b1, ?_⟩
        show sendD D r 10 r k = D 0 0 0 + D 9 r 0 + 1
        rw [send_10 b1, if_pos rfl, if_pos b2]
  · rw [e0] at h
    rcases Nat.lt_or_ge k (D 1 0 0) with y | y
    · rw [send_10 y] at h ⊢
      by_cases z : r' = r
      · rw [if_pos z] at h ⊢
        by_cases w : crC D r k
        · rw [if_pos w]
          have hp : 0 < carN D r (D 1 0 0) := by
            rw [← carL_len]
            exact List.length_pos_of_mem ((carL_mem _).mpr ⟨y, w⟩)
          exact ⟨sndE D c r, by unfold sndL; rw [if_pos hp]; exact List.mem_append_right _ (List.mem_singleton.mpr rfl), z.symm, rfl, (carL_mem _).mpr ⟨y, w⟩⟩
        · rw [if_neg w] at h ⊢
          obtain ⟨e, he, a1, a2, a3⟩ := l2 r' k hr' hk h
          exact ⟨e, hin e he, a1, a2, a3⟩
      · rw [if_neg z] at h ⊢
        obtain ⟨e, he, a1, a2, a3⟩ := l2 r' k hr' hk h
        exact ⟨e, hin e he, a1, a2, a3⟩
    · rw [send_10S y, hI.2.2.2.z hr' hk y] at h
      omega
  · rw [e0] at hv
    rw [e1, cA, l3 r' v hr' hv]
    by_cases z : r = r'
    · subst z
      by_cases y : D 0 0 0 + D 9 r 0 = v
      · rw [if_pos ⟨rfl, y⟩]
        unfold carN
        rw [← sumN_add]
        refine sumN_congr _ (fun k hk => ?_)
        rw [send_10 hk, if_pos rfl]
        by_cases w : crC D r k
        · rw [if_pos w, bN_t w, w.1, bN_f (by omega), bN_t (by omega)]
        · rw [if_neg w, bN_f w, Nat.add_zero]
      · rw [if_neg (fun w => y w.2), Nat.add_zero]
        refine sumN_congr _ (fun k hk => ?_)
        rw [send_10 hk, if_pos rfl]
        by_cases w : crC D r k
        · rw [if_pos w, w.1, bN_f (by omega), bN_f (by omega)]
        · rw [if_neg w]
    · rw [if_neg (fun w => z w.1), Nat.add_zero]
      refine sumN_congr _ (fun k hk => ?_)
      rw [send_10 hk, if_neg (fun w => z w.symm)]
  · rw [cL, l4 r' hr']
    unfold uwN
    rw [e0, e1]
    by_cases z : r = r'
    · subst z
      rw [if_pos rfl]
      unfold carN
      rw [← sumN_add]
      refine sumN_congr _ (fun k hk => ?_)
      rw [send_10 hk, if_pos rfl]
      by_cases w : crC D r k
      · rw [if_pos w, bN_t w, w.1, bN_f (by omega), bN_t (by omega)]
      · rw [if_neg w, bN_f w, Nat.add_zero]
    · rw [if_neg z, Nat.add_zero]
      refine sumN_congr _ (fun k hk => ?_)
      rw [send_10 hk, if_neg (fun w => z w.symm)]
def keepL (dy : Nat) (Λ : List Ld) : List Ld := Λ.filter (fun e => e.2.2.1 != dy)
theorem keep_mem {dy : Nat} {e : Ld} : e ∈ keepL dy Λ ↔ e ∈ Λ ∧ e.2.2.1 ≠ dy := by
  unfold keepL
  rw [List.mem_filter]
  simp
theorem keepA {dy v : Nat} (h : v ≠ dy) : ∀ l : List Ld, cntA (keepL dy l) r v = cntA l r v
  | [] => rfl
  | e :: l => by
    have ih := keepA h l
    unfold keepL at ih ⊢
    rw [List.filter_cons]
    by_cases z : e.2.2.1 = dy
    · rw [if_neg (by simp [z]), ih]
      show _ = cntA l r v + _
      rw [if_neg (fun w => h (by rw [← w.2, z]))]; rfl
    · rw [if_pos (by simp [z])]
      show cntA _ r v + _ = cntA l r v + _
      rw [ih]
theorem keepLL {dy : Nat} : ∀ l : List Ld, cntL (keepL dy l) r + cntA l r dy = cntL l r
  | [] => rfl
  | e :: l => by
    have ih := @keepLL dy l
    unfold keepL at ih ⊢
    rw [List.filter_cons]
    by_cases z : e.2.2.1 = dy
    · rw [if_neg (by simp [z])]
      show cntL _ r + (cntA l r dy + _) = cntL l r + _
      by_cases y : e.2.1 = r
      · rw [if_pos ⟨y, z⟩, if_pos y]; omega
      · rw [if_neg (fun w => y w.1), if_neg y]; omega
    · rw [if_pos (by simp [z])]
      show (cntL _ r + _) + (cntA l r dy + _) = cntL l r + _
      rw [show (if e.2.1 = r ∧ e.2.2.1 = dy then e.2.2.2.length else 0) = 0 from if_neg (fun w => z w.2)]; omega
theorem LPd.day (hL : LPd T D Λ) : LPd T (ud D 0 0 0 (D 0 0 0 + 1)) (keepL (D 0 0 0) Λ) := by
  obtain ⟨l1, l2, l3, l4⟩ := hL
  have e0 : ud D 0 0 0 (D 0 0 0 + 1) 0 0 0 = D 0 0 0 + 1 := ud_self
  have e1 : ud D 0 0 0 (D 0 0 0 + 1) 1 0 0 = D 1 0 0 := ud_f (by decide)
  have e10 : ∀ i j, ud D 0 0 0 (D 0 0 0 + 1) 10 i j = D 10 i j := fun i j => ud_f (by decide)
  refine ⟨fun e he => ?_, fun r k hr hk h => ?_, fun r v hr hv => ?_, fun r hr => ?_⟩
  · obtain ⟨h1, h2⟩ := keep_mem.mp he
    obtain ⟨a1, a2, a3, a4⟩ := l1 e h1
    refine ⟨a1, by rw [e0]; omega, a3, fun k hk => ?_⟩
    rw [e1, e10]; exact a4 k hk
  · rw [e0, e10] at h
    obtain ⟨e, he, a1, a2, a3⟩ := l2 r k hr hk (by omega)
    exact ⟨e, keep_mem.mpr ⟨he, by omega⟩, a1, by rw [e10]; exact a2, a3⟩
  · rw [e0] at hv
    rw [keepA (by omega), l3 r v hr (by omega), e1]
    exact sumN_congr _ (fun k _ => by rw [e10])
  · have h1 := keepLL (r := r) (dy := D 0 0 0) Λ
    have h2 := l3 r (D 0 0 0) hr (Nat.le_refl _)
    have h3 := l4 r hr
    unfold uwN at h3 ⊢
    rw [e0, e1]
    have h4 : sumN (fun s => bN (D 0 0 0 < D 10 r s)) (D 1 0 0) = sumN (fun s => bN (D 0 0 0 + 1 < ud D 0 0 0 (D 0 0 0 + 1) 10 r s)) (D 1 0 0) + sumN (fun k => bN (D 10 r k = D 0 0 0 + 1)) (D 1 0 0) := by
      rw [← sumN_add]
      refine sumN_congr _ (fun k _ => ?_)
      rw [e10]
      by_cases z : D 10 r k = D 0 0 0 + 1
      · rw [bN_t z, bN_t (by omega), bN_f (by omega)]
      · rw [bN_f z, Nat.add_zero]
        exact bN_congr (by omega)
    omega
theorem len_cnt (R : Nat) : ∀ l : List Ld, (∀ e ∈ l, e.2.1 < R ∧ e.2.2.2 ≠ []) → l.length ≤ sumN (fun r => cntL l r) R
  | [], _ => Nat.zero_le _
  | e :: l, h => by
    have ih := len_cnt R l (fun x hx => h x (List.mem_cons_of_mem _ hx))
    obtain ⟨h1, h2⟩ := h e List.mem_cons_self
    have e1 : sumN (fun r => cntL (e :: l) r) R = sumN (fun r => cntL l r) R + sumN (fun r => if e.2.1 = r then e.2.2.2.length else 0) R := by
      rw [← sumN_add]; exact sumN_congr _ (fun k _ => rfl)
    rw [e1, sumN_one R h1, List.length_cons]
    have := List.length_pos_iff.mpr h2
    omega
theorem LPd.lenU (hL : LPd T D Λ) : Λ.length ≤ uwAll T D := by
  have h := len_cnt (T 2 0) Λ (fun e he => ⟨(hL.1 e he).1, (hL.1 e he).2.2.1⟩)
  have e : sumN (fun r => cntL Λ r) (T 2 0) = uwAll T D := sumN_congr _ (fun r hr => hL.2.2.2 r hr)
  rw [e] at h
  exact h
theorem LPd.len (hL : LPd T D Λ) (hB : DB T D) : Λ.length ≤ uwAll T D ∧ Λ.length ≤ 480 := by
  have h := len_cnt (T 2 0) Λ (fun e he => ⟨(hL.1 e he).1, (hL.1 e he).2.2.1⟩)
  have e : sumN (fun r => cntL Λ r) (T 2 0) = uwAll T D := sumN_congr _ (fun r hr => hL.2.2.2 r hr)
  have h1 : ∀ r, r < T 2 0 → uwN D r ≤ 60 := fun r _ => by
    have : uwN D r ≤ D 1 0 0 * 1 := sumN_le _ (fun _ _ => bN_le)
    have := hB.1.2.2.2.2.1
    omega
  have h2 : uwAll T D ≤ T 2 0 * 60 := sumN_le _ h1
  have h3 := hB.1.2.2.1
  have h4 : T 2 0 * 60 ≤ 8 * 60 := Nat.mul_le_mul_right _ h3
  rw [e] at h
  exact ⟨h, by omega⟩
theorem sumN_leq {f g : Nat → Nat} : ∀ n, (∀ k, k < n → f k ≤ g k) → sumN f n ≤ sumN g n
  | 0, _ => Nat.le_refl _
  | n + 1, h => by
    have := sumN_leq n (fun k hk => h k (by omega))
    have := h n (by omega)
    show sumN f n + f n ≤ sumN g n + g n
    omega
theorem pot_congr {a b : Nat} (e0 : D' 0 0 0 = D 0 0 0) (e10 : ∀ i j, D' 10 i j = D 10 i j) : pot a b T D' = pot a b T D := by
  unfold pot
  rw [e0]
  exact sumN_congr _ (fun r _ => sumN_congr _ (fun k _ => by rw [e10]))
/-- sending is paid for -/
theorem pot_send {a b x : Nat} (hI : Inv T D) (hr : r < T 2 0) (hab : b * 9 + x ≤ a) : pot a b T (sendD D r) + x * carN D r (D 1 0 0) ≤ pot a b T D := by
  obtain ⟨r1, r2, r3, r4, r5⟩ := hI.1.2.2.2 r hr
  have hS60 := hI.1.1.2.2.2.2.1
  have e0 : sendD D r 0 0 0 = D 0 0 0 := send_f (by decide) (by decide)
  unfold pot
  rw [e0]
  have h1 : x * carN D r (D 1 0 0) = sumN (fun r' => if r = r' then x * carN D r (D 1 0 0) else 0) (T 2 0) := (sumN_one _ hr).symm
  rw [h1, ← sumN_add]
  refine sumN_leq _ (fun r' hr' => ?_)
  by_cases z : r = r'
  · subst z
    rw [if_pos rfl]
    have h2 : x * carN D r (D 1 0 0) = sumN (fun k => x * bN (k < D 1 0 0 ∧ crC D r k)) 60 := by
      have h3 : ∀ n, x * sumN (fun s => bN (crC D r s)) n = sumN (fun s => x * bN (crC D r s)) n := fun n => by
        induction n with
        | zero => rfl
        | succ n ih => rw [sumN, sumN, Nat.mul_add, ih]
      unfold carN
      rw [h3, sumN_ext (f := fun k => x * bN (k < D 1 0 0 ∧ crC D r k)) hS60 (fun k hk _ => by rw [bN_f (by omega)]; rfl)]
      exact sumN_congr _ (fun k hk => by rw [bN_congr (show crC D r k ↔ k < D 1 0 0 ∧ crC D r k from ⟨fun z => ⟨hk, z⟩, fun z => z.2⟩)])
    rw [h2, ← sumN_add]
    refine sumN_leq _ (fun k hk => ?_)
    rcases Nat.lt_or_ge k (D 1 0 0) with y | y
    · rw [send_10 y, if_pos rfl]
      by_cases w : crC D r k
      · rw [if_pos w, bN_t ⟨y, w⟩, w.1]
        unfold potF
        rw [if_neg (by omega), if_pos rfl, Nat.mul_one]
        have : b * (D 0 0 0 + D 9 r 0 + 1 - 1 - D 0 0 0) ≤ b * 9 := Nat.mul_le_mul_left _ (by omega)
        omega
      · rw [if_neg w, bN_f (fun v => w v.2), Nat.mul_zero]; exact Nat.le_refl _
    · rw [send_10S y, bN_f (by omega), Nat.mul_zero]; exact Nat.le_refl _
  · rw [if_neg z, Nat.add_zero]
    refine sumN_leq _ (fun k hk => ?_)
    rcases Nat.lt_or_ge k (D 1 0 0) with y | y
    · rw [send_10 y, if_neg (fun w => z w.symm)]; exact Nat.le_refl _
    · rw [send_10S y]; exact Nat.le_refl _
/-- a day is paid for -/
theorem pot_day {a b : Nat} (hI : Inv T D) : pot a b T (ud D 0 0 0 (D 0 0 0 + 1)) + b * uwAll T (ud D 0 0 0 (D 0 0 0 + 1)) ≤ pot a b T D := by
  have hS60 := hI.1.1.2.2.2.2.1
  have e0 : ud D 0 0 0 (D 0 0 0 + 1) 0 0 0 = D 0 0 0 + 1 := ud_self
  have e1 : ud D 0 0 0 (D 0 0 0 + 1) 1 0 0 = D 1 0 0 := ud_f (by decide)
  have e10 : ∀ i j, ud D 0 0 0 (D 0 0 0 + 1) 10 i j = D 10 i j := fun i j => ud_f (by decide)
  have hm : ∀ (f : Nat → Nat) n, b * sumN f n = sumN (fun s => b * f s) n := fun f n => by
    induction n with
    | zero => rfl
    | succ n ih => rw [sumN, sumN, Nat.mul_add, ih]
  unfold pot uwAll
  rw [hm, ← sumN_add]
  refine sumN_leq _ (fun r hr => ?_)
  unfold uwN
  rw [e1, hm, e0]
  have h2 : sumN (fun s => b * bN (D 0 0 0 + 1 < ud D 0 0 0 (D 0 0 0 + 1) 10 r s)) (D 1 0 0) = sumN (fun s => b * bN (D 0 0 0 + 1 < ud D 0 0 0 (D 0 0 0 + 1) 10 r s)) 60 := by
    refine (sumN_ext hS60 (fun k hk hk6 => ?_)).symm
    rw [e10, hI.2.2.2.z hr hk6 hk, bN_f (by omega)]; rfl
  rw [h2, ← sumN_add]
  refine sumN_leq _ (fun k hk => ?_)
  rw [e10]
  unfold potF
  by_cases z : D 10 r k = 0
  · rw [if_pos z, if_pos z, z, bN_f (by omega)]; exact Nat.le_refl _
  · rw [if_neg z, if_neg z]
    by_cases y : D 0 0 0 + 1 < D 10 r k
    · rw [bN_t y, ← Nat.mul_add]
      exact Nat.mul_le_mul_left _ (by omega)
    · rw [bN_f y, Nat.mul_zero]
      exact Nat.mul_le_mul_left _ (by omega)
end LPS
