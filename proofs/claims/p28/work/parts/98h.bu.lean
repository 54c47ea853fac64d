/-! builders, step by step -/
def OwB2 (κ i c0 c κ' i' : Nat) : Prop := (κ' = κ ∧ i' = i) ∨ Dy c0 c κ' i'
def Bu (μ0 μ : Mu) (κ i c0 cv c : Nat) (X : List Nat) : Prop := (c0 ≤ c ∧ FrS (OwB2 κ i c0 c) μ0 μ ∧ FC μ c ∧ S8 μ) ∧ cv ≤ c ∧ ∃ v n, c0 ≤ v ∧ v < cv ∧ SbV μ κ i v n X
/-- where a string lies that may be put behind -/
def LocS (κb ib κa ia c0 cv c : Nat) : Prop := (κb = 1 ∧ κa = 2) ∨ (κb = 133 ∧ κa = 132 ∧ ib < c ∧ ia < c ∧ (ia < c0 ∨ cv ≤ ia))
def bK (κ i c0 : Nat) : Prop := (100 ≤ κ ∧ κ < 256 ∧ κ ≠ 132 ∧ κ ≠ 133) ∧ (κ < 130 ∨ i ≤ c0)
section BUS
variable {d rc rs : Nat} {Q : Option Value → Mu → Prop} {μ μ' μ0 : Mu} {c c' c0 cv κ i v n m M x : Nat} {X Y : List Nat}
theorem OwB2.lo {κ' i' : Nat} (hκ : 100 ≤ κ) (h : OwB2 κ i c0 c κ' i') : 100 ≤ κ' := by unfold OwB2 Dy at h; omega
theorem Bu.init (hk : bK κ i c) (hn : FreN μ (hd κ i)) (hf : FC μ c) (hS : S8 μ) (hD : 2 ≤ d) (hc : 1 ≤ rc) (hs : 16 ≤ rs) (hQ : ∀ μ', Bu μ μ' κ i c (c + 1) (c + 1) [] → Q none μ') : CalS K_SB_init_da8c8 d rc rs [.ref (hd κ i)] (mkA μ (hd κ i) (1, 12)) Q := by
  have hκ := hk.1
  have f0 : FrS (OwB2 κ i c (c + 1)) μ (mkA μ (hd κ i) (1, 12)) := FrS.rf.mk hκ.2.1 (Or.inl ⟨rfl, rfl⟩)
  have S0 := f0.s8 (fun κ i z => z.lo hκ.1) hS
  have ne : hd 132 c ≠ hd κ i := hd_ne (by decide) hκ.2.1 (fun z => hκ.2.2.1 z.symm)
  refine c_SB_init (c := c) ⟨hκ.1, hκ.2.1, hκ.2.2.1⟩ (if_pos rfl) (by rw [gI_hi (hi_hd hκ.1 hκ.2.1)]; exact if_pos rfl) ⟨(if_neg ne).trans (hf.fr (κ := 132) (by decide) (by decide)).1, hi_hd (by decide) (by decide)⟩ S0 hD hc hs (fun μ1 f1 S1 h1 => hQ μ1 ?_)
  have f2 : FrS (OwB2 κ i c (c + 1)) μ μ1 := f0.trans (f1.mono (fun κ' i' z => by unfold OwV at z; unfold OwB2 Dy at *; omega))
  refine ⟨⟨Nat.le_succ _, f2, hf.nx (Nat.le_succ _) f2 (fun κ' i' z hz => ?_), S1⟩, Nat.le_refl _, c, 16, Nat.le_refl _, Nat.lt_succ_self _, h1⟩
  have := hk.2
  unfold OwB2 Dy at z; omega
theorem Bu.app {κb ib κa ia : Nat} (h : Bu μ0 μ κ i c0 cv c X) (hk : bK κ i c0) (hY : StrR μ κb ib κa ia Y) (hl : LocS κb ib κa ia c0 cv c) (hD : 5 ≤ d) (hM : X.length + Y.length ≤ M ∧ M ≤ 5000) (hc : 1 ≤ rc) (hs : 2 * M + 2 ≤ rs)
    (hQ : ∀ μ', Bu μ0 μ' κ i c0 (c + 1) (c + 1) (X ++ Y) → Q (some (.ref (hd κ i))) μ') : CalS K_SB_append_15ec4 d rc rs [.ref (hd κ i), .ref (hd κb ib)] μ Q := by
  obtain ⟨⟨a1, a2, a3, a4⟩, a5, v, n, a6, a7, a8⟩ := h
  have hκ := hk.1
  refine c9_app (c := c) (M := M) a8 ⟨hκ.1, hκ.2.1, hκ.2.2.1⟩ hY ⟨by unfold LocS at hl; omega, by unfold LocS at hl; omega, by unfold LocS at hl; unfold OwV Dy; omega, by unfold LocS at hl; unfold OwV Dy; omega⟩ a3 (by omega) hD a4 hM hc hs (fun μ1 v1 n1 e1 f1 S1 h1 => hQ μ1 ?_)
  have f2 : FrS (OwB2 κ i c0 (c + 1)) μ0 μ1 := (a2.mono (fun κ' i' z => by unfold OwB2 Dy at *; omega)).trans (f1.mono (fun κ' i' z => by unfold OwV Dy at z; unfold OwB2 Dy; omega))
  refine ⟨⟨by omega, f2, a3.nx (Nat.le_succ _) f1 (fun κ' i' z hz => ?_), S1⟩, Nat.le_refl _, v1, n1, by omega, by omega, h1⟩
  have := hk.2
  unfold OwV Dy at z; omega
theorem Bu.api (h : Bu μ0 μ κ i c0 cv c X) (hk : bK κ i c0) (hx : x < 100) (hD : 5 ≤ d) (hM : X.length + 2 ≤ M ∧ M ≤ 5000) (hc : 1 ≤ rc) (hs : 2 * M + 2 ≤ rs)
    (hQ : ∀ μ', Bu μ0 μ' κ i c0 (c + 1) (c + 1) (X ++ dgN x) → Q (some (.ref (hd κ i))) μ') : CalS K_SB_append_bf812 d rc rs [.ref (hd κ i), .int (nI x)] μ Q := by
  obtain ⟨⟨a1, a2, a3, a4⟩, a5, v, n, a6, a7, a8⟩ := h
  have hκ := hk.1
  refine c9_api (c := c) (M := M) a8 ⟨hκ.1, hκ.2.1, hκ.2.2.1⟩ hx a3 (by omega) hD a4 hM hc hs (fun μ1 v1 n1 e1 f1 S1 h1 => hQ μ1 ?_)
  have f2 : FrS (OwB2 κ i c0 (c + 1)) μ0 μ1 := (a2.mono (fun κ' i' z => by unfold OwB2 Dy at *; omega)).trans (f1.mono (fun κ' i' z => by unfold OwV Dy at z; unfold OwB2 Dy; omega))
  refine ⟨⟨by omega, f2, a3.nx (Nat.le_succ _) f1 (fun κ' i' z hz => ?_), S1⟩, Nat.le_refl _, v1, n1, by omega, by omega, h1⟩
  have := hk.2
  unfold OwV Dy at z; omega
theorem Bu.dy (h : Bu μ0 μ κ i c0 cv c X) (hk : bK κ i c0) (hcc : c ≤ c') (f : FrS (Dy c c') μ μ') (hS : S8 μ') (hi : κ < 130 ∨ i < c) : Bu μ0 μ' κ i c0 cv c' X := by
  obtain ⟨⟨a1, a2, a3, a4⟩, a5, v, n, a6, a7, a8⟩ := h
  have hκ := hk.1
  refine ⟨⟨by omega, (a2.mono (fun κ' i' z => by unfold OwB2 Dy at *; omega)).trans (f.mono (fun κ' i' z => by unfold Dy at z; unfold OwB2 Dy; omega)), a3.nx hcc f (fun κ' i' z _ => z.2.2), hS⟩, by omega, v, n, a6, a7, a8.fr f hκ.2.1 (by unfold Dy; omega) (by unfold Dy; omega)⟩
theorem Bu.str (h : Bu μ0 μ κ i c0 cv c X) (hk : bK κ i c0) (hi : κ < 130 ∨ i < c) (hD : 6 ≤ d) (hM : X.length ≤ 5000) (hc : 2 ≤ rc) (hs : 20004 ≤ rs)
    (hQ : ∀ μ', Bu μ0 μ' κ i c0 cv (c + 1) X → FrS (Dy c (c + 1)) μ μ' → StrR μ' 133 c 132 c X → Q (some (.ref (hd 133 c))) μ') : CalS K_SB_toString_0e30d d rc rs [.ref (hd κ i)] μ Q := by
  have hh := h
  obtain ⟨⟨a1, a2, a3, a4⟩, a5, v, n, a6, a7, a8⟩ := hh
  have hn := a8.2.2.2.2.2.2.1
  exact c9_str (c := c) a8 hk.1 a3 (by omega) hD a4 hM hc (by omega) (fun μ1 f1 S1 h1 => hQ μ1 (h.dy hk (Nat.le_succ _) f1 S1 hi) f1 h1)
theorem Bu.sh (h : Bu μ0 μ κ i c0 cv c X) : mS μ (hd κ i) = (1, 12) := by
  obtain ⟨-, -, v, n, -, -, h⟩ := h; exact h.1
theorem Bu.fr (h : Bu μ0 μ 135 c0 c0 cv c X) (hc : c0 < c) : FrS (Dy c0 c) μ0 μ := h.1.2.1.mono (fun κ' i' z => by unfold OwB2 Dy at *; omega)
theorem bK5 : bK 135 c c := by unfold bK; omega
theorem LocS.lit : LocS 1 i 2 i c0 cv c := Or.inl ⟨rfl, rfl⟩
end BUS
