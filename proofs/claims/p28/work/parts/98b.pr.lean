/-! lines, as they are read -/
section PRS
variable {K : Nat → Nat} {p p1 p2 p3 k e f c1 c2 : Nat} {l l1 l2 l3 : RO} {F : Nat → Rs}
theorem sq_y {r : Rs} (h : r = (p, some l)) (h2 : F p = (p1, some l1)) : sq r F = (p1, some (l ++ l1)) := by
  rw [h]; show (match F p with | (p', none) => (p', none) | (p', some l') => (p', some (l ++ l'))) = _
  rw [h2]
theorem tk_y (h : K p = k) : gTk K k p = (p + 1, some []) := if_pos h
theorem lp_e (h : K p ≠ c1 ∧ K p ≠ c2) : lpF K F c1 c2 f p = (p, some []) := by
  cases f with
  | zero => rfl
  | succ f => exact if_neg (fun z => z.elim h.1 h.2)
theorem lp_s (h : K p = k) (hk : k = c1 ∨ k = c2) (hF : F (p + 1) = (p1, some l1)) (hl : lpF K F c1 c2 f p1 = (p2, some l2)) : lpF K F c1 c2 (f + 1) p = (p2, some ((l1 ++ [(k, 0)]) ++ l2)) := by
  subst h
  show (if K p = c1 ∨ K p = c2 then sq (sq (sq (gTk K (K p) p) F) (gAd (K p) 0)) (lpF K F c1 c2 f) else (p, some [])) = _
  rw [if_pos hk]
  exact sq_y (sq_y (sq_y (tk_y rfl) hF) rfl) hl
theorem vl_n {b : Bool} {dv ds : Nat → Rs} (h : K p = k) (hk : k = 45 ∨ k = 17) : valF K b dv ds p = (p + 1, some [(k, p + 1)]) := by
  subst h
  unfold valF
  rw [if_pos hk]
  exact sq_y (l := [(K p, p + 1)]) rfl (tk_y rfl)
theorem val_n (h : K p = k) (hk : k = 45 ∨ k = 17) : gVal K e p = (p + 1, some [(k, p + 1)]) := by
  cases e <;> exact vl_n h hk
theorem bd_y (h : K p = k) (hk : k ≠ 21) (h1 : K (p + 1) = 44) (h2 : K (p + 2) = 44) : bdF K k p = (p + 3, some [(k, p + 1)]) := by
  unfold bdF
  exact sq_y (sq_y (sq_y (l := [(k, p + 1)]) rfl (tk_y h)) (tk_y h1)) ((if_neg hk).trans (tk_y h2))
theorem vl_b {b : Bool} {dv ds : Nat → Rs} (h : K p = k) (hk : 18 ≤ k ∧ k ≤ 20) (h1 : K (p + 1) = 44) (h2 : K (p + 2) = 44) : valF K b dv ds p = (p + 3, some [(k, p + 1)]) := by
  subst h
  unfold valF
  rw [if_neg (by omega), if_pos (by omega)]
  exact bd_y rfl (by omega) h1 h2
theorem val_b (h : K p = k) (hk : 18 ≤ k ∧ k ≤ 20) (h1 : K (p + 1) = 44) (h2 : K (p + 2) = 44) : gVal K e p = (p + 3, some [(k, p + 1)]) := by
  cases e <;> exact vl_b h hk h1 h2
theorem vl_w {b : Bool} {dv ds : Nat → Rs} (h : K p = 21) (h1 : K (p + 1) = 44) : valF K b dv ds p = (p + 2, some [(21, p + 1)]) := by
  unfold valF
  rw [if_neg (by omega), if_pos (by omega), h]
  unfold bdF
  exact sq_y (sq_y (sq_y (l := [(21, p + 1)]) rfl (tk_y h)) (tk_y h1)) (if_pos rfl)
theorem val_w (h : K p = 21) (h1 : K (p + 1) = 44) : gVal K e p = (p + 2, some [(21, p + 1)]) := by
  cases e <;> exact vl_w h h1
theorem pro_l {v : Nat → Rs} (h : v p = (p1, some l1)) (hl : lpF K v 37 38 400 p1 = (p2, some l2)) : proF K v p = (p2, some (l1 ++ l2)) := sq_y h hl
theorem pro_1 {v : Nat → Rs} (h : v p = (p1, some l1)) (hk : K p1 ≠ 37 ∧ K p1 ≠ 38) : proF K v p = (p1, some l1) := by
  have := pro_l h (lp_e hk)
  rw [List.append_nil] at this; exact this
theorem sum_l {v : Nat → Rs} (h : proF K v p = (p1, some l1)) (hl : lpF K (proF K v) 35 36 400 p1 = (p2, some l2)) : sumF K v p = (p2, some (l1 ++ l2)) := sq_y h hl
theorem sum_1 {v : Nat → Rs} (h : v p = (p1, some l1)) (hk : ¬ (35 ≤ K p1 ∧ K p1 ≤ 38)) : sumF K v p = (p1, some l1) := by
  have k1 : K p1 ≠ 37 ∧ K p1 ≠ 38 := by omega
  have k2 : K p1 ≠ 35 ∧ K p1 ≠ 36 := by omega
  have := sum_l (pro_1 h k1) (lp_e (f := 400) k2)
  rw [List.append_nil] at this; exact this
theorem sng_c (h0 : K p ≠ 24 ∧ K p ≠ 31 ∧ K p ≠ 22 ∧ K p ≠ 23) (h : gSum K e p = (p1, some l1)) (hk : K p1 = k) (hk2 : 39 ≤ k ∧ k ≤ 43) (h2 : gSum K e (p1 + 1) = (p2, some l2)) : gSng K e p = (p2, some (l1 ++ (l2 ++ [(k, 0)]))) := by
  subst hk
  have go : ∀ (b : Bool) (dn dt : Nat → Rs), sngF K b dn dt (gSum K e) p = (p2, some (l1 ++ (l2 ++ [(K p1, 0)]))) := fun b dn dt => by
    unfold sngF
    rw [if_neg h0.1, if_neg h0.2.1, if_neg (fun z => z.elim h0.2.2.1 h0.2.2.2)]
    refine sq_y h ?_
    unfold cpF
    refine sq_y (l := l2) ?_ rfl
    have hc : cmF K p1 = (p1 + 1, some []) := by
      unfold cmF
      rw [if_pos hk2]; exact tk_y rfl
    exact sq_y (l := []) hc h2
  cases e <;> exact go _ _ _
theorem sng_b (h : K p = k) (hk : k = 22 ∨ k = 23) (h1 : K (p + 1) = 44) (h2 : K (p + 2) = 44) : gSng K e p = (p + 3, some [(k, p + 1)]) := by
  subst h
  have go : ∀ (b : Bool) (dn dt s : Nat → Rs), sngF K b dn dt s p = (p + 3, some [(K p, p + 1)]) := fun b dn dt s => by
    unfold sngF
    rw [if_neg (by omega), if_neg (by omega), if_pos hk]
    exact bd_y rfl (by omega) h1 h2
  cases e <;> exact go _ _ _ _
theorem sng_n (h : K p = 24) (h1 : gSng K e (p + 1) = (p1, some l1)) : gSng K (e + 1) p = (p1, some (l1 ++ [(24, 0)])) := by
  show sngF K true (gSng K e) (tesF K (gSng K e)) (sumF K (gVal K (e + 1))) p = _
  unfold sngF
  rw [if_pos h]
  exact sq_y (l := l1) (sq_y (l := []) ((if_pos rfl).trans (tk_y h)) h1) rfl
theorem bot_l {s : Nat → Rs} (h : s p = (p1, some l1)) (hl : lpF K s 25 25 400 p1 = (p2, some l2)) : botF K s p = (p2, some (l1 ++ l2)) := sq_y h hl
theorem bot_1 {s : Nat → Rs} (h : s p = (p1, some l1)) (hk : K p1 ≠ 25) : botF K s p = (p1, some l1) := by
  have := bot_l h (lp_e ⟨hk, hk⟩)
  rw [List.append_nil] at this; exact this
theorem tes_l {s : Nat → Rs} (h : botF K s p = (p1, some l1)) (hl : lpF K (botF K s) 26 26 400 p1 = (p2, some l2)) : tesF K s p = (p2, some (l1 ++ l2)) := sq_y h hl
theorem tes_1 {s : Nat → Rs} (h : botF K s p = (p1, some l1)) (hk : K p1 ≠ 26) : tesF K s p = (p1, some l1) := by
  have := tes_l h (lp_e ⟨hk, hk⟩)
  rw [List.append_nil] at this; exact this
theorem oh_9 (h : K p = 9) (h1 : K (p + 1) = 44) : ohF K 9 p = (p + 2, some []) := sq_y (sq_y (tk_y h) (tk_y h1)) (if_pos rfl)
theorem oh_8 (h : K p = 8) (h1 : K (p + 1) = 44) (h2 : K (p + 2) = 44) (h3 : K (p + 3) = 12) (h4 : 13 ≤ K (p + 4) ∧ K (p + 4) ≤ 15) : ohF K 8 p = (p + 5, some []) := by
  refine sq_y (l1 := []) (sq_y (tk_y h) (tk_y h1)) ?_
  refine sq_y (l1 := []) (tk_y h2) ?_
  refine sq_y (l1 := []) (tk_y h3) ?_
  unfold wyF
  rw [if_pos h4]; exact tk_y rfl
theorem oh_67 (hk : (k = 6 ∧ K (p + 3) = 10) ∨ (k = 7 ∧ K (p + 3) = 11)) (h : K p = k) (h1 : K (p + 1) = 44) (h2 : K (p + 2) = 44) (hs : gSum K 8 (p + 4) = (p1, some l)) : ohF K k p = (p1, some l) := by
  unfold ohF
  refine sq_y (l := []) (sq_y (tk_y h) (tk_y h1)) ?_
  show (if k = 9 then _ else _) = _
  rw [if_neg (by omega)]
  refine sq_y (l := []) (tk_y h2) ?_
  show (if k = 6 then _ else if k = 7 then _ else _) = _
  rcases hk with ⟨rfl, h3⟩ | ⟨rfl, h3⟩
  · exact sq_y (l := []) (tk_y h3) hs
  · exact sq_y (l := []) (tk_y h3) hs
theorem ot_y (h : K p = 16) (hs : gTes K 8 (p + 1) = (p1, some l)) : otF K k p = (p1, some l) := by
  unfold otF
  rw [if_pos (Or.inr (Or.inr h))]
  exact sq_y (l := []) (tk_y h) hs
theorem ot_n (hk : 8 ≤ k) (h : K p ≠ 16) : otF K k p = (p, some []) := by
  unfold otF
  rw [if_neg (by omega)]
theorem ln_o (h : K p = k) (hk : 6 ≤ k ∧ k ≤ 9) (h1 : ohF K k p = (p1, some l1)) (h2 : otF K k p1 = (p2, some l2)) : lnF K p = (p2, some [(p, l1, l2)]) := by
  subst h
  unfold lnF
  rw [if_neg (by omega), if_neg (by omega), if_pos hk, h1]
  show (match otF K (K p) p1 with | (p2, none) => (p2, none) | (p2, some l2) => (p2, some [(p, l1, l2)])) = _
  rw [h2]
theorem ln_g (h : K p = 0 ∨ K p = 5) (h1 : K (p + 1) = 44) : lnF K p = (p + 2, some []) := by
  have e : ngF K p = (p + 2, some []) := sq_y (l := []) (tk_y rfl) (tk_y h1)
  unfold lnF
  rw [if_pos h, e]; rfl
theorem ln_r (h : K p = 1) (h1 : K (p + 1) = 44) (h2 : K (p + 2) = 2) (h3 : K (p + 3) = 44) (h4 : K (p + 4) = 3) (h5 : K (p + 5) = 44) (h6 : K (p + 6) = 4) (h7 : K (p + 7) = 45) : lnF K p = (p + 8, some []) := by
  have e : rdF K p = (p + 8, some []) := sq_y (l := []) (sq_y (l := []) (sq_y (l := []) (sq_y (l := []) (sq_y (l := []) (sq_y (l := []) (sq_y (l := []) (tk_y h) (tk_y h1)) (tk_y h2)) (tk_y h3)) (tk_y h4)) (tk_y h5)) (tk_y h6)) (tk_y h7)
  unfold lnF
  rw [if_neg (by omega), if_pos h, e]; rfl
/-- lines from p to p1 -/
def PLs (K : Nat → Nat) (m p p1 : Nat) (os : List Ord3) : Prop := ∀ f, plF K (f + m) p = ((plF K f p1).1, (plF K f p1).2.map (fun os' => os ++ os'))
theorem PLs.nil : PLs K 0 p p [] := fun f => by
  rw [Nat.add_zero]
  cases e : plF K f p with
  | mk a o => cases o <;> rfl
theorem PLs.one {os : List Ord3} (h : K p ≠ 46) (hl : lnF K p = (p1, some os)) (h33 : K p1 = 33) : PLs K 1 p (p1 + 1) os := fun f => by
  show (if K p = 46 then (p, some []) else match lnF K p with | (p1, none) => (p1, none) | (p1, some os) => if K p1 = 33 then (match plF K f (p1 + 1) with | (p2, none) => (p2, none) | (p2, some os') => (p2, some (os ++ os'))) else (p1, none)) = _
  rw [if_neg h, hl]
  show (if K p1 = 33 then (match plF K f (p1 + 1) with | (p2, none) => (p2, none) | (p2, some os') => (p2, some (os ++ os'))) else (p1, none)) = _
  rw [if_pos h33]
  cases e : plF K f (p1 + 1) with
  | mk a o => cases o <;> rfl
theorem PLs.trans {m m' : Nat} {os os' : List Ord3} (h : PLs K m p p1 os) (h' : PLs K m' p1 p2 os') : PLs K (m' + m) p p2 (os ++ os') := fun f => by
  rw [← Nat.add_assoc, h, h']
  cases e : plF K f p2 with
  | mk a o =>
    cases o with
    | none => rfl
    | some x => show (a, some (os ++ (os' ++ x))) = (a, some ((os ++ os') ++ x)); rw [List.append_assoc]
theorem PLs.fin {m : Nat} {os : List Ord3} (h : PLs K m p p1 os) (hm : m ≤ f) (h46 : K p1 = 46) : plF K f p = (p1, some os) := by
  have e : plF K (f - m) p1 = (p1, some []) := by
    cases f - m with
    | zero => show (p1, if K p1 = 46 then some [] else none) = _; rw [if_pos h46]
    | succ n => exact if_pos h46
  have := h (f - m)
  rw [show f - m + m = f by omega, e] at this
  rw [this]; show (p1, some (os ++ [])) = _; rw [List.append_nil]
end PRS
/-! orders, as rows of tokens -/
def sumT (w : Nat → Nat) (s : Nat) : List TkE := if w 3 = 0 then [(45, w 4, s)] else if w 3 = 1 then [(17, 0, 0), (37, 0, 0), (45, 7, 0), (36, 0, 0), (45, w 4, s)] else [(45, w 4, 0), (37, 0, 0), (45, 3, 0), (37, 0, 0), (19, 0, 1), (44, w 1, 1), (44, 10 + w 2, 0), (36, 0, 0), (17, 0, s)]
def hdT (w : Nat → Nat) (s : Nat) : List TkE := if w 0 = 3 then [(9, 0, 1), (44, 20 + w 1, s)] else if w 0 = 2 then [(8, 0, 1), (44, w 1, 1), (44, 10 + w 2, 1), (12, 0, 1), (13 + w 4, 0, s)] else [(6 + w 0, 0, 1), (44, w 1, 1), (44, 10 + w 2, 1), (10 + w 0, 0, 1)] ++ sumT w s
def tsT (w : Nat → Nat) : List TkE := if w 5 = 0 then [] else (16, 0, 1) :: (if w 5 = 1 then [(22, 0, 1), (44, w 6, 1), (44, 10 + w 7, 0)] else if w 5 = 2 then [(24, 0, 1), (23, 0, 1), (44, w 6, 1), (44, 10 + w 7, 1), (26, 0, 1), (17, 0, 0), (36, 0, 0), (17, 0, 0), (38, 0, 0), (45, 5, 0), (37, 0, 0), (45, 5, 0), (41, 0, 0), (45, 0, 0)] else if w 5 = 3 then [(17, 0, 0), (36, 0, 0), (17, 0, 0), (38, 0, 0), (45, w 6, 0), (37, 0, 0), (45, w 6, 0), (41, 0, 0), (45, w 7, 0)] else if w 5 = 4 then [(21, 0, 1), (44, w 6, 0), (40, 0, 0), (45, w 7, 1), (26, 0, 1), (19, 0, 1), (44, w 6, 1), (44, 10, 0), (43, 0, 0), (45, 2, 0)] else [(20, 0, 1), (44, w 6, 1), (44, 10 + w 7, 0), (39, 0, 0), (45, 3, 1), (25, 0, 1), (24, 0, 1), (22, 0, 1), (44, w 6, 1), (44, 10 + w 7, 0)])
def spT (w : Nat → Nat) : Nat := if w 5 = 0 then 0 else 1
def orT (w : Nat → Nat) : List TkE := hdT w (spT w) ++ (tsT w ++ [(33, 0, 2)])
def sumO (w : Nat → Nat) (q : Nat) : RO := if w 3 = 0 then [(45, q + 1)] else if w 3 = 1 then [(17, q + 1), (45, q + 3), (37, 0), (45, q + 5), (36, 0)] else [(45, q + 1), (45, q + 3), (37, 0), (19, q + 5), (37, 0), (17, q + 9), (36, 0)]
def hdO (w : Nat → Nat) (p : Nat) : RO := if w 0 ≤ 1 then sumO w (p + 4) else []
def tsO (w : Nat → Nat) (q : Nat) : RO := if w 5 = 0 then [] else if w 5 = 1 then [(22, q + 1)] else if w 5 = 2 then [(23, q + 2), (24, 0), (17, q + 6), (17, q + 8), (45, q + 10), (38, 0), (45, q + 12), (37, 0), (36, 0), (45, q + 14), (41, 0), (26, 0)] else if w 5 = 3 then [(17, q + 1), (17, q + 3), (45, q + 5), (38, 0), (45, q + 7), (37, 0), (36, 0), (45, q + 9), (41, 0)] else if w 5 = 4 then [(21, q + 1), (45, q + 4), (40, 0), (19, q + 6), (45, q + 10), (43, 0), (26, 0)] else [(20, q + 1), (45, q + 5), (39, 0), (22, q + 8), (24, 0), (25, 0)]
/-- the kinds from p on are those of the row l -/
def KAt (K : Nat → Nat) (p : Nat) (l : List TkE) : Prop := ∀ i x, l[i]? = some x → K (p + i) = x.1
theorem KAt.l {K : Nat → Nat} {p : Nat} {l l' : List TkE} (h : KAt K p (l ++ l')) : KAt K p l := fun i x hx => h i x (by
  have hi : i < l.length := by
    rcases Nat.lt_or_ge i l.length with z | z
    · exact z
    · rw [List.getElem?_eq_none z] at hx; cases hx
  rw [List.getElem?_append_left hi]; exact hx)
theorem KAt.r {K : Nat → Nat} {p : Nat} {l l' : List TkE} (h : KAt K p (l ++ l')) : KAt K (p + l.length) l' := fun i x hx => by
  rw [Nat.add_assoc]
  exact h _ x (by rw [List.getElem?_append_right (by omega), show l.length + i - l.length = i by omega]; exact hx)
section ORD
variable {K : Nat → Nat} {p q k s : Nat} {w : Nat → Nat}
/-- day - day / a * a -/
theorem sum_day (h0 : K q = 17) (h1 : K (q + 1) = 36) (h2 : K (q + 2) = 17) (h3 : K (q + 3) = 38) (h4 : K (q + 4) = 45) (h5 : K (q + 5) = 37) (h6 : K (q + 6) = 45) (h7 : ¬ (35 ≤ K (q + 7) ∧ K (q + 7) ≤ 38)) : gSum K 8 q = (q + 7, some [(17, q + 1), (17, q + 3), (45, q + 5), (38, 0), (45, q + 7), (37, 0), (36, 0)]) := by
  have k1 : K (q + 7) ≠ 37 ∧ K (q + 7) ≠ 38 := by omega
  have k2 : K (q + 7) ≠ 35 ∧ K (q + 7) ≠ 36 := by omega
  exact sum_l (pro_1 (val_n h0 (Or.inr rfl)) (by rw [h1]; decide)) (lp_s h1 (Or.inr rfl) (pro_l (val_n h2 (Or.inr rfl)) (lp_s h3 (Or.inr rfl) (val_n h4 (Or.inl rfl)) (lp_s h5 (Or.inl rfl) (val_n h6 (Or.inl rfl)) (lp_e (f := 398) k1)))) (lp_e (f := 399) k2))
theorem sum_y (h3 : w 3 ≤ 2) (hK : KAt K q (sumT w s)) (he : ¬ (35 ≤ K (q + (sumT w s).length) ∧ K (q + (sumT w s).length) ≤ 38)) : gSum K 8 q = (q + (sumT w s).length, some (sumO w q)) := by
  unfold sumT sumO at *
  rcases (by omega : w 3 = 0 ∨ w 3 = 1 ∨ w 3 = 2) with z | z | z <;> rw [z] at hK he ⊢
  · exact sum_1 (val_n (hK 0 _ rfl) (Or.inl rfl)) he
  · exact sum_l (pro_l (val_n (hK 0 _ rfl) (Or.inr rfl)) (lp_s (hK 1 _ rfl) (Or.inl rfl) (val_n (hK 2 _ rfl) (Or.inl rfl)) (lp_e (f := 399) (by rw [show K (q + 3) = 36 from hK 3 _ rfl]; decide)))) (lp_s (hK 3 _ rfl) (Or.inr rfl) (pro_1 (val_n (hK 4 _ rfl) (Or.inl rfl)) (by have : ¬ (35 ≤ K (q + 5) ∧ K (q + 5) ≤ 38) := he; show K (q + 5) ≠ 37 ∧ K (q + 5) ≠ 38; omega)) (lp_e (f := 399) (by have : ¬ (35 ≤ K (q + 5) ∧ K (q + 5) ≤ 38) := he; show K (q + 5) ≠ 35 ∧ K (q + 5) ≠ 36; omega)))
  · exact sum_l (pro_l (val_n (hK 0 _ rfl) (Or.inl rfl)) (lp_s (hK 1 _ rfl) (Or.inl rfl) (val_n (hK 2 _ rfl) (Or.inl rfl)) (lp_s (hK 3 _ rfl) (Or.inl rfl) (val_b (hK 4 _ rfl) (by decide) (hK 5 _ rfl) (hK 6 _ rfl)) (lp_e (f := 398) (by rw [show K (q + 7) = 36 from hK 7 _ rfl]; decide))))) (lp_s (hK 7 _ rfl) (Or.inr rfl) (pro_1 (val_n (hK 8 _ rfl) (Or.inr rfl)) (by have : ¬ (35 ≤ K (q + 9) ∧ K (q + 9) ≤ 38) := he; show K (q + 9) ≠ 37 ∧ K (q + 9) ≠ 38; omega)) (lp_e (f := 399) (by have : ¬ (35 ≤ K (q + 9) ∧ K (q + 9) ≤ 38) := he; show K (q + 9) ≠ 35 ∧ K (q + 9) ≠ 36; omega)))
theorem hd_y (h0 : w 0 ≤ 3) (h3 : w 3 ≤ 2) (h4 : w 0 = 2 → w 4 < 3) (hK : KAt K p (hdT w s)) (he : ¬ (35 ≤ K (p + (hdT w s).length) ∧ K (p + (hdT w s).length) ≤ 38)) : ohF K (6 + w 0) p = (p + (hdT w s).length, some (hdO w p)) := by
  unfold hdT hdO at *
  by_cases e3 : w 0 = 3
  · rw [if_pos e3] at hK he ⊢
    rw [e3, if_neg (by decide)]
    exact oh_9 (hK 0 _ rfl) (hK 1 _ rfl)
  · rw [if_neg e3] at hK he ⊢
    by_cases e2 : w 0 = 2
    · rw [if_pos e2] at hK he ⊢
      rw [e2, if_neg (by decide)]
      have h5 := h4 e2
      have k4 : K (p + 4) = 13 + w 4 := hK 4 _ rfl
      exact oh_8 (hK 0 _ rfl) (hK 1 _ rfl) (hK 2 _ rfl) (hK 3 _ rfl) (by omega)
    · rw [if_neg e2] at hK he ⊢
      rw [if_pos (by omega)]
      have kl := hK.l
      have kr := hK.r
      have hs := sum_y h3 kr (by rw [List.length_append] at he; rw [Nat.add_assoc]; exact he)
      have k3 : K (p + 3) = 10 + w 0 := kl 3 _ rfl
      rw [List.length_append, ← Nat.add_assoc]
      exact oh_67 (by omega) (kl 0 _ rfl) (kl 1 _ rfl) (kl 2 _ rfl) hs
theorem ts_y (h5 : w 5 ≤ 5) (hz : w 0 ≤ 1 → w 5 ≠ 0) (hk : k = 6 + w 0) (hK : KAt K p (tsT w)) (he : K (p + (tsT w).length) = 33) : otF K k p = (p + (tsT w).length, some (tsO w (p + 1))) := by
  unfold tsT tsO at *
  rcases (by omega : w 5 = 0 ∨ w 5 = 1 ∨ w 5 = 2 ∨ w 5 = 3 ∨ w 5 = 4 ∨ w 5 = 5) with z | z | z | z | z | z <;> rw [z] at hK he ⊢
  · have he' : K p = 33 := he
    exact ot_n (by have := fun y => hz y z; omega) (by omega)
  · have he' : K (p + 4) = 33 := he
    exact ot_y (hK 0 _ rfl) (tes_1 (bot_1 (sng_b (hK 1 _ rfl) (Or.inl rfl) (hK 2 _ rfl) (hK 3 _ rfl)) (by show K (p + 4) ≠ 25; omega)) (by show K (p + 4) ≠ 26; omega))
  · have he' : K (p + 15) = 33 := he
    have k5 : K (p + 5) = 26 := hK 5 _ rfl
    have k13 : K (p + 13) = 41 := hK 13 _ rfl
    exact ot_y (hK 0 _ rfl) (tes_l (bot_1 (sng_n (hK 1 _ rfl) (sng_b (hK 2 _ rfl) (Or.inr rfl) (hK 3 _ rfl) (hK 4 _ rfl))) (by show K (p + 5) ≠ 25; omega)) (lp_s k5 (Or.inl rfl) (bot_1 (sng_c (by have : K (p + 6) = 17 := hK 6 _ rfl; show K (p + 6) ≠ 24 ∧ K (p + 6) ≠ 31 ∧ K (p + 6) ≠ 22 ∧ K (p + 6) ≠ 23; omega) (sum_day (hK 6 _ rfl) (hK 7 _ rfl) (hK 8 _ rfl) (hK 9 _ rfl) (hK 10 _ rfl) (hK 11 _ rfl) (hK 12 _ rfl) (by show ¬ (35 ≤ K (p + 13) ∧ K (p + 13) ≤ 38); omega)) k13 (by decide) (sum_1 (val_n (hK 14 _ rfl) (Or.inl rfl)) (by show ¬ (35 ≤ K (p + 15) ∧ K (p + 15) ≤ 38); omega))) (by show K (p + 15) ≠ 25; omega)) (lp_e (f := 399) (by show K (p + 15) ≠ 26 ∧ K (p + 15) ≠ 26; omega))))
  · have he' : K (p + 10) = 33 := he
    have k8 : K (p + 8) = 41 := hK 8 _ rfl
    exact ot_y (hK 0 _ rfl) (tes_1 (bot_1 (sng_c (by have : K (p + 1) = 17 := hK 1 _ rfl; omega) (sum_day (hK 1 _ rfl) (hK 2 _ rfl) (hK 3 _ rfl) (hK 4 _ rfl) (hK 5 _ rfl) (hK 6 _ rfl) (hK 7 _ rfl) (by show ¬ (35 ≤ K (p + 8) ∧ K (p + 8) ≤ 38); omega)) k8 (by decide) (sum_1 (val_n (hK 9 _ rfl) (Or.inl rfl)) (by show ¬ (35 ≤ K (p + 10) ∧ K (p + 10) ≤ 38); omega))) (by show K (p + 10) ≠ 25; omega)) (by show K (p + 10) ≠ 26; omega))
  · have he' : K (p + 11) = 33 := he
    have k3 : K (p + 3) = 40 := hK 3 _ rfl
    have k5 : K (p + 5) = 26 := hK 5 _ rfl
    have k9 : K (p + 9) = 43 := hK 9 _ rfl
    exact ot_y (hK 0 _ rfl) (tes_l (bot_1 (sng_c (by have : K (p + 1) = 21 := hK 1 _ rfl; omega) (sum_1 (val_w (hK 1 _ rfl) (hK 2 _ rfl)) (by show ¬ (35 ≤ K (p + 3) ∧ K (p + 3) ≤ 38); omega)) k3 (by decide) (sum_1 (val_n (hK 4 _ rfl) (Or.inl rfl)) (by show ¬ (35 ≤ K (p + 5) ∧ K (p + 5) ≤ 38); omega))) (by show K (p + 5) ≠ 25; omega)) (lp_s k5 (Or.inl rfl) (bot_1 (sng_c (by have : K (p + 6) = 19 := hK 6 _ rfl; show K (p + 6) ≠ 24 ∧ K (p + 6) ≠ 31 ∧ K (p + 6) ≠ 22 ∧ K (p + 6) ≠ 23; omega) (sum_1 (val_b (hK 6 _ rfl) (by decide) (hK 7 _ rfl) (hK 8 _ rfl)) (by show ¬ (35 ≤ K (p + 9) ∧ K (p + 9) ≤ 38); omega)) k9 (by decide) (sum_1 (val_n (hK 10 _ rfl) (Or.inl rfl)) (by show ¬ (35 ≤ K (p + 11) ∧ K (p + 11) ≤ 38); omega))) (by show K (p + 11) ≠ 25; omega)) (lp_e (f := 399) (by show K (p + 11) ≠ 26 ∧ K (p + 11) ≠ 26; omega))))
  · have he' : K (p + 11) = 33 := he
    have k4 : K (p + 4) = 39 := hK 4 _ rfl
    have k6 : K (p + 6) = 25 := hK 6 _ rfl
    exact ot_y (hK 0 _ rfl) (tes_1 (bot_l (sng_c (by have : K (p + 1) = 20 := hK 1 _ rfl; omega) (sum_1 (val_b (hK 1 _ rfl) (by decide) (hK 2 _ rfl) (hK 3 _ rfl)) (by show ¬ (35 ≤ K (p + 4) ∧ K (p + 4) ≤ 38); omega)) k4 (by decide) (sum_1 (val_n (hK 5 _ rfl) (Or.inl rfl)) (by show ¬ (35 ≤ K (p + 6) ∧ K (p + 6) ≤ 38); omega))) (lp_s k6 (Or.inl rfl) (sng_n (hK 7 _ rfl) (sng_b (hK 8 _ rfl) (Or.inl rfl) (hK 9 _ rfl) (hK 10 _ rfl))) (lp_e (f := 399) (by show K (p + 11) ≠ 25 ∧ K (p + 11) ≠ 25; omega)))) (by show K (p + 11) ≠ 26; omega))
/-- an order's line -/
theorem or_y (h0 : w 0 ≤ 3) (h3 : w 3 ≤ 2) (h4 : w 0 = 2 → w 4 < 3) (h5 : w 5 ≤ 5) (hz : w 0 ≤ 1 → w 5 ≠ 0) (hK : KAt K p (orT w)) : PLs K 1 p (p + (orT w).length) [(p, hdO w p, tsO w (p + (hdT w (spT w)).length + 1))] := by
  have kl : KAt K p (hdT w (spT w)) := hK.l
  have k1 : KAt K (p + (hdT w (spT w)).length) (tsT w) := hK.r.l
  have k2 : K (p + (hdT w (spT w)).length + (tsT w).length) = 33 := hK.r.r 0 _ rfl
  have he : K (p + (hdT w (spT w)).length) = 16 ∨ K (p + (hdT w (spT w)).length) = 33 := by
    by_cases z : w 5 = 0
    · have : tsT w = [] := if_pos z
      rw [this] at k2; exact Or.inr k2
    · have : K (p + (hdT w (spT w)).length + 0) = 16 := k1 0 (16, 0, 1) (by unfold tsT; rw [if_neg z]; rfl)
      exact Or.inl this
  have hk : K p = 6 + w 0 := by
    have := kl 0
    unfold hdT at this
    by_cases e3 : w 0 = 3
    · rw [if_pos e3] at this; rw [e3]; exact this _ rfl
    · rw [if_neg e3] at this
      by_cases e2 : w 0 = 2
      · rw [if_pos e2] at this; rw [e2]; exact this _ rfl
      · rw [if_neg e2] at this; exact this _ rfl
  have hl := ln_o hk (by omega) (hd_y h0 h3 h4 kl (by omega)) (ts_y h5 hz rfl k1 k2)
  have := PLs.one (by omega) hl k2
  have e : p + (orT w).length = p + (hdT w (spT w)).length + (tsT w).length + 1 := by
    unfold orT
    rw [List.length_append, List.length_append]
    show p + (_ + (_ + 1)) = _
    omega
  rw [e]; exact this
end ORD
