/-! the language, over the kinds K of tokens, of which the n-th is the last -/
abbrev RO : Type := List (Nat × Nat)
abbrev Rs : Type := Nat × Option RO
def sq (r : Rs) (f : Nat → Rs) : Rs :=
  match r with
  | (p, none) => (p, none)
  | (p, some l) => match f p with
    | (p', none) => (p', none)
    | (p', some l') => (p', some (l ++ l'))
def gTk (K : Nat → Nat) (k p : Nat) : Rs := if K p = k then (p + 1, some []) else (p, none)
def gAd (k x p : Nat) : Rs := (p, some [(k, x)])
def gNo (p : Nat) : Rs := (p, none)
def gDp (K : Nat → Nat) (b : Bool) (k p : Nat) : Rs := if b = true then gTk K k p else (p, none)
def bdF (K : Nat → Nat) (k p : Nat) : Rs := sq (sq (sq (gAd k (p + 1) p) (gTk K k)) (gTk K 44)) (fun q => if k = 21 then (q, some []) else gTk K 44 q)
def prF (K : Nat → Nat) (b : Bool) (ds : Nat → Rs) (p : Nat) : Rs := sq (sq (sq (sq (gDp K b 29 p) ds) (gTk K 34)) ds) (gTk K 30)
def valF (K : Nat → Nat) (b : Bool) (dv ds : Nat → Rs) (p : Nat) : Rs :=
  if K p = 45 ∨ K p = 17 then sq (gAd (K p) (p + 1) p) (gTk K (K p))
  else if 18 ≤ K p ∧ K p ≤ 21 then bdF K (K p) p
  else if K p = 36 then sq (sq (gDp K b 36 p) dv) (gAd 48 0)
  else if K p = 29 then sq (sq (gDp K b 29 p) ds) (gTk K 30)
  else if K p = 27 ∨ K p = 28 then sq (sq (gTk K (K p) p) (prF K b ds)) (gAd (K p) 0)
  else (p, none)
def lpF (K : Nat → Nat) (F : Nat → Rs) (c1 c2 : Nat) : Nat → Nat → Rs
  | 0, p => (p, some [])
  | f + 1, p => if K p = c1 ∨ K p = c2 then sq (sq (sq (gTk K (K p) p) F) (gAd (K p) 0)) (lpF K F c1 c2 f) else (p, some [])
def proF (K : Nat → Nat) (v : Nat → Rs) (p : Nat) : Rs := sq (v p) (lpF K v 37 38 400)
def sumF (K : Nat → Nat) (v : Nat → Rs) (p : Nat) : Rs := sq (proF K v p) (lpF K (proF K v) 35 36 400)
def gVal (K : Nat → Nat) : Nat → Nat → Rs
  | 0 => valF K false gNo gNo
  | e + 1 => valF K true (gVal K e) (sumF K (gVal K e))
def cmF (K : Nat → Nat) (p : Nat) : Rs := if 39 ≤ K p ∧ K p ≤ 43 then gTk K (K p) p else (p, none)
def cpF (K : Nat → Nat) (s : Nat → Rs) (q : Nat) : Rs := sq (sq (cmF K q) s) (gAd (K q) 0)
def sngF (K : Nat → Nat) (b : Bool) (dn dt s : Nat → Rs) (p : Nat) : Rs :=
  if K p = 24 then sq (sq (gDp K b 24 p) dn) (gAd 24 0)
  else if K p = 31 then sq (sq (gDp K b 31 p) dt) (gTk K 32)
  else if K p = 22 ∨ K p = 23 then bdF K (K p) p
  else sq (s p) (cpF K s)
def botF (K : Nat → Nat) (s : Nat → Rs) (p : Nat) : Rs := sq (s p) (lpF K s 25 25 400)
def tesF (K : Nat → Nat) (s : Nat → Rs) (p : Nat) : Rs := sq (botF K s p) (lpF K (botF K s) 26 26 400)
def gSng (K : Nat → Nat) : Nat → Nat → Rs
  | 0 => sngF K false gNo gNo (sumF K (gVal K 0))
  | e + 1 => sngF K true (gSng K e) (tesF K (gSng K e)) (sumF K (gVal K (e + 1)))
def gSum (K : Nat → Nat) (e : Nat) : Nat → Rs := sumF K (gVal K e)
def gTes (K : Nat → Nat) (e : Nat) : Nat → Rs := tesF K (gSng K e)
theorem sq_n {p : Nat} {f : Nat → Rs} : sq (p, none) f = (p, none) := rfl
theorem sq_assoc (r : Rs) (f g : Nat → Rs) : sq (sq r f) g = sq r (fun p => sq (f p) g) := by
  obtain ⟨p, _ | l⟩ := r
  · rfl
  · unfold sq
    dsimp only
    rcases h : f p with ⟨p1, _ | l1⟩
    · rfl
    · dsimp only
      rcases h2 : g p1 with ⟨p2, _ | l2⟩
      · rfl
      · dsimp only; rw [List.append_assoc]
theorem sq_id (r : Rs) : sq r (fun p => (p, some [])) = r := by
  obtain ⟨p, _ | l⟩ := r
  · rfl
  · unfold sq; dsimp only; rw [List.append_nil]
/-! what a part that fits is like -/
def wdR (o : Nat × Nat) : Nat := if o.1 = 45 then 2 else if o.1 = 21 then 2 else if 18 ≤ o.1 ∧ o.1 ≤ 23 then 3 else 1
def wdL : RO → Nat
  | [] => 0
  | o :: l => wdR o + wdL l
theorem wdL_app : ∀ l l' : RO, wdL (l ++ l') = wdL l + wdL l'
  | [], l' => (Nat.zero_add _).symm
  | o :: l, l' => by rw [List.cons_append, wdL, wdL, wdL_app l l', Nat.add_assoc]
/-- the names that an operation asks for -/
def opN (o : Nat × Nat) : Nat := if o.1 = 21 then 1 else if 18 ≤ o.1 ∧ o.1 ≤ 23 then 2 else 0
def coL : RO → Nat
  | [] => 0
  | o :: l => (1 + opN o) + coL l
theorem coL_app : ∀ l l' : RO, coL (l ++ l') = coL l + coL l'
  | [], l' => (Nat.zero_add _).symm
  | o :: l, l' => by rw [List.cons_append, coL, coL, coL_app l l']; omega
theorem coL_ge : ∀ l : RO, l.length ≤ coL l
  | [] => Nat.le_refl _
  | o :: l => by have := coL_ge l; rw [coL, List.length_cons]; omega
def opsR : List Nat := [17, 18, 19, 20, 21, 22, 23, 45]
/-- an operation that stands for a token, between p and p' -/
def refR (K : Nat → Nat) (p p' : Nat) (o : Nat × Nat) : Prop := (o.2 = 0 ∧ (o.1 = 48 ∨ o.1 = 24 ∨ isBin o.1)) ∨ (0 < o.2 ∧ o.1 ∈ opsR ∧ K (o.2 - 1) = o.1 ∧ p < o.2 ∧ o.2 ≤ p' ∧ (o.1 = 17 → o.2 < p' → K o.2 ≠ 44) ∧ (18 ≤ o.1 → o.1 ≤ 23 → o.2 < p' ∧ K o.2 = 44 ∧ (o.1 ≠ 21 → o.2 + 1 < p' ∧ K (o.2 + 1) = 44)))
/-- a token inside of a sum or a test -/
def LG (K : Nat → Nat) (j : Nat) : Prop := 16 ≤ K j ∧ (18 ≤ K j → K j ≤ 23 → K (j + 1) = 44 ∧ (K j ≠ 21 → K (j + 2) = 44)) ∧ (K j = 44 → 1 ≤ j ∧ 18 ≤ K (j - 1) ∧ (K (j - 1) ≤ 23 ∨ (K (j - 1) = 44 ∧ 2 ≤ j ∧ 18 ≤ K (j - 2) ∧ K (j - 2) ≤ 23 ∧ K (j - 2) ≠ 21)))
theorem LG.s {K : Nat → Nat} {j k : Nat} (h : 16 ≤ K k ∧ K k ≠ 44 ∧ ¬ (18 ≤ K k ∧ K k ≤ 23)) (e : j = k) : LG K j := by
  subst e
  exact ⟨h.1, fun a b => absurd ⟨a, b⟩ h.2.2, fun a => absurd a h.2.1⟩
def GD (K : Nat → Nat) (n p p' : Nat) (l : RO) : Prop := p ≤ p' ∧ p' ≤ n ∧ p + coL l ≤ p' ∧ 2 * p + wdL l ≤ 2 * p' ∧ (p < p' → K p ≠ 44) ∧ (∀ o ∈ l, refR K p p' o) ∧ ∀ j, p ≤ j → j < p' → LG K j
theorem GD.le {K : Nat → Nat} {n p p' : Nat} {l : RO} (h : GD K n p p' l) : p ≤ p' := h.1
theorem GD.hn {K : Nat → Nat} {n p p' : Nat} {l : RO} (h : GD K n p p' l) : p' ≤ n := h.2.1
theorem GD.co {K : Nat → Nat} {n p p' : Nat} {l : RO} (h : GD K n p p' l) : p + coL l ≤ p' := h.2.2.1
theorem GD.len {K : Nat → Nat} {n p p' : Nat} {l : RO} (h : GD K n p p' l) : p + l.length ≤ p' := by have := h.co; have := coL_ge l; omega
theorem GD.wd {K : Nat → Nat} {n p p' : Nat} {l : RO} (h : GD K n p p' l) : 2 * p + wdL l ≤ 2 * p' := h.2.2.2.1
theorem GD.nf {K : Nat → Nat} {n p p' : Nat} {l : RO} (h : GD K n p p' l) : p < p' → K p ≠ 44 := h.2.2.2.2.1
theorem GD.rf {K : Nat → Nat} {n p p' : Nat} {l : RO} (h : GD K n p p' l) : ∀ o ∈ l, refR K p p' o := h.2.2.2.2.2.1
theorem GD.cl {K : Nat → Nat} {n p p' : Nat} {l : RO} (h : GD K n p p' l)   : ∀ j, p ≤ j → j < p' → LG K j := h.2.2.2.2.2.2
theorem GD.app {K : Nat → Nat} {n p p1 p2 : Nat} {l1 l2 : RO} (h1 : GD K n p p1 l1) (h2 : GD K n p1 p2 l2) : GD K n p p2 (l1 ++ l2) := by
  refine ⟨Nat.le_trans h1.le h2.le, h2.hn, ?_, ?_, fun h => ?_, fun o ho => ?_, fun j a b => (Nat.lt_or_ge j p1).elim (fun z => h1.cl j a z) (fun z => h2.cl j z b)⟩
  · have := h1.co; have := h2.co; rw [coL_app]; omega
  · have := h1.wd; have := h2.wd; rw [wdL_app]; omega
  · by_cases h' : p < p1
    · exact h1.nf h'
    · have := h1.le
      rw [show p = p1 by omega]; exact h2.nf (by omega)
  · have e1 := h1.le; have e2 := h2.le
    rcases List.mem_append.mp ho with z | z
    · rcases h1.rf o z with y | ⟨a, b, c, e, f, g, i⟩
      · exact Or.inl y
      · refine Or.inr ⟨a, b, c, e, by omega, fun u v => ?_, fun u v => ⟨by have := (i u v).1; omega, (i u v).2.1, fun w => ⟨by have := ((i u v).2.2 w).1; omega, ((i u v).2.2 w).2⟩⟩⟩
        by_cases h' : o.2 < p1
        · exact g u h'
        · rw [show o.2 = p1 by omega]; exact h2.nf (by omega)
    · rcases h2.rf o z with y | ⟨a, b, c, e, f, g, i⟩
      · exact Or.inl y
      · exact Or.inr ⟨a, b, c, by omega, f, g, i⟩
/-- what kinds are kept as -/
def keepK (f : Nat × Nat → Op) : Prop := ∀ o, (f o).1 = o.1
/-- a value more on the stack -/
def SHV (c : Int32 → Prop) (l : RO) : Prop := ∀ f, keepK f → (∀ T D st, ∃ v, c v ∧ evS T D (l.map f) st = v :: st) ∧ ∀ s, hts (l.map f) s = some (s + 1)
def is01 (v : Int32) : Prop := v = 0 ∨ v = 1
def isAny (_ : Int32) : Prop := True
theorem hts_app : ∀ (l l' : List Op) (s s' : Nat), hts l s = some s' → hts (l ++ l') s = hts l' s'
  | [], l', s, s', h => by cases h; rfl
  | o :: l, l', s, s', h => by
    obtain ⟨h', e1, e2⟩ := hts_cons h
    rw [List.cons_append, hts, e1]
    exact hts_app l l' h' s' e2
theorem evS_app (T : PT) (D : DT) : ∀ (l l' : List Op) (st : List Int32), evS T D (l ++ l') st = evS T D l' (evS T D l st)
  | [], _, _ => rfl
  | o :: l, l', st => evS_app T D l l' _
theorem isBin_ne {k : Nat} (h : isBin k) : k ≠ 45 ∧ k ≠ 17 ∧ ¬ (18 ≤ k ∧ k ≤ 23) ∧ k ≠ 48 ∧ k ≠ 24 := by
  have := bin_ne k h
  exact ⟨this.1, this.2.1, this.2.2.2.1, this.2.2.2.2.1, this.2.2.2.2.2⟩
theorem SHV.bin {c c' : Int32 → Prop} {l1 l2 : RO} {k x : Nat} (h1 : SHV c l1) (h2 : SHV c l2) (hk : isBin k) (hc : ∀ a b, c a → c b → c' (jn k a b)) : SHV c' (l1 ++ (l2 ++ [(k, x)])) := by
  intro f hf
  obtain ⟨a1, b1⟩ := h1 f hf
  obtain ⟨a2, b2⟩ := h2 f hf
  have ek : (f (k, x)).1 = k := hf _
  obtain ⟨n1, n2, n3, n4, n5⟩ := isBin_ne hk
  rw [List.map_append, List.map_append]
  refine ⟨fun T D st => ?_, fun s => ?_⟩
  · obtain ⟨v1, c1, e1⟩ := a1 T D st
    obtain ⟨v2, c2, e2⟩ := a2 T D (v1 :: st)
    refine ⟨jn k v1 v2, hc _ _ c1 c2, ?_⟩
    rw [evS_app, evS_app, e1, e2]
    show stp T D (f (k, x)) (v2 :: v1 :: st) = _
    unfold stp
    rw [ek, if_neg n1, if_neg n2, if_neg n3, if_neg n4, if_neg n5]
  · rw [hts_app _ _ _ _ (b1 s), hts_app _ _ _ _ (b2 (s + 1))]
    show (hop (f (k, x)) (s + 1 + 1)).bind (hts []) = _
    unfold hop
    rw [ek, if_neg (fun z => z.elim n1 (fun z => z.elim n2 n3)), if_neg (fun z => z.elim n4 n5), if_pos (by omega)]
    rfl
theorem SHV.un {c c' : Int32 → Prop} {l1 : RO} {k x : Nat} (h1 : SHV c l1) (hk : k = 48 ∨ k = 24) (hc : ∀ a, c a → c' (if k = 48 then -a else 1 - a)) : SHV c' (l1 ++ [(k, x)]) := by
  intro f hf
  obtain ⟨a1, b1⟩ := h1 f hf
  have ek : (f (k, x)).1 = k := hf _
  rw [List.map_append]
  refine ⟨fun T D st => ?_, fun s => ?_⟩
  · obtain ⟨v1, c1, e1⟩ := a1 T D st
    refine ⟨_, hc _ c1, ?_⟩
    rw [evS_app, e1]
    show stp T D (f (k, x)) (v1 :: st) = _
    unfold stp
    rw [ek, if_neg (by omega), if_neg (by omega), if_neg (by omega)]
    rcases hk with rfl | rfl <;> rfl
  · rw [hts_app _ _ _ _ (b1 s)]
    show (hop (f (k, x)) (s + 1)).bind (hts []) = _
    unfold hop
    rw [ek, if_neg (by omega), if_pos hk, if_pos (by omega)]
    rfl
theorem SHV.leaf {c : Int32 → Prop} {k x : Nat} (hk : k = 45 ∨ k = 17 ∨ (18 ≤ k ∧ k ≤ 23)) (hc : ∀ T D a b, 18 ≤ k → k ≤ 23 → c (ansX T D k a b)) (hc' : ¬ (18 ≤ k ∧ k ≤ 23) → ∀ v, c v) : SHV c [(k, x)] := by
  intro f hf
  have ek : (f (k, x)).1 = k := hf _
  refine ⟨fun T D st => ?_, fun s => ?_⟩
  · show ∃ v, c v ∧ stp T D (f (k, x)) st = v :: st
    unfold stp
    rw [ek]
    by_cases h1 : k = 45
    · rw [if_pos h1]; exact ⟨_, hc' (by omega) _, rfl⟩
    · rw [if_neg h1]
      by_cases h2 : k = 17
      · rw [if_pos h2]; exact ⟨_, hc' (by omega) _, rfl⟩
      · rw [if_neg h2, if_pos (by omega)]; exact ⟨_, hc T D _ _ (by omega) (by omega), rfl⟩
  · show (hop (f (k, x)) s).bind (hts []) = _
    unfold hop
    rw [ek, if_pos hk]
    rfl
/-- how a part of the language goes on from p -/
def Ok (n : Nat) (P : Nat → RO → Prop) (p : Nat) (r : Rs) : Prop := p ≤ r.1 ∧ r.1 ≤ n ∧ ∀ l, r.2 = some l → P r.1 l
theorem Ok.bind {n : Nat} {P Q : Nat → RO → Prop} {p : Nat} {r : Rs} {f : Nat → Rs} (h : Ok n P p r) (hf : ∀ p1 l1, P p1 l1 → p ≤ p1 → p1 ≤ n → Ok n (fun p2 l2 => Q p2 (l1 ++ l2)) p1 (f p1)) : Ok n Q p (sq r f) := by
  obtain ⟨p1, _ | l1⟩ := r
  · exact ⟨h.1, h.2.1, fun l e => absurd e (by intro z; cases z)⟩
  · have h3 := hf p1 l1 (h.2.2 l1 rfl) h.1 h.2.1
    unfold sq
    dsimp only
    have h1 := h.1
    rcases hh : f p1 with ⟨p2, _ | l2⟩
    · rw [hh] at h3; exact ⟨Nat.le_trans h1 h3.1, h3.2.1, fun l e => absurd e (by intro z; cases z)⟩
    · rw [hh] at h3
      exact ⟨Nat.le_trans h1 h3.1, h3.2.1, fun l e => by cases e; exact h3.2.2 l2 rfl⟩
theorem Ok.imp {n : Nat} {P Q : Nat → RO → Prop} {p : Nat} {r : Rs} (h : Ok n P p r) (hf : ∀ p1 l1, p ≤ p1 → p1 ≤ n → P p1 l1 → Q p1 l1) : Ok n Q p r := ⟨h.1, h.2.1, fun l e => hf _ _ h.1 h.2.1 (h.2.2 l e)⟩
theorem Ok.no {n : Nat} {P : Nat → RO → Prop} {p : Nat} (h : p ≤ n) : Ok n P p (p, none) := ⟨Nat.le_refl _, h, fun _ e => by cases e⟩
theorem Ok.yes {n : Nat} {P : Nat → RO → Prop} {p p' : Nat} {l : RO} (h : p ≤ p') (h' : p' ≤ n) (hP : P p' l) : Ok n P p (p', some l) := ⟨h, h', fun _ e => by cases e; exact hP⟩
section GRS
variable {K : Nat → Nat} {n : Nat}
theorem Ok.tk (hn : 46 ≤ K n) {k p : Nat} (hk : k < 46) (hp : p ≤ n) : Ok n (fun p' l => p' = p + 1 ∧ l = [] ∧ K p = k) p (gTk K k p) := by
  unfold gTk
  split
  · rename_i h
    have : p ≠ n := fun z => by rw [z] at h; omega
    exact Ok.yes (by omega) (by omega) ⟨rfl, rfl, h⟩
  · exact Ok.no hp
theorem Ok.dp (hn : 46 ≤ K n) {b : Bool} {k p : Nat} (hk : k < 46) (hp : p ≤ n) : Ok n (fun p' l => p' = p + 1 ∧ l = [] ∧ K p = k ∧ b = true) p (gDp K b k p) := by
  unfold gDp
  split
  · rename_i h
    exact (Ok.tk hn hk hp).imp (fun _ _ _ _ z => ⟨z.1, z.2.1, z.2.2, h⟩)
  · exact Ok.no hp
/-- a token that is no name -/
theorem GD.tk {p : Nat} (hp : p < n) (hk : 16 ≤ K p ∧ K p ≠ 44 ∧ ¬ (18 ≤ K p ∧ K p ≤ 23)) : GD K n p (p + 1) [] := ⟨Nat.le_succ _, hp, Nat.le_succ _, by show 2 * p + 0 ≤ _; omega, fun _ => hk.2.1, fun o ho => absurd ho (by intro z; cases z), fun j a b => LG.s hk (by omega)⟩
/-- a token, and an operation for those ahead -/
theorem GD.ad {p p1 k : Nat} {l : RO} (h : GD K n (p + 1) p1 l) (h0 : 16 ≤ K p ∧ K p ≠ 44 ∧ ¬ (18 ≤ K p ∧ K p ≤ 23)) (hk : k = 48 ∨ k = 24 ∨ isBin k) : GD K n p p1 (l ++ [(k, 0)]) := by
  have e1 := h.le
  have hw : wdR (k, 0) ≤ 2 := by
    unfold wdR
    have : k ≠ 45 ∧ ¬ (18 ≤ k ∧ k ≤ 23) := by
      rcases hk with z | z | z
      · omega
      · omega
      · exact ⟨(isBin_ne z).1, (isBin_ne z).2.2.1⟩
    rw [if_neg this.1, if_neg (show (k, 0).1 ≠ 21 by show k ≠ 21; omega), if_neg this.2]
    decide
  refine ⟨by omega, h.hn, ?_, ?_, fun _ => h0.2.1, fun o ho => ?_, fun j a b => (Nat.lt_or_ge j (p + 1)).elim (fun z => LG.s h0 (by omega)) (fun z => h.cl j z b)⟩
  · have := h.co
    have ho : opN (k, 0) = 0 := by
      unfold opN
      have : k ≠ 21 ∧ ¬ (18 ≤ k ∧ k ≤ 23) := by
        rcases hk with z | z | z
        · omega
        · omega
        · have := (isBin_ne z).2.2.1; omega
      rw [if_neg this.1, if_neg this.2]
    rw [coL_app]; show p + (coL l + ((1 + opN (k, 0)) + 0)) ≤ p1; omega
  · have := h.wd; rw [wdL_app]; show 2 * p + (wdL l + (wdR (k, 0) + 0)) ≤ 2 * p1; omega
  · rcases List.mem_append.mp ho with z | z
    · rcases h.rf o z with y | ⟨a, b, c, e, f, g, i⟩
      · exact Or.inl y
      · exact Or.inr ⟨a, b, c, by omega, f, g, i⟩
    · rw [List.mem_singleton.mp z]; exact Or.inl ⟨rfl, hk⟩
/-- a value: what it asks for is well told, and it leaves one value -/
def VL (K : Nat → Nat) (n : Nat) (c : Int32 → Prop) (p p' : Nat) (l : RO) : Prop := p < p' ∧ GD K n p p' l ∧ SHV c l
def GV (K : Nat → Nat) (n : Nat) (c : Int32 → Prop) (F : Nat → Rs) : Prop := ∀ p, p ≤ n → Ok n (VL K n c p) p (F p)
theorem GV.loop (hn : 46 ≤ K n) {c : Int32 → Prop} {F : Nat → Rs} {c1 c2 : Nat} (hF : GV K n c F) (hb1 : isBin c1) (hb2 : isBin c2) (hc : ∀ k a b, k = c1 ∨ k = c2 → c a → c b → c (jn k a b)) : ∀ f p p0 l0, p ≤ n → VL K n c p0 p l0 → Ok n (fun p' l => VL K n c p0 p' (l0 ++ l)) p (lpF K F c1 c2 f p)
  | 0, p, p0, l0, hp, h0 => Ok.yes (Nat.le_refl _) hp (by rw [List.append_nil]; exact h0)
  | f + 1, p, p0, l0, hp, h0 => by
    unfold lpF
    by_cases h : K p = c1 ∨ K p = c2
    · rw [if_pos h]
      have hb : isBin (K p) := h.elim (fun z => by rw [z]; exact hb1) (fun z => by rw [z]; exact hb2)
      have h46 : K p < 46 := by
        have : ∀ k ∈ [25, 26, 27, 28, 35, 36, 37, 38, 39, 40, 41, 42, 43], k < 46 := by decide
        exact this _ hb
      have h44 : 16 ≤ K p ∧ K p ≠ 44 ∧ ¬ (18 ≤ K p ∧ K p ≤ 23) := by
        have : ∀ k ∈ [25, 26, 27, 28, 35, 36, 37, 38, 39, 40, 41, 42, 43], 16 ≤ k ∧ k ≠ 44 ∧ ¬ (18 ≤ k ∧ k ≤ 23) := by decide
        exact this _ hb
      have st : Ok n (fun p' l => VL K n c p0 p' (l0 ++ l) ∧ p < p') p (sq (sq (gTk K (K p) p) F) (gAd (K p) 0)) := by
        refine Ok.bind (P := fun p' l => VL K n c (p + 1) p' l) ?_ ?_
        · refine Ok.bind (Ok.tk hn h46 hp) (fun p1 l1 h1 a b => ?_)
          obtain ⟨rfl, rfl, -⟩ := h1
          exact (hF (p + 1) b).imp (fun p2 l2 _ _ z => by rw [List.nil_append]; exact z)
        · intro p1 l1 h1 a b
          refine Ok.yes (Nat.le_refl _) b ⟨⟨?_, ?_, ?_⟩, ?_⟩
          · have := h0.1; have := h1.1; omega
          · exact h0.2.1.app (h1.2.1.ad h44 (Or.inr (Or.inr hb)))
          · exact h0.2.2.bin h1.2.2 hb (fun a b => hc _ a b h)
          · have := h1.1; omega
      refine Ok.bind st (fun p1 l1 h1 a b => ?_)
      exact (GV.loop hn hF hb1 hb2 hc f p1 p0 (l0 ++ l1) b h1.1).imp (fun p2 l2 _ _ z => by rw [← List.append_assoc]; exact z)
    · rw [if_neg h]
      exact Ok.yes (Nat.le_refl _) hp (by rw [List.append_nil]; exact h0)
theorem GV.seq (hn : 46 ≤ K n) {c : Int32 → Prop} {F G : Nat → Rs} {c1 c2 : Nat} (hF : GV K n c F) (hG : GV K n c G) (hb1 : isBin c1) (hb2 : isBin c2) (hc : ∀ k a b, k = c1 ∨ k = c2 → c a → c b → c (jn k a b)) : GV K n c (fun p => sq (F p) (lpF K G c1 c2 400)) := by
  intro p hp
  exact Ok.bind (hF p hp) (fun p1 l1 h1 a b => GV.loop hn hG hb1 hb2 hc 400 p1 p l1 b h1)
theorem GV.sum (hn : 46 ≤ K n) {v : Nat → Rs} (h : GV K n isAny v) : GV K n isAny (sumF K v) := by
  have hp : GV K n isAny (proF K v) := GV.seq hn h h (by unfold isBin; decide) (by unfold isBin; decide) (fun _ _ _ _ _ _ => trivial)
  exact GV.seq hn hp hp (by unfold isBin; decide) (by unfold isBin; decide) (fun _ _ _ _ _ _ => trivial)
theorem and01 (a b : Int32) (ha : is01 a) (hb : is01 b) : is01 (a &&& b) := by
  rcases ha with rfl | rfl <;> rcases hb with rfl | rfl <;> unfold is01 <;> decide
theorem or01 (a b : Int32) (ha : is01 a) (hb : is01 b) : is01 (a ||| b) := by
  rcases ha with rfl | rfl <;> rcases hb with rfl | rfl <;> unfold is01 <;> decide
theorem GV.tes (hn : 46 ≤ K n) {s : Nat → Rs} (h : GV K n is01 s) : GV K n is01 (tesF K s) := by
  have hp : GV K n is01 (botF K s) := GV.seq hn h h (by unfold isBin; decide) (by unfold isBin; decide) (fun k a b e ha hb => by
    have e : k = 25 := by omega
    subst e; exact and01 a b ha hb)
  exact GV.seq hn hp hp (by unfold isBin; decide) (by unfold isBin; decide) (fun k a b e ha hb => by
    have e : k = 26 := by omega
    subst e; exact or01 a b ha hb)
theorem GV.br (hn : 46 ≤ K n) {c : Int32 → Prop} {p : Nat} (hp : p ≤ n) (hk : 18 ≤ K p ∧ K p ≤ 23) (hc : ∀ T D a b, c (ansX T D (K p) a b)) : Ok n (VL K n c p) p (bdF K (K p) p) := by
  have pn : p < n := by
    rcases Nat.eq_or_lt_of_le hp with z | z
    · rw [z] at hk; omega
    · exact z
  unfold bdF
  refine Ok.bind (P := fun p' l => p' = p + 2 ∧ l = [(K p, p + 1)] ∧ K (p + 1) = 44) ?_ ?_
  · refine Ok.bind (P := fun p' l => p' = p + 1 ∧ l = [(K p, p + 1)]) ?_ ?_
    · refine Ok.bind (P := fun p' l => p' = p ∧ l = [(K p, p + 1)]) (Ok.yes (Nat.le_refl _) hp ⟨rfl, rfl⟩) ?_
      rintro p1 l1 ⟨rfl, rfl⟩ _ _
      refine (Ok.tk hn (by omega) hp).imp ?_
      rintro p2 l2 _ _ ⟨rfl, rfl, _⟩
      exact ⟨rfl, rfl⟩
    · rintro p1 l1 ⟨rfl, rfl⟩ _ b
      refine (Ok.tk hn (by omega) b).imp ?_
      rintro p2 l2 _ _ ⟨rfl, rfl, e⟩
      exact ⟨rfl, rfl, e⟩
  · rintro p1 l1 ⟨rfl, rfl, e1⟩ _ b
    have hs : SHV c [(K p, p + 1)] := SHV.leaf (Or.inr (Or.inr hk)) (fun T D a b _ _ => hc T D a b) (fun z => absurd hk z)
    have fin : ∀ p', p + 2 ≤ p' → p' ≤ n → (K p ≠ 21 → p + 2 < p' ∧ K (p + 2) = 44) → (∀ j, p ≤ j → j < p' → LG K j) → VL K n c p p' [(K p, p + 1)] := by
      intro p' h1 h2 h3 h4
      refine ⟨by omega, ⟨by omega, h2, ?_, ?_, fun _ => by omega, fun o ho => ?_, h4⟩, hs⟩
      · show p + ((1 + opN (K p, p + 1)) + 0) ≤ p'
        unfold opN
        by_cases z : K p = 21
        · rw [if_pos z]; omega
        · rw [if_neg z, if_pos hk]; have := h3 z; omega
      · show 2 * p + (wdR (K p, p + 1) + 0) ≤ 2 * p'
        have : wdR (K p, p + 1) ≤ 3 := by unfold wdR; split; omega; split; omega; omega
        omega
      · rw [List.mem_singleton.mp ho]
        refine Or.inr ⟨Nat.succ_pos _, ?_, rfl, by show p < p + 1; omega, by show p + 1 ≤ p'; omega, fun z => ?_, fun _ _ => ⟨by show p + 1 < p'; omega, e1, h3⟩⟩
        · have : ∀ k, 18 ≤ k → k ≤ 23 → k ∈ opsR := fun k a b => by
            rcases (by omega : k = 18 ∨ k = 19 ∨ k = 20 ∨ k = 21 ∨ k = 22 ∨ k = 23) with rfl | rfl | rfl | rfl | rfl | rfl <;> unfold opsR <;> decide
          exact this _ hk.1 hk.2
        · have z' : K p = 17 := z
          omega
    have g0 : (K p ≠ 21 → K (p + 2) = 44) → LG K p := fun z => ⟨by omega, fun _ _ => ⟨e1, z⟩, fun z => by omega⟩
    have g1 : LG K (p + 1) := ⟨by omega, fun a b => by omega, fun _ => ⟨by omega, by rw [Nat.add_sub_cancel]; exact hk.1, Or.inl (by rw [Nat.add_sub_cancel]; exact hk.2)⟩⟩
    by_cases h21 : K p = 21
    · rw [if_pos h21]
      exact Ok.yes (Nat.le_refl _) b (by rw [List.append_nil]; exact fin _ (Nat.le_refl _) b (fun z => absurd h21 z) (fun j a b => (by omega : j = p ∨ j = p + 1).elim (fun z => by rw [z]; exact g0 (fun y => absurd h21 y)) (fun z => by rw [z]; exact g1)))
    · rw [if_neg h21]
      refine (Ok.tk hn (by omega) b).imp ?_
      rintro p2 l2 _ b2 ⟨rfl, rfl, e2⟩
      rw [List.append_nil]
      have g2 : LG K (p + 2) := ⟨by omega, fun a b => by omega, fun _ => ⟨by omega, by show 18 ≤ K (p + 1); omega, Or.inr ⟨e1, by omega, by show 18 ≤ K p; omega, by show K p ≤ 23; omega, h21⟩⟩⟩
      exact fin _ (by omega) b2 (fun _ => ⟨by omega, e2⟩) (fun j a b => (by omega : j = p ∨ j = p + 1 ∨ j = p + 2).elim (fun z => by rw [z]; exact g0 (fun _ => e2)) (fun z => z.elim (fun z => by rw [z]; exact g1) (fun z => by rw [z]; exact g2)))
theorem GV.dn (hn : 46 ≤ K n) {b : Bool} {c c' : Int32 → Prop} {dv : Nat → Rs} {k k' p : Nat} (hp : p ≤ n) (hv : b = true → GV K n c dv) (hk : k < 46) (hk' : 16 ≤ k ∧ k ≠ 44 ∧ ¬ (18 ≤ k ∧ k ≤ 23)) (hu : k' = 48 ∨ k' = 24) (hc : ∀ a, c a → c' (if k' = 48 then -a else 1 - a)) : Ok n (VL K n c' p) p (sq (sq (gDp K b k p) dv) (gAd k' 0)) := by
  refine Ok.bind (P := fun p' l => VL K n c (p + 1) p' l ∧ K p = k) ?_ ?_
  · refine Ok.bind (Ok.dp hn hk hp) ?_
    rintro p1 l1 ⟨rfl, rfl, e, hb⟩ _ h2
    exact (hv hb (p + 1) h2).imp (fun p2 l2 _ _ z => by rw [List.nil_append]; exact ⟨z, e⟩)
  · rintro p1 l1 ⟨h1, e⟩ _ h2
    exact Ok.yes (Nat.le_refl _) h2 ⟨by have := h1.1; omega, h1.2.1.ad (by omega) (hu.elim Or.inl (fun z => Or.inr (Or.inl z))), h1.2.2.un hu hc⟩
theorem GV.in (hn : 46 ≤ K n) {b : Bool} {c : Int32 → Prop} {ds : Nat → Rs} {k k' p : Nat} (hp : p ≤ n) (hv : b = true → GV K n c ds) (hk : k < 46) (hk' : 16 ≤ k ∧ k ≠ 44 ∧ ¬ (18 ≤ k ∧ k ≤ 23)) (hc : k' < 46) (hc' : 16 ≤ k' ∧ k' ≠ 44 ∧ ¬ (18 ≤ k' ∧ k' ≤ 23)) : Ok n (VL K n c p) p (sq (sq (gDp K b k p) ds) (gTk K k')) := by
  refine Ok.bind (P := fun p' l => VL K n c (p + 1) p' l ∧ K p = k ∧ p < n) ?_ ?_
  · refine Ok.bind (Ok.dp hn hk hp) ?_
    rintro p1 l1 ⟨rfl, rfl, e, hb⟩ _ h2
    exact (hv hb (p + 1) h2).imp (fun p2 l2 _ _ z => by rw [List.nil_append]; exact ⟨z, e, h2⟩)
  · rintro p1 l1 ⟨h1, e, h3⟩ _ h2
    refine (Ok.tk hn hc h2).imp ?_
    rintro p2 l2 _ h4 ⟨rfl, rfl, e2⟩
    rw [List.append_nil]
    have g1 := (GD.tk h3 (show 16 ≤ K p ∧ K p ≠ 44 ∧ ¬ (18 ≤ K p ∧ K p ≤ 23) by omega)).app h1.2.1
    have g2 := g1.app (GD.tk h4 (show 16 ≤ K p1 ∧ K p1 ≠ 44 ∧ ¬ (18 ≤ K p1 ∧ K p1 ≤ 23) by omega))
    rw [List.nil_append, List.append_nil] at g2
    exact ⟨by have := h1.1; omega, g2, h1.2.2⟩
theorem GV.vF (hn : 46 ≤ K n) {b : Bool} {dv ds : Nat → Rs} (hv : b = true → GV K n isAny dv) (hs : b = true → GV K n isAny ds) : GV K n isAny (valF K b dv ds) := by
  intro p hp
  have lt : K p < 46 → p < n := fun h => by
    rcases Nat.eq_or_lt_of_le hp with z | z
    · rw [z] at h; omega
    · exact z
  unfold valF
  by_cases h1 : K p = 45 ∨ K p = 17
  · rw [if_pos h1]
    have pn := lt (by omega)
    refine Ok.bind (P := fun p' l => p' = p ∧ l = [(K p, p + 1)]) (Ok.yes (Nat.le_refl _) hp ⟨rfl, rfl⟩) ?_
    rintro p1 l1 ⟨rfl, rfl⟩ _ _
    refine (Ok.tk hn (by omega) hp).imp ?_
    rintro p2 l2 _ b2 ⟨rfl, rfl, _⟩
    rw [List.append_nil]
    refine ⟨Nat.lt_succ_self _, ⟨Nat.le_succ _, b2, ?_, ?_, fun _ => by omega, fun o ho => ?_, fun j a b => LG.s (by omega) (show j = p1 by omega)⟩, SHV.leaf (h1.elim Or.inl (fun z => Or.inr (Or.inl z))) (fun _ _ _ _ _ _ => trivial) (fun _ _ => trivial)⟩
    · show p1 + ((1 + opN (K p1, p1 + 1)) + 0) ≤ p1 + 1
      unfold opN
      rw [if_neg (by show K p1 ≠ 21; omega), if_neg (by show ¬ (18 ≤ K p1 ∧ K p1 ≤ 23); omega)]
      omega
    · show 2 * p1 + (wdR (K p1, p1 + 1) + 0) ≤ 2 * (p1 + 1)
      have : wdR (K p1, p1 + 1) ≤ 2 := by
        unfold wdR
        split
        · omega
        · split
          · omega
          · split
            · rename_i z; have z' : 18 ≤ K p1 ∧ K p1 ≤ 23 := z; omega
            · omega
      omega
    · rw [List.mem_singleton.mp ho]
      refine Or.inr ⟨Nat.succ_pos _, ?_, rfl, by show p1 < p1 + 1; omega, Nat.le_refl _, fun _ z => absurd z (Nat.lt_irrefl _), fun z y => ?_⟩
      · show K p1 ∈ opsR
        rcases h1 with z | z <;> rw [z] <;> unfold opsR <;> decide
      · have z' : 18 ≤ K p1 := z
        have y' : K p1 ≤ 23 := y
        omega
  · rw [if_neg h1]
    by_cases h2 : 18 ≤ K p ∧ K p ≤ 21
    · rw [if_pos h2]; exact GV.br hn hp (by omega) (fun _ _ _ _ => trivial)
    · rw [if_neg h2]
      by_cases h3 : K p = 36
      · rw [if_pos h3]; exact GV.dn hn hp hv (by decide) (by decide) (Or.inl rfl) (fun _ _ => trivial)
      · rw [if_neg h3]
        by_cases h4 : K p = 29
        · rw [if_pos h4]; exact GV.in hn hp hs (by decide) (by decide) (by decide) (by decide)
        · rw [if_neg h4]
          by_cases h5 : K p = 27 ∨ K p = 28
          · rw [if_pos h5]
            have hb : isBin (K p) := by rcases h5 with z | z <;> rw [z] <;> unfold isBin <;> decide
            have pn := lt (by omega)
            refine Ok.bind (P := fun p' l => p < p' ∧ ∃ l1 l2, l = l1 ++ l2 ∧ SHV isAny l1 ∧ SHV isAny l2 ∧ GD K n (p + 1) p' l) ?_ ?_
            · refine Ok.bind (Ok.tk hn (by omega) hp) ?_
              rintro p1 l1 ⟨rfl, rfl, _⟩ _ b1
              unfold prF
              refine Ok.bind (P := fun p' l => p < p' ∧ ∃ l1 l2, l = l1 ++ l2 ∧ SHV isAny l1 ∧ SHV isAny l2 ∧ GD K n (p + 1) p' l) ?_ ?_
              · refine Ok.bind (P := fun p' l => p < p' ∧ SHV isAny l ∧ GD K n (p + 1) p' l ∧ b = true) ?_ ?_
                · refine Ok.bind (P := fun p' l => p < p' ∧ SHV isAny l ∧ GD K n (p + 1) p' l ∧ b = true) ?_ ?_
                  · refine Ok.bind (Ok.dp hn (by decide) b1) ?_
                    rintro p2 l2 ⟨rfl, rfl, e2, hb2⟩ _ b2
                    refine (hs hb2 (p + 1 + 1) b2).imp (fun p3 l3 _ _ z => ?_)
                    rw [List.nil_append]
                    have g := (GD.tk b2 (show 16 ≤ K (p + 1) ∧ K (p + 1) ≠ 44 ∧ ¬ (18 ≤ K (p + 1) ∧ K (p + 1) ≤ 23) by omega)).app z.2.1
                    rw [List.nil_append] at g
                    exact ⟨by have := z.1; omega, z.2.2, g, hb2⟩
                  · rintro p2 l2 ⟨e0, e1, e2, e3⟩ _ b2
                    refine (Ok.tk hn (by decide) b2).imp ?_
                    rintro p3 l3 _ b3 ⟨rfl, rfl, e4⟩
                    have g := e2.app (GD.tk b3 (show 16 ≤ K p2 ∧ K p2 ≠ 44 ∧ ¬ (18 ≤ K p2 ∧ K p2 ≤ 23) by omega))
                    rw [List.append_nil] at g ⊢
                    exact ⟨by omega, e1, g, e3⟩
                · rintro p2 l2 ⟨e0, e1, e2, e3⟩ _ b2
                  refine (hs e3 p2 b2).imp (fun p3 l3 _ _ z => ?_)
                  exact ⟨by have := z.1; omega, l2, l3, rfl, e1, z.2.2, e2.app z.2.1⟩
              · rintro p2 l2 ⟨e0, l3, l4, rfl, e1, e2, e3⟩ _ b2
                refine (Ok.tk hn (by decide) b2).imp ?_
                rintro p3 l5 _ b3 ⟨rfl, rfl, e4⟩
                have g := e3.app (GD.tk b3 (show 16 ≤ K p2 ∧ K p2 ≠ 44 ∧ ¬ (18 ≤ K p2 ∧ K p2 ≤ 23) by omega))
                rw [List.append_nil] at g ⊢
                exact ⟨by omega, l3, l4, rfl, e1, e2, g⟩
            · rintro p2 l2 ⟨e0, l3, l4, rfl, e1, e2, e3⟩ _ b2
              refine Ok.yes (Nat.le_refl _) b2 ⟨e0, e3.ad (by omega) (Or.inr (Or.inr hb)), ?_⟩
              rw [List.append_assoc]
              exact e1.bin e2 hb (fun _ _ _ _ => trivial)
          · rw [if_neg h5]; exact Ok.no hp
theorem GV.val (hn : 46 ≤ K n) : ∀ e, GV K n isAny (gVal K e)
  | 0 => GV.vF hn (fun z => by cases z) (fun z => by cases z)
  | e + 1 => GV.vF hn (fun _ => GV.val hn e) (fun _ => GV.sum hn (GV.val hn e))
theorem cmp01 (k : Nat) (hk : 39 ≤ k ∧ k ≤ 43) (a b : Int32) : is01 (jn k a b) := by
  unfold jn
  rw [if_neg (by omega), if_neg (by omega), if_neg (by omega), if_neg (by omega), if_neg (by omega), if_neg (by omega), if_neg (by omega), if_neg (by omega)]
  have : ∀ q : Prop, is01 (bI q) := fun q => by
    by_cases h : q
    · exact Or.inr (bI_t h)
    · exact Or.inl (bI_f h)
  split
  · exact this _
  · split
    · exact this _
    · split
      · exact this _
      · split <;> exact this _
theorem GV.nF (hn : 46 ≤ K n) {b : Bool} {dn dt s : Nat → Rs} (hd1 : b = true → GV K n is01 dn) (hd2 : b = true → GV K n is01 dt) (hs : GV K n isAny s) : GV K n is01 (sngF K b dn dt s) := by
  intro p hp
  unfold sngF
  by_cases h1 : K p = 24
  · rw [if_pos h1]
    refine GV.dn hn hp hd1 (by decide) (by decide) (Or.inr rfl) (fun a ha => ?_)
    rcases ha with rfl | rfl <;> unfold is01 <;> decide
  · rw [if_neg h1]
    by_cases h2 : K p = 31
    · rw [if_pos h2]; exact GV.in hn hp hd2 (by decide) (by decide) (by decide) (by decide)
    · rw [if_neg h2]
      by_cases h3 : K p = 22 ∨ K p = 23
      · rw [if_pos h3]
        refine GV.br hn hp (by omega) (fun T D a b => ?_)
        unfold ansX
        rw [if_neg (by omega), if_neg (by omega), if_neg (by omega), if_neg (by omega), if_neg (by omega)]
        have : ∀ q : Prop, is01 (bI q) := fun q => by
          by_cases h : q
          · exact Or.inr (bI_t h)
          · exact Or.inl (bI_f h)
        split <;> exact this _
      · rw [if_neg h3]
        refine Ok.bind (hs p hp) (fun p1 l1 h4 a b => ?_)
        unfold cpF
        refine Ok.bind (P := fun p' l => VL K n isAny (p1 + 1) p' l ∧ 39 ≤ K p1 ∧ K p1 ≤ 43) ?_ ?_
        · refine Ok.bind (P := fun p' l => p' = p1 + 1 ∧ l = [] ∧ 39 ≤ K p1 ∧ K p1 ≤ 43) ?_ ?_
          · unfold cmF
            split
            · rename_i h5
              refine (Ok.tk hn (by omega) b).imp ?_
              rintro p2 l2 _ b2 ⟨rfl, rfl, _⟩
              exact ⟨rfl, rfl, h5⟩
            · exact Ok.no b
          · rintro p2 l2 ⟨rfl, rfl, h5⟩ _ b2
            exact (hs _ b2).imp (fun p3 l3 _ _ z => by rw [List.nil_append]; exact ⟨z, h5⟩)
        · rintro p2 l2 ⟨h5, h6⟩ _ b2
          have hb : isBin (K p1) := by
            unfold isBin
            rcases (by omega : K p1 = 39 ∨ K p1 = 40 ∨ K p1 = 41 ∨ K p1 = 42 ∨ K p1 = 43) with z | z | z | z | z <;> rw [z] <;> decide
          refine Ok.yes (Nat.le_refl _) b2 ⟨by have := h4.1; have := h5.1; omega, h4.2.1.app (h5.2.1.ad (by omega) (Or.inr (Or.inr hb))), h4.2.2.bin h5.2.2 hb (fun a b _ _ => cmp01 _ h6 a b)⟩
theorem GV.sng (hn : 46 ≤ K n) : ∀ e, GV K n is01 (gSng K e)
  | 0 => GV.nF hn (fun z => by cases z) (fun z => by cases z) (GV.sum hn (GV.val hn 0))
  | e + 1 => GV.nF hn (fun _ => GV.sng hn e) (fun _ => GV.tes hn (GV.sng hn e)) (GV.sum hn (GV.val hn (e + 1)))
theorem GV.gSum (hn : 46 ≤ K n) (e : Nat) : GV K n isAny (gSum K e) := GV.sum hn (GV.val hn e)
theorem GV.gTes (hn : 46 ≤ K n) (e : Nat) : GV K n is01 (gTes K e) := GV.tes hn (GV.sng hn e)
/-! nothing goes on at a wrong token -/
theorem sq_f {p : Nat} {r : Rs} {f : Nat → Rs} (h : r = (p, none)) : sq r f = (p, none) := by rw [h]; rfl
theorem tk_f {k p : Nat} (h : K p ≠ k) : gTk K k p = (p, none) := if_neg h
theorem val_f {p : Nat} (h : K p = 47) : ∀ e, gVal K e p = (p, none)
  | 0 => by unfold gVal valF; rw [h]; rfl
  | e + 1 => by unfold gVal valF; rw [h]; rfl
theorem sum_f {p : Nat} (h : K p = 47) (e : Nat) : gSum K e p = (p, none) := sq_f (sq_f (val_f h e))
theorem sng_f {p : Nat} (h : K p = 47) : ∀ e, gSng K e p = (p, none)
  | 0 => by unfold gSng sngF; rw [h, if_neg (by decide), if_neg (by decide), if_neg (by decide)]; exact sq_f (sum_f h 0)
  | e + 1 => by unfold gSng sngF; rw [h, if_neg (by decide), if_neg (by decide), if_neg (by decide)]; exact sq_f (sum_f h (e + 1))
theorem tes_f {p : Nat} (h : K p = 47) (e : Nat) : gTes K e p = (p, none) := sq_f (sq_f (sng_f h e))
end GRS
