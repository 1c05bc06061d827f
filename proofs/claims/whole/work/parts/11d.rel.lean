/-! WHAT THE CLASS'S CELLS HOLD, told by the numbers of the reference: N is a row of 1957 numbers, nd its needs -/
/-- a need as it was read: 1 if it is of an option; atoms, each with a package and spans (kind, low, high) -/
abbrev ND : Type := Int × List (Int × List (Int × Int × Int))
/-- spans as the class has them: none is one that all meet -/
def nrm (l : List (Int × Int × Int)) : List (Int × Int × Int) := match l with
  | [] => [(0, 0, 0)]
  | _ => l
def sgn (k : Int) : Int := if k = 0 then 42 else if k = 1 then 61 else if k = 2 then 62 else if k = 3 then 60 else if k = 4 then 94 else if k = 5 then 126 else 46
def trl (c : Int) : Int := if c % 100 = 99 then -1 else c / 100
/-- whether a code meets a span -/
def smet (c : Int) (s : Int × Int × Int) : Bool :=
  let is : Bool := if s.1 = 0 then true else if s.1 = 1 then decide (c = s.2.1) else if s.1 = 2 then decide (s.2.1 ≤ c) else if s.1 = 3 then decide (c < s.2.1) else if s.1 = 4 then decide (s.2.1 ≤ c ∧ c / 10000 = s.2.1 / 10000) else if s.1 = 5 then decide (s.2.1 ≤ c ∧ c / 100 = s.2.1 / 100) else decide (s.2.1 ≤ c ∧ c ≤ s.2.2)
  is && (decide (c % 100 = 99) || decide (s.1 = 1) || (!decide (s.1 = 0) && ((!decide (s.2.1 % 100 = 99) && decide (c / 100 = s.2.1 / 100)) || (!decide (s.2.2 % 100 = 99) && decide (c / 100 = s.2.2 / 100)))))
def rmet (l : List (Int × Int × Int)) (c : Int) : Bool := (nrm l).any (smet c)
/-- whether a version (its package, its code) meets an atom -/
def amet (d : ND) (p c : Int) : Bool := d.2.any fun a => decide (a.1 = p) && rmet a.2 c
/-- the spans that hang together from a cell on -/
def SpanL (h : XH) : Nat → List (Int × Int × Int) → Prop
  | s, [] => s = 0
  | s, q :: l => hk h s = 11 ∧ hI h s 0 = sgn q.1 ∧ hI h s 1 = (if q.1 = 0 then 99 else q.2.1) ∧ hI h s 2 = (if q.1 = 0 then 99 else q.2.2) ∧ hI h s 3 = trl (if q.1 = 0 then 99 else q.2.1) ∧ hI h s 4 = trl (if q.1 = 0 then 99 else q.2.2) ∧ SpanL h (hR h s 5) l
def sOK (q : Int × Int × Int) : Prop := 0 ≤ q.1 ∧ q.1 ≤ 6 ∧ 0 ≤ q.2.1 ∧ q.2.1 < 1000000 ∧ 0 ≤ q.2.2 ∧ q.2.2 < 1000000
/-- the atoms that hang together from a cell on -/
def AtomL (h : XH) (w : Int) : Nat → List (Int × List (Int × Int × Int)) → Prop
  | s, [] => s = 0
  | s, a :: l => hk h s = 1 ∧ hI h s 0 = a.1 ∧ hI h s 1 = w ∧ SpanL h (hR h s 2) (nrm a.2) ∧ AtomL h w (hR h s 3) l
/-- needs that can be: their packages, spans within bounds -/
def ndOK (d : ND) : Prop := (d.1 = 0 ∨ d.1 = 1) ∧ ¬ d.2 = [] ∧ (d.1 = 1 → d.2.length = 1) ∧ (∀ a ∈ d.2, 0 ≤ a.1 ∧ a.1 < 12 ∧ ∀ q ∈ a.2, sOK q) ∧ d.2.length ≤ 200
def AtomR (h : XH) (a : Nat) (d : ND) : Prop := AtomL h d.1 a d.2
def SpanR (h : XH) (a : Nat) (d : ND) : Prop := SpanL h a (nrm (d.2.headD (0, [])).2)
/-- the number k of the version v -/
def nV (N : Nat → Int) (v k : Nat) : Int := N (5 + 20 * v + k)
def vc (N : Nat → Int) : Nat := (N 4).toNat
def pc (N : Nat → Int) : Nat := (N 0).toNat
/-- a set: as a long, as a row of numbers -/
def SetR (N : Nat → Int) (s : BitVec 64) (f : Nat → Int) : Prop :=
  (∀ v : Nat, v < 40 → (s.getLsbD v = true ↔ v < vc N ∧ (f (nV N v 0).toNat = nV N v 1 ∨ f (nV N v 0).toNat = nV N v 1 + 1000000))) ∧
  (∀ p : Nat, p < 12 → (s.getLsbD (40 + p) = true ↔ 1000000 ≤ f p)) ∧
  (∀ j : Nat, 52 ≤ j → s.getLsbD j = false) ∧
  (∀ p : Nat, p < 12 → f p = -1 ∨ ∃ v : Nat, v < vc N ∧ nV N v 0 = p ∧ (f p = nV N v 1 ∨ f p = nV N v 1 + 1000000))
/-- versions -/
def CSV (h : XH) (b : Nat) (N : Nat → Int) (nd : Nat → ND) : Prop :=
  hI h (b + 1) 0 = N 0 ∧ hI h (b + 1) 1 = N 4 ∧ ∀ v : Nat, v < vc N →
    hI h (b + 5) v = nV N v 0 ∧ hI h (b + 6) v = nV N v 1 ∧ hI h (b + 7) v = nV N v 2 ∧ hI h (b + 8) v = nV N v 3 ∧ hI h (b + 9) v = nV N v 4 ∧
    ((hL h (b + 1) 10).getLsbD v = true ↔ nV N v 5 = 1) ∧
    (nV N v 6 = 0 ∧ hR h (b + 18) v = 0 ∨ 0 < nV N v 6 ∧ AtomR h (hR h (b + 18) v) (nd (nV N v 6 - 1).toNat)) ∧
    hI h (b + 10) v = nV N v 7 ∧ (∀ k : Nat, k < 3 → (k : Int) < nV N v 7 → AtomR h (hR h (b + 11) (3 * v + k)) (nd (nV N v (8 + k)).toNat) ∧ hI h (b + 12) (3 * v + k) = b2i ((nV N v 11).toNat.testBit k)) ∧
    hI h (b + 13) v = nV N v 12 ∧ (∀ k : Nat, k < 2 → (k : Int) < nV N v 12 → AtomR h (hR h (b + 14) (2 * v + k)) (nd (nV N v (13 + k)).toNat)) ∧
    hI h (b + 15) v = nV N v 15 ∧ (∀ k : Nat, k < 2 → (k : Int) < nV N v 15 → hI h (b + 16) (2 * v + k) = nV N v (16 + 2 * k) ∧ hI h (b + 17) (2 * v + k) = nV N v (17 + 2 * k))
/-- packages -/
def CSP (h : XH) (b : Nat) (N : Nat → Int) : Prop :=
  ∀ p : Nat, p < pc N → 0 ≤ hI h (b + 2) p ∧ hI h (b + 2) p ≤ 8 ∧
    (∀ j : Nat, (hL h (b + 3) p).getLsbD j = true ↔ j < vc N ∧ nV N j 0 = p ∨ j = 40 + p) ∧
    (∀ i : Nat, (i : Int) < hI h (b + 2) p → ∃ v : Nat, v < vc N ∧ hI h (b + 4) (8 * p + i) = v ∧ nV N v 0 = p) ∧
    (∀ v : Nat, v < vc N → nV N v 0 = p → ∃ i : Nat, (i : Int) < hI h (b + 2) p ∧ hI h (b + 4) (8 * p + i) = v) ∧
    (∀ i j : Nat, i < j → (j : Int) < hI h (b + 2) p → nV N (hI h (b + 4) (8 * p + i)).toNat 1 < nV N (hI h (b + 4) (8 * p + j)).toNat 1)
/-- the number k of the root r -/
def nR (N : Nat → Int) (r k : Nat) : Int := N (805 + 291 * r + k)
def CSR (h : XH) (b : Nat) (N : Nat → Int) (nd : Nat → ND) (r : Nat) : Prop :=
  hI h (b + 19 + 4 * r) 0 = nR N r 0 ∧
  (∀ w : Nat, w < 8 → (w : Int) < nR N r 0 → nR N r (1 + w) = -1 ∧ hR h (b + 20 + 4 * r) w = 0 ∨ 0 ≤ nR N r (1 + w) ∧ AtomR h (hR h (b + 20 + 4 * r) w) (nd (nR N r (1 + w)).toNat)) ∧
  hI h (b + 19 + 4 * r) 2 = nR N r 9 ∧
  (∀ p : Nat, p < 12 → nR N r (10 + p) = 0 ∧ hR h (b + 21 + 4 * r) p = 0 ∨ 0 < nR N r (10 + p) ∧ SpanR h (hR h (b + 21 + 4 * r) p) (nd (nR N r (10 + p) - 1).toNat)) ∧
  hI h (b + 19 + 4 * r) 4 = nR N r 22 ∧
  SetR N (hL h (b + 19 + 4 * r) 5) (fun p => nR N r (35 + p)) ∧ SetR N (hL h (b + 19 + 4 * r) 6) (fun p => nR N r (23 + p)) ∧
  hI h (b + 19 + 4 * r) 7 = nR N r 47 ∧
  (∀ i : Nat, i < 20 → (i : Int) < nR N r 47 → SetR N (hL h (b + 22 + 4 * r) i) (fun p => nR N r (48 + 12 * i + p))) ∧
  hI h (b + 19 + 4 * r) 9 = nR N r 288 ∧ hI h (b + 19 + 4 * r) 10 = nR N r 289 ∧ hI h (b + 19 + 4 * r) 11 = nR N r 290
def CST (h : XH) (b : Nat) (N : Nat → Int) : Prop :=
  hI h b 4 = N 1 ∧ hI h b 6 = N 3 ∧ hI h b 7 = N 2 ∧
  (∀ l : Nat, l < 3 → SetR N (hL h (b + 31) l) (fun p => N (1678 + 12 * l + p))) ∧
  (∀ m : Nat, m < 3 → hI h (b + 32) m = N (1714 + 81 * m) ∧ (∀ v : Nat, v < 64 → ((hL h (b + 33) m).getLsbD v = true ↔ v < 40 ∧ N (1715 + 81 * m + 2 * v) = 1)) ∧ ∀ v : Nat, v < 40 → N (1715 + 81 * m + 2 * v) = 1 → hI h (b + 34) (40 * m + v) = N (1716 + 81 * m + 2 * v))
/-- the class's state at the cell b is that of the row N -/
def CS (h : XH) (b : Nat) (N : Nat → Int) (nd : Nat → ND) : Prop := CSV h b N nd ∧ CSP h b N ∧ (∀ r : Nat, r < 3 → CSR h b N nd r) ∧ CST h b N
/-- rows of numbers that can be; m: how many needs there are -/
def WV (N : Nat → Int) (m : Nat) : Prop :=
  0 ≤ N 0 ∧ N 0 ≤ 12 ∧ 0 ≤ N 4 ∧ N 4 ≤ 40 ∧
  (∀ v : Nat, v < vc N → 0 ≤ nV N v 0 ∧ nV N v 0 < N 0 ∧ 0 ≤ nV N v 1 ∧ nV N v 1 < 1000000 ∧ ¬ nV N v 1 % 100 = 0 ∧ 0 ≤ nV N v 2 ∧ 0 ≤ nV N v 3 ∧ nV N v 3 ≤ 1000 ∧ (nV N v 5 = 0 ∨ nV N v 5 = 1) ∧
    0 ≤ nV N v 6 ∧ nV N v 6 ≤ m ∧ 0 ≤ nV N v 7 ∧ nV N v 7 ≤ 3 ∧ (∀ k : Nat, k < 3 → (k : Int) < nV N v 7 → 0 ≤ nV N v (8 + k) ∧ nV N v (8 + k) < m) ∧ 0 ≤ nV N v 11 ∧ (nV N v 11 < 8 ∧ ∀ k : Nat, nV N v 7 ≤ k → (nV N v 11).toNat.testBit k = false) ∧
    0 ≤ nV N v 12 ∧ nV N v 12 ≤ 2 ∧ (∀ k : Nat, k < 2 → (k : Int) < nV N v 12 → 0 ≤ nV N v (13 + k) ∧ nV N v (13 + k) < m) ∧
    0 ≤ nV N v 15 ∧ nV N v 15 ≤ 2 ∧ (∀ k : Nat, k < 2 → (k : Int) < nV N v 15 → 0 ≤ nV N v (16 + 2 * k) ∧ nV N v (16 + 2 * k) < N 0 ∧ ¬ nV N v (16 + 2 * k) = nV N v 0 ∧ 0 ≤ nV N v (17 + 2 * k) ∧ nV N v (17 + 2 * k) < 1000000)) ∧
  (∀ v : Nat, vc N ≤ v → v < 40 → ∀ k : Nat, k < 20 → nV N v k = 0) ∧
  (∀ v w : Nat, v < vc N → w < vc N → nV N v 0 = nV N w 0 → nV N v 1 = nV N w 1 → v = w)
def WRt (N : Nat → Int) (m : Nat) (r : Nat) : Prop :=
  0 ≤ nR N r 0 ∧ nR N r 0 ≤ 8 ∧ (∀ w : Nat, w < 8 → (w : Int) < nR N r 0 → -1 ≤ nR N r (1 + w) ∧ nR N r (1 + w) < m) ∧
  0 ≤ nR N r 9 ∧ nR N r 9 < 4096 ∧ (∀ p : Nat, p < 12 → (nR N r 9).toNat.testBit p = true → (p : Int) < N 0) ∧
  (∀ p : Nat, p < 12 → 0 ≤ nR N r (10 + p) ∧ nR N r (10 + p) ≤ m ∧ (N 0 ≤ p → nR N r (10 + p) = 0)) ∧
  0 ≤ nR N r 22 ∧ nR N r 22 ≤ 40000 ∧ 0 ≤ nR N r 47 ∧ nR N r 47 ≤ 600
def WT (N : Nat → Int) : Prop :=
  0 ≤ N 1 ∧ N 1 ≤ 2 ∧ 0 ≤ N 2 ∧ N 2 ≤ 12000 ∧ 0 ≤ N 3 ∧ N 3 ≤ 3 ∧
  (∀ m : Nat, m < 3 → 0 ≤ N (1714 + 81 * m) ∧ N (1714 + 81 * m) ≤ 100000 ∧ ∀ v : Nat, v < 40 → (N (1715 + 81 * m + 2 * v) = 0 ∨ N (1715 + 81 * m + 2 * v) = 1) ∧ (vc N ≤ v → N (1715 + 81 * m + 2 * v) = 0))
def WF (N : Nat → Int) (m : Nat) : Prop := WV N m ∧ (∀ r : Nat, r < 3 → WRt N m r) ∧ WT N
/-- the reference's needs -/
def NeedR (h : XH) (q : Nat) (d : ND) : Prop :=
  hk h q = 14 ∧ hI h q 0 = d.1 ∧ ndOK d ∧ 468 ≤ q ∧ 468 ≤ hR h q 1 ∧ 468 ≤ hR h q 2 ∧ 468 ≤ hR h q 3 ∧
  ∃ bg : Nat → Nat, hk h (hR h q 1) = 100 ∧ hn h (hR h q 1) = d.2.length ∧ hk h (hR h q 2) = 100 ∧ hn h (hR h q 2) = d.2.length + 1 ∧ hk h (hR h q 3) = 100 ∧ hn h (hR h q 3) = 3 * bg d.2.length ∧ hn h (hR h q 3) ≤ 600 ∧
    bg 0 = 0 ∧ (∀ i : Nat, i ≤ d.2.length → hI h (hR h q 2) i = bg i) ∧
    (∀ i (hi : i < d.2.length), hI h (hR h q 1) i = (d.2[i]).1 ∧ bg (i + 1) = bg i + (d.2[i]).2.length ∧
      ∀ j (hj : j < (d.2[i]).2.length), hI h (hR h q 3) (3 * (bg i + j)) = ((d.2[i]).2[j]).1 ∧ hI h (hR h q 3) (3 * (bg i + j) + 1) = ((d.2[i]).2[j]).2.1 ∧ hI h (hR h q 3) (3 * (bg i + j) + 2) = ((d.2[i]).2[j]).2.2)
def NT (h : XH) (nd : Nat → ND) : Prop :=
  0 ≤ hI h 437 7 ∧ hI h 437 7 ≤ 512 ∧ hk h (hR h 437 6) = 106 ∧ hI h 437 7 ≤ hn h (hR h 437 6) ∧ 16 ≤ hn h (hR h 437 6) ∧ hn h (hR h 437 6) ≤ 1024 ∧ (hR h 437 6 = 440 ∨ 468 ≤ hR h 437 6) ∧
  ∀ i : Nat, (i : Int) < hI h 437 7 → NeedR h (hR h (hR h 437 6) i) (nd i)
/-- the reference's row at hand -/
def nw (h : XH) : Nat → Int := fun i => hI h 438 i
/-- the reference's row that was kept in the place k -/
def pst (h : XH) (k : Nat) : Nat → Int := fun i => if i < 1957 then hI h 439 (1957 * k + i) else 0
/-! the parts at hand -/
theorem V8 {h : XH} {N : Nat → Int} {nd : Nat → ND} (C : CSV h 8 N nd) {v : Nat} (hv : v < vc N) :
    hI h 13 v = nV N v 0 ∧ hI h 14 v = nV N v 1 ∧ hI h 15 v = nV N v 2 ∧ hI h 16 v = nV N v 3 ∧ hI h 17 v = nV N v 4 ∧
    ((hL h 9 10).getLsbD v = true ↔ nV N v 5 = 1) ∧
    (nV N v 6 = 0 ∧ hR h 26 v = 0 ∨ 0 < nV N v 6 ∧ AtomR h (hR h 26 v) (nd (nV N v 6 - 1).toNat)) ∧
    hI h 18 v = nV N v 7 ∧ (∀ k : Nat, k < 3 → (k : Int) < nV N v 7 → AtomR h (hR h 19 (3 * v + k)) (nd (nV N v (8 + k)).toNat) ∧ hI h 20 (3 * v + k) = b2i ((nV N v 11).toNat.testBit k)) ∧
    hI h 21 v = nV N v 12 ∧ (∀ k : Nat, k < 2 → (k : Int) < nV N v 12 → AtomR h (hR h 22 (2 * v + k)) (nd (nV N v (13 + k)).toNat)) ∧
    hI h 23 v = nV N v 15 ∧ (∀ k : Nat, k < 2 → (k : Int) < nV N v 15 → hI h 24 (2 * v + k) = nV N v (16 + 2 * k) ∧ hI h 25 (2 * v + k) = nV N v (17 + 2 * k)) := C.2.2 v hv
theorem V80 {h : XH} {N : Nat → Int} {nd : Nat → ND} (C : CSV h 8 N nd) : hI h 9 0 = N 0 ∧ hI h 9 1 = N 4 := ⟨C.1, C.2.1⟩
theorem P8 {h : XH} {N : Nat → Int} (C : CSP h 8 N) {p : Nat} (hp : p < pc N) : 0 ≤ hI h 10 p ∧ hI h 10 p ≤ 8 ∧
    (∀ j : Nat, (hL h 11 p).getLsbD j = true ↔ j < vc N ∧ nV N j 0 = p ∨ j = 40 + p) ∧
    (∀ i : Nat, (i : Int) < hI h 10 p → ∃ v : Nat, v < vc N ∧ hI h 12 (8 * p + i) = v ∧ nV N v 0 = p) ∧
    (∀ v : Nat, v < vc N → nV N v 0 = p → ∃ i : Nat, (i : Int) < hI h 10 p ∧ hI h 12 (8 * p + i) = v) ∧
    (∀ i j : Nat, i < j → (j : Int) < hI h 10 p → nV N (hI h 12 (8 * p + i)).toNat 1 < nV N (hI h 12 (8 * p + j)).toNat 1) := C p hp
/-- the cell of a root of the state at hand -/
def rc (r : Nat) : Nat := 27 + 4 * r
theorem R8 {h : XH} {N : Nat → Int} {nd : Nat → ND} {r : Nat} (C : CSR h 8 N nd r) :
  hI h (rc r) 0 = nR N r 0 ∧
  (∀ w : Nat, w < 8 → (w : Int) < nR N r 0 → nR N r (1 + w) = -1 ∧ hR h (rc r + 1) w = 0 ∨ 0 ≤ nR N r (1 + w) ∧ AtomR h (hR h (rc r + 1) w) (nd (nR N r (1 + w)).toNat)) ∧
  hI h (rc r) 2 = nR N r 9 ∧
  (∀ p : Nat, p < 12 → nR N r (10 + p) = 0 ∧ hR h (rc r + 2) p = 0 ∨ 0 < nR N r (10 + p) ∧ SpanR h (hR h (rc r + 2) p) (nd (nR N r (10 + p) - 1).toNat)) ∧
  hI h (rc r) 4 = nR N r 22 ∧
  SetR N (hL h (rc r) 5) (fun p => nR N r (35 + p)) ∧ SetR N (hL h (rc r) 6) (fun p => nR N r (23 + p)) ∧
  hI h (rc r) 7 = nR N r 47 ∧
  (∀ i : Nat, i < 20 → (i : Int) < nR N r 47 → SetR N (hL h (rc r + 3) i) (fun p => nR N r (48 + 12 * i + p))) ∧
  hI h (rc r) 9 = nR N r 288 ∧ hI h (rc r) 10 = nR N r 289 ∧ hI h (rc r) 11 = nR N r 290 := by
  unfold CSR at C
  have e1 : 8 + 19 + 4 * r = rc r := by unfold rc; omega
  have e2 : 8 + 20 + 4 * r = rc r + 1 := by unfold rc; omega
  have e3 : 8 + 21 + 4 * r = rc r + 2 := by unfold rc; omega
  have e4 : 8 + 22 + 4 * r = rc r + 3 := by unfold rc; omega
  rw [e1, e2, e3, e4] at C
  exact C
/-- which version it is -/
def isSlot (N : Nat → Int) (p c r : Int) : Prop := (0 ≤ r ∧ r < N 4 ∧ nV N r.toNat 0 = p ∧ nV N r.toNat 1 = c) ∨ (r = -1 ∧ ∀ v : Nat, v < vc N → ¬ (nV N v 0 = p ∧ nV N v 1 = c))
theorem isSlot_u {N : Nat → Int} {m : Nat} (W : WV N m) {p c r s : Int} (a : isSlot N p c r) (b : isSlot N p c s) : r = s := by
  have U := W.2.2.2.2.2.2
  rcases a with ⟨a1, a2, a3, a4⟩ | ⟨a1, a2⟩ <;> rcases b with ⟨b1, b2, b3, b4⟩ | ⟨b1, b2⟩
  · have := U r.toNat s.toNat (by unfold vc; omega) (by unfold vc; omega) (a3.trans b3.symm) (a4.trans b4.symm)
    omega
  · exact absurd ⟨a3, a4⟩ (b2 r.toNat (by unfold vc; omega))
  · exact absurd ⟨b3, b4⟩ (a2 s.toNat (by unfold vc; omega))
  · omega
/-! texts in another heap -/
theorem SpanL_fr {h h1 : XH} (S : ∀ a, hk h a = 11 → sameC h h1 a) : ∀ (l : List (Int × Int × Int)) (s : Nat), SpanL h s l → SpanL h1 s l := by
  intro l
  induction l with
  | nil => intro s z; exact z
  | cons q l ih =>
    intro s z
    obtain ⟨z0, z1, z2, z3, z4, z5, z6⟩ := z
    have e := S s z0
    refine ⟨(sameC_k e).trans z0, (sameC_I e 0).trans z1, (sameC_I e 1).trans z2, (sameC_I e 2).trans z3, (sameC_I e 3).trans z4, (sameC_I e 4).trans z5, ?_⟩
    rw [sameC_R e]
    exact ih _ z6
theorem AtomL_fr {h h1 : XH} (S : ∀ a, hk h a = 1 ∨ hk h a = 11 → sameC h h1 a) (w : Int) : ∀ (l : List (Int × List (Int × Int × Int))) (s : Nat), AtomL h w s l → AtomL h1 w s l := by
  intro l
  induction l with
  | nil => intro s z; exact z
  | cons q l ih =>
    intro s z
    obtain ⟨z0, z1, z2, z3, z4⟩ := z
    have e := S s (.inl z0)
    refine ⟨(sameC_k e).trans z0, (sameC_I e 0).trans z1, (sameC_I e 1).trans z2, ?_, ?_⟩
    · rw [sameC_R e]
      exact SpanL_fr (fun a ha => S a (.inr ha)) _ _ z3
    · rw [sameC_R e]
      exact ih _ z4
theorem AtomR_fr {h h1 : XH} (S : ∀ a, hk h a = 1 ∨ hk h a = 11 → sameC h h1 a) {a : Nat} {d : ND} (z : AtomR h a d) : AtomR h1 a d := AtomL_fr S _ _ _ z
theorem SpanR_fr {h h1 : XH} (S : ∀ a, hk h a = 1 ∨ hk h a = 11 → sameC h h1 a) {a : Nat} {d : ND} (z : SpanR h a d) : SpanR h1 a d := SpanL_fr (fun a ha => S a (.inr ha)) _ _ z
/-- which places of a state's block are its numbers and rows -/
def FDr (j i : Nat) : Prop := (j = 0 ∧ i < 12 ∧ ¬ i = 1 ∧ ¬ i = 3 ∧ ¬ i = 8) ∨ (j = 1 ∧ i < 8) ∨ (j = 2 ∧ i < 12) ∨ (j = 3 ∧ i < 20)
def FDs (j i : Nat) : Prop := (j = 0 ∧ (i = 0 ∨ i = 1 ∨ i = 10)) ∨ (j = 1 ∧ i < 12) ∨ (j = 2 ∧ i < 12) ∨ (j = 3 ∧ i < 96) ∨ (4 ≤ j ∧ j < 10 ∧ i < 40) ∨ ((j = 12 ∨ j = 14) ∧ i < 40) ∨ ((j = 15 ∨ j = 16) ∧ i < 80) ∨ ((j = 10 ∨ j = 11) ∧ i < 120) ∨ (j = 13 ∧ i < 80) ∨ (j = 17 ∧ i < 40)
def FD (j i : Nat) : Prop := (j = 0 ∧ (i = 4 ∨ i = 6 ∨ i = 7)) ∨ (1 ≤ j ∧ j < 19 ∧ FDs (j - 1) i) ∨ (19 ≤ j ∧ j < 23 ∧ FDr (j - 19) i) ∨ (23 ≤ j ∧ j < 27 ∧ FDr (j - 23) i) ∨ (27 ≤ j ∧ j < 31 ∧ FDr (j - 27) i) ∨ (31 ≤ j ∧ j < 34 ∧ i < 3) ∨ (j = 34 ∧ i < 120)
/-! a state told of one block holds of another one with the same numbers and rows -/
theorem CSV_cp {h h1 : XH} {b t : Nat} {N : Nat → Int} {nd : Nat → ND} (c : ∀ j i, 1 ≤ j → j < 19 → FDs (j - 1) i → el h1 (t + j) i = el h (b + j) i) (S : ∀ a, hk h a = 1 ∨ hk h a = 11 → sameC h h1 a) (hW : 0 ≤ N 0 ∧ N 0 ≤ 12 ∧ 0 ≤ N 4 ∧ N 4 ≤ 40) (zV : CSV h b N nd) : CSV h1 t N nd := by
  have cI : ∀ j i, 1 ≤ j → j < 19 → FDs (j - 1) i → hI h1 (t + j) i = hI h (b + j) i := fun j i w x y => congrArg gvI (c j i w x y)
  have cL : ∀ j i, 1 ≤ j → j < 19 → FDs (j - 1) i → hL h1 (t + j) i = hL h (b + j) i := fun j i w x y => congrArg gvL (c j i w x y)
  have cR : ∀ j i, 1 ≤ j → j < 19 → FDs (j - 1) i → hR h1 (t + j) i = hR h (b + j) i := fun j i w x y => congrArg gvR (c j i w x y)
  refine ⟨?_, ?_, fun v hv => ?_⟩
  · rw [cI 1 0 (by omega) (by omega) (by unfold FDs; omega)]; exact zV.1
  · rw [cI 1 1 (by omega) (by omega) (by unfold FDs; omega)]; exact zV.2.1
  · have h40 : v < 40 := by unfold vc at hv; omega
    obtain ⟨a1, a2, a3, a4, a5, a6, a7, a8, a9, a10, a11, a12, a13⟩ := zV.2.2 v hv
    refine ⟨?_, ?_, ?_, ?_, ?_, ?_, ?_, ?_, fun k hk3 hk => ?_, ?_, fun k hk2 hk => ?_, ?_, fun k hk2 hk => ?_⟩
    · rw [cI 5 v (by omega) (by omega) (by unfold FDs; omega)]; exact a1
    · rw [cI 6 v (by omega) (by omega) (by unfold FDs; omega)]; exact a2
    · rw [cI 7 v (by omega) (by omega) (by unfold FDs; omega)]; exact a3
    · rw [cI 8 v (by omega) (by omega) (by unfold FDs; omega)]; exact a4
    · rw [cI 9 v (by omega) (by omega) (by unfold FDs; omega)]; exact a5
    · rw [cL 1 10 (by omega) (by omega) (by unfold FDs; omega)]; exact a6
    · rw [cR 18 v (by omega) (by omega) (by unfold FDs; omega)]
      exact a7.imp_right fun y => ⟨y.1, AtomR_fr S y.2⟩
    · rw [cI 10 v (by omega) (by omega) (by unfold FDs; omega)]; exact a8
    · rw [cR 11 (3 * v + k) (by omega) (by omega) (by unfold FDs; omega), cI 12 (3 * v + k) (by omega) (by omega) (by unfold FDs; omega)]
      exact ⟨AtomR_fr S (a9 k hk3 hk).1, (a9 k hk3 hk).2⟩
    · rw [cI 13 v (by omega) (by omega) (by unfold FDs; omega)]; exact a10
    · rw [cR 14 (2 * v + k) (by omega) (by omega) (by unfold FDs; omega)]
      exact AtomR_fr S (a11 k hk2 hk)
    · rw [cI 15 v (by omega) (by omega) (by unfold FDs; omega)]; exact a12
    · rw [cI 16 (2 * v + k) (by omega) (by omega) (by unfold FDs; omega), cI 17 (2 * v + k) (by omega) (by omega) (by unfold FDs; omega)]
      exact a13 k hk2 hk
theorem CSP_cp {h h1 : XH} {b t : Nat} {N : Nat → Int} (c : ∀ j i, 1 ≤ j → j < 19 → FDs (j - 1) i → el h1 (t + j) i = el h (b + j) i) (hW : 0 ≤ N 0 ∧ N 0 ≤ 12 ∧ 0 ≤ N 4 ∧ N 4 ≤ 40) (zP : CSP h b N) : CSP h1 t N := by
  have cI : ∀ j i, 1 ≤ j → j < 19 → FDs (j - 1) i → hI h1 (t + j) i = hI h (b + j) i := fun j i w x y => congrArg gvI (c j i w x y)
  have cL : ∀ j i, 1 ≤ j → j < 19 → FDs (j - 1) i → hL h1 (t + j) i = hL h (b + j) i := fun j i w x y => congrArg gvL (c j i w x y)
  have cR : ∀ j i, 1 ≤ j → j < 19 → FDs (j - 1) i → hR h1 (t + j) i = hR h (b + j) i := fun j i w x y => congrArg gvR (c j i w x y)
  intro p hp
  have h12 : p < 12 := by unfold pc at hp; omega
  obtain ⟨a1, a2, a3, a4, a5, a6⟩ := zP p hp
  have e2 := cI 2 p (by omega) (by omega) (by unfold FDs; omega)
  have e4 : ∀ i : Nat, (i : Int) < hI h (b + 2) p → hI h1 (t + 4) (8 * p + i) = hI h (b + 4) (8 * p + i) := fun i hi => cI 4 _ (by omega) (by omega) (by unfold FDs; omega)
  rw [e2]
  refine ⟨a1, a2, ?_, fun i hi => ?_, fun v hv e => ?_, fun i j hij hj => ?_⟩
  · rw [cL 3 p (by omega) (by omega) (by unfold FDs; omega)]; exact a3
  · rw [e4 i hi]; exact a4 i hi
  · obtain ⟨i, q1, q2⟩ := a5 v hv e
    exact ⟨i, q1, by rw [e4 i q1]; exact q2⟩
  · rw [e4 i (by omega), e4 j hj]; exact a6 i j hij hj
theorem CSR_cp {h h1 : XH} {b t : Nat} {N : Nat → Int} {nd : Nat → ND} {r : Nat} (c : ∀ j i, j < 4 → FDr j i → el h1 (t + 19 + 4 * r + j) i = el h (b + 19 + 4 * r + j) i) (S : ∀ a, hk h a = 1 ∨ hk h a = 11 → sameC h h1 a) (z : CSR h b N nd r) : CSR h1 t N nd r := by
  have rI : ∀ i, FDr 0 i → hI h1 (t + 19 + 4 * r) i = hI h (b + 19 + 4 * r) i := fun i x => congrArg gvI (c 0 i (by omega) x)
  have rL : ∀ i, FDr 0 i → hL h1 (t + 19 + 4 * r) i = hL h (b + 19 + 4 * r) i := fun i x => congrArg gvL (c 0 i (by omega) x)
  have r1 : ∀ i, i < 8 → hR h1 (t + 20 + 4 * r) i = hR h (b + 20 + 4 * r) i := fun i x => by
    have := congrArg gvR (c 1 i (by omega) (by unfold FDr; omega))
    rw [show t + 19 + 4 * r + 1 = t + 20 + 4 * r by omega, show b + 19 + 4 * r + 1 = b + 20 + 4 * r by omega] at this
    exact this
  have r2 : ∀ i, i < 12 → hR h1 (t + 21 + 4 * r) i = hR h (b + 21 + 4 * r) i := fun i x => by
    have := congrArg gvR (c 2 i (by omega) (by unfold FDr; omega))
    rw [show t + 19 + 4 * r + 2 = t + 21 + 4 * r by omega, show b + 19 + 4 * r + 2 = b + 21 + 4 * r by omega] at this
    exact this
  have r3 : ∀ i, i < 20 → hL h1 (t + 22 + 4 * r) i = hL h (b + 22 + 4 * r) i := fun i x => by
    have := congrArg gvL (c 3 i (by omega) (by unfold FDr; omega))
    rw [show t + 19 + 4 * r + 3 = t + 22 + 4 * r by omega, show b + 19 + 4 * r + 3 = b + 22 + 4 * r by omega] at this
    exact this
  obtain ⟨a1, a2, a3, a4, a5, a6, a7, a8, a9, a10, a11, a12⟩ := z
  refine ⟨?_, fun w hw8 hw => ?_, ?_, fun p hp => ?_, ?_, ?_, ?_, ?_, fun i hi hq => ?_, ?_, ?_, ?_⟩
  · rw [rI 0 (by unfold FDr; omega)]; exact a1
  · rw [r1 w hw8]; exact (a2 w hw8 hw).imp_right fun y => ⟨y.1, AtomR_fr S y.2⟩
  · rw [rI 2 (by unfold FDr; omega)]; exact a3
  · rw [r2 p hp]; exact (a4 p hp).imp_right fun y => ⟨y.1, SpanR_fr S y.2⟩
  · rw [rI 4 (by unfold FDr; omega)]; exact a5
  · rw [rL 5 (by unfold FDr; omega)]; exact a6
  · rw [rL 6 (by unfold FDr; omega)]; exact a7
  · rw [rI 7 (by unfold FDr; omega)]; exact a8
  · rw [r3 i hi]; exact a9 i hi hq
  · rw [rI 9 (by unfold FDr; omega)]; exact a10
  · rw [rI 10 (by unfold FDr; omega)]; exact a11
  · rw [rI 11 (by unfold FDr; omega)]; exact a12
theorem CST_cp {h h1 : XH} {b t : Nat} {N : Nat → Int} (c : ∀ j i, j = 0 ∨ 31 ≤ j ∧ j < 35 → FD j i → el h1 (t + j) i = el h (b + j) i) (zT : CST h b N) : CST h1 t N := by
  have cI : ∀ j i, j = 0 ∨ 31 ≤ j ∧ j < 35 → FD j i → hI h1 (t + j) i = hI h (b + j) i := fun j i x y => congrArg gvI (c j i x y)
  have cL : ∀ j i, j = 0 ∨ 31 ≤ j ∧ j < 35 → FD j i → hL h1 (t + j) i = hL h (b + j) i := fun j i x y => congrArg gvL (c j i x y)
  obtain ⟨a1, a2, a3, a4, a5⟩ := zT
  have g0 : ∀ i : Nat, i = 4 ∨ i = 6 ∨ i = 7 → hI h1 t i = hI h b i := fun i x => cI 0 i (by omega) (.inl ⟨rfl, x⟩)
  refine ⟨(g0 4 (by omega)).trans a1, (g0 6 (by omega)).trans a2, (g0 7 (by omega)).trans a3, fun l hl => ?_, fun m hm => ?_⟩
  · rw [cL 31 l (by omega) (by unfold FD; omega)]; exact a4 l hl
  · obtain ⟨q1, q2, q3⟩ := a5 m hm
    refine ⟨?_, ?_, fun v hv x => ?_⟩
    · rw [cI 32 m (by omega) (by unfold FD; omega)]; exact q1
    · rw [cL 33 m (by omega) (by unfold FD; omega)]; exact q2
    · rw [cI 34 _ (by omega) (by unfold FD; omega)]; exact q3 v hv x
theorem CS_copy {h h1 : XH} {b t : Nat} {N : Nat → Int} {nd : Nat → ND} (c : ∀ j i, j < 35 → FD j i → el h1 (t + j) i = el h (b + j) i) (S : ∀ a, hk h a = 1 ∨ hk h a = 11 → sameC h h1 a) (hW : 0 ≤ N 0 ∧ N 0 ≤ 12 ∧ 0 ≤ N 4 ∧ N 4 ≤ 40) (z : CS h b N nd) : CS h1 t N nd := by
  have fs : ∀ j i, 1 ≤ j → j < 19 → FDs (j - 1) i → el h1 (t + j) i = el h (b + j) i := fun j i w x y => c j i (by omega) (.inr (.inl ⟨w, x, y⟩))
  refine ⟨CSV_cp fs S hW z.1, CSP_cp fs hW z.2.1, fun r hr => CSR_cp (fun j i x y => ?_) S (z.2.2.1 r hr), CST_cp (fun j i x y => c j i (by omega) y) z.2.2.2⟩
  have e := c (19 + 4 * r + j) i (by omega) (by
    have : r = 0 ∨ r = 1 ∨ r = 2 := by omega
    rcases this with rfl | rfl | rfl
    · exact .inr (.inr (.inl ⟨by omega, by omega, by rw [show 19 + 4 * 0 + j - 19 = j by omega]; exact y⟩))
    · exact .inr (.inr (.inr (.inl ⟨by omega, by omega, by rw [show 19 + 4 * 1 + j - 23 = j by omega]; exact y⟩)))
    · exact .inr (.inr (.inr (.inr (.inl ⟨by omega, by omega, by rw [show 19 + 4 * 2 + j - 27 = j by omega]; exact y⟩)))))
  rw [show t + (19 + 4 * r + j) = t + 19 + 4 * r + j by omega, show b + (19 + 4 * r + j) = b + 19 + 4 * r + j by omega] at e
  exact e
/-! a state told of one row holds of another one with the same numbers -/
def VE (N M : Nat → Int) : Prop := ∀ i, i < 805 → ¬ (1 ≤ i ∧ i ≤ 3) → M i = N i
theorem VE_v {N M : Nat → Int} (E : VE N M) {v k : Nat} (hv : v < 40) (hk : k < 20) : nV M v k = nV N v k := E _ (by omega) (by omega)
theorem VE_c {N M : Nat → Int} (E : VE N M) : vc M = vc N := by unfold vc; rw [E 4 (by omega) (by omega)]
theorem VE_p {N M : Nat → Int} (E : VE N M) : pc M = pc N := by unfold pc; rw [E 0 (by omega) (by omega)]
/-- the same but for the number of packages -/
def VF (N M : Nat → Int) : Prop := ∀ i, 4 ≤ i → i < 805 → M i = N i
theorem VE_F {N M : Nat → Int} (E : VE N M) : VF N M := fun i a b => E i b (by omega)
theorem VF_v {N M : Nat → Int} (E : VF N M) {v k : Nat} (hv : v < 40) (hk : k < 20) : nV M v k = nV N v k := E _ (by omega) (by omega)
theorem VF_c {N M : Nat → Int} (E : VF N M) : vc M = vc N := by unfold vc; rw [E 4 (by omega) (by omega)]
theorem SetR_vf {N M : Nat → Int} (E : VF N M) (hW : N 4 ≤ 40) {s : BitVec 64} {f g : Nat → Int} (e : ∀ p, p < 12 → g p = f p) (hp : ∀ v, v < vc N → 0 ≤ nV N v 0 ∧ nV N v 0 < 12) (z : SetR N s f) : SetR M s g := by
  obtain ⟨z1, z2, z3, z4⟩ := z
  have h40 : ∀ v, v < vc N → v < 40 := fun v hv => by unfold vc at hv; omega
  refine ⟨fun v hv => ?_, fun p hp => by rw [e p hp]; exact z2 p hp, z3, fun p hp => ?_⟩
  · rw [VF_c E, z1 v hv]
    constructor
    · intro ⟨a, b⟩
      have := hp v a
      rw [VF_v E hv (by omega), VF_v E hv (by omega), e _ (by omega)]
      exact ⟨a, b⟩
    · intro ⟨a, b⟩
      have := hp v a
      rw [VF_v E hv (by omega), VF_v E hv (by omega), e _ (by omega)] at b
      exact ⟨a, b⟩
  · rw [e p hp, VF_c E]
    refine (z4 p hp).imp_right fun ⟨v, a, b, d⟩ => ⟨v, a, ?_, ?_⟩
    · rw [VF_v E (h40 v a) (by omega)]; exact b
    · rw [VF_v E (h40 v a) (by omega)]; exact d
theorem SetR_ve {N M : Nat → Int} (E : VE N M) (hW : N 4 ≤ 40) {s : BitVec 64} {f g : Nat → Int} (e : ∀ p, p < 12 → g p = f p) (hp : ∀ v, v < vc N → 0 ≤ nV N v 0 ∧ nV N v 0 < 12) (z : SetR N s f) : SetR M s g := SetR_vf (VE_F E) hW e hp z
