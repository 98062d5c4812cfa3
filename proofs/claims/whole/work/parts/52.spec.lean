/-! WHAT IT IS: a city, a moment, hours, waves, as plain functions -/
abbrev mMo : Type := Int × (Int → Int) × (Int → Int) × (Int → Int → Int) × List (Int × Int × Int × Int)
def mh (M : mMo) : Int := M.1
def ml (M : mMo) : Int → Int := M.2.1
def mw (M : mMo) : Int → Int := M.2.2.1
def mp (M : mMo) : Int → Int → Int := M.2.2.2.1
def me (M : mMo) : List (Int × Int × Int × Int) := M.2.2.2.2
/-- people, tasks, statements; wards, hards, covers, covered by; known; duties as told; codes: learn, forget, can, notice; names -/
abbrev mCy : Type := (Int × Int × Int) × ((Int → Int) × (Int → Int) × (Int → Int) × (Int → Int)) × (Int → Int → Int) × List (Int × Int × Int) × (Nat → List Int) × (Int → List Int) × (Int → List Int)
def cn (C : mCy) : Int := C.1.1
def ct (C : mCy) : Int := C.1.2.1
def cu (C : mCy) : Int := C.1.2.2
def cw (C : mCy) : Int → Int := C.2.1.1
def ch (C : mCy) : Int → Int := C.2.1.2.1
def cc (C : mCy) : Int → Int := C.2.1.2.2.1
def cb (C : mCy) : Int → Int := C.2.1.2.2.2
def ck (C : mCy) : Int → Int → Int := C.2.2.1
def cd (C : mCy) : List (Int × Int × Int) := C.2.2.2.1
def co (C : mCy) : Nat → List Int := C.2.2.2.2.1
def cp (C : mCy) : Int → List Int := C.2.2.2.2.2.1
def cq (C : mCy) : Int → List Int := C.2.2.2.2.2.2
def uf (f : Int → Int) (k x : Int) : Int → Int := fun j => if j = k then x else f j
def ug (f : Int → Int → Int) (a b x : Int) : Int → Int → Int := fun i j => if i = a ∧ j = b then x else f i j
/-- rounds -/
def itr {α : Type} (f : Int → α → α) : Int → Nat → α → α
  | _, 0, a => a
  | k, m + 1, a => itr f (k + 1) m (f k a)
-- ---- codes
def jn (v a b : Int) : Int := if v = 1 then hld (a + b) else if v = 2 then hld (a - b) else if v = 3 then hld (a * b) else if v = 4 then (if b = 0 then 0 else a.fdiv b) else if v = 5 then min a b else if v = 6 then max a b else if v = 7 then (if a < b then 1 else 0) else if v = 8 then (if b < a then 1 else 0) else if v = 9 then (if a = b then 1 else 0) else if v = 10 then (if a = 1 ∧ b = 1 then 1 else 0) else (if a = 0 ∧ b = 0 then 0 else 1)
def est (fa kn : Int → Int) (v : Int) (s : List Int) : Option (List Int) :=
  if 1000 ≤ v ∧ v ≤ 10999 then (if s.length < 64 then some ((v - 1000) :: s) else none)
  else if v = 60 then (match s with
    | a :: r => if -1000000 ≤ a ∧ a ≤ 1000000 then some (kn a :: r) else none
    | [] => none)
  else if 40 ≤ v ∧ v ≤ 49 then (if s.length < 64 then some (fa (v - 40) :: s) else none)
  else if v = 13 then (if s.length < 64 then some (1 :: s) else none)
  else if v = 12 then (match s with
    | a :: r => if a = 0 ∨ a = 1 then some ((1 - a) :: r) else none
    | [] => none)
  else if 1 ≤ v ∧ v ≤ 11 then (match s with
    | b :: a :: r => if (-1000000 ≤ a ∧ a ≤ 1000000) ∧ (-1000000 ≤ b ∧ b ≤ 1000000) ∧ (10 ≤ v → (a = 0 ∨ a = 1) ∧ (b = 0 ∨ b = 1)) then some (jn v a b :: r) else none
    | _ => none)
  else none
def evs (fa kn : Int → Int) : List Int → List Int → Option (List Int)
  | [], s => some s
  | v :: cs, s => match est fa kn v s with
    | some s' => evs fa kn cs s'
    | none => none
/-- facts are within bounds -/
def okF (fa kn : Int → Int) : Prop := (∀ k, -1000000 ≤ fa k ∧ fa k ≤ 1000000) ∧ (∀ k, -1000000 ≤ kn k ∧ kn k ≤ 1000000)
/-- codes that tell one number (or a test: 0 or 1), with at most h more on the pile -/
def okc (b : Bool) (h : Nat) (cs : List Int) : Prop := ∀ fa kn, okF fa kn → ∀ s : List Int, s.length + h ≤ 64 → ∃ x, evs fa kn cs s = some (x :: s) ∧ (-1000000 ≤ x ∧ x ≤ 1000000) ∧ (b = true → x = 0 ∨ x = 1)
def tell (fa kn : Int → Int) (cs : List Int) : Int := match evs fa kn cs [] with
  | some (x :: _) => x
  | _ => 0
def k0 : Int → Int := fun _ => 0
def fct (clock day pts same hard own theirs : Int) : Int → Int := fun k => if k = 0 then clock else if k = 1 then day else if k = 2 then pts else if k = 3 then same else if k = 4 then hard else if k = 5 then own else if k = 6 then theirs else 0
def sam (C : mCy) (a b : Int) : Int := if cw C a = cw C b then 1 else 0
def made (C : mCy) (w : Nat) (p l pts clock day : Int) : Int := if co C w = [] then pts else max 0 (min 99 (tell (fct clock day pts (sam C p l) 0 0 0) k0 (co C w)))
def able (C : mCy) (pts own task clock day : Int) : Int := if co C 2 = [] then 1 else tell (fct clock day pts 0 (ch C task) own 0) k0 (co C 2)
def canD (C : mCy) (M : mMo) (p l task clock : Int) : Int := able C (mp M p l) (if p = l then 1 else 0) task clock (mh M / 24)
def seen (C : mCy) (M : mMo) (p who l clock day : Int) : Int := if co C 3 = [] then 0 else tell (fct clock day (mp M who l) (sam C p l) 0 0 (mp M p l)) k0 (co C 3)
-- ---- waves
def wav (C : mCy) : Nat → (Int → Int) → Int → List Int → (Int → Int) × Int × List Int
  | 0, lv, left, mv => (lv, left, mv)
  | f + 1, lv, left, mv => if cb C left = -1 ∨ lv (cb C left) ≠ cb C left then (lv, left, mv) else wav C f (uf lv (cb C left) left) (cb C left) (mv ++ [cb C left])
def sendA (C : mCy) (lv : Int → Int) (p : Int) : (Int → Int) × Int × List Int := wav C 10 (uf lv p (-1)) (lv p) []
def calM (C : mCy) (M : mMo) (p : Int) : mMo := (mh M, (sendA C (ml M) p).1, mw M, mp M, me M)
-- ---- hours: a moment, how many left and dried, the first one that failed (hour, which, life; which -1: none), dried in this hour
abbrev mSt : Type := mMo × (Int × Int) × (Int × Int × Int) × (Int → Int)
def keepM (M : mMo) (which l who : Int) : mMo := (mh M, ml M, mw M, mp M, (if (me M).length = 40 then (me M).tail else me M) ++ [(mh M, which, l, who)])
def failX (S : mSt) (which l who : Int) : mSt := (keepM S.1 which l who, (if which = 0 then S.2.1.1 + 1 else S.2.1.1, if which = 1 then S.2.1.2 + 1 else S.2.1.2), (if S.2.2.1.2.1 = -1 then (mh S.1, which, l) else S.2.2.1), S.2.2.2)
def dry (S : mSt) (who : Int) : mSt := (S.1, S.2.1, S.2.2.1, uf S.2.2.2 who (S.2.2.2 who + 1))
def noteM (C : mCy) (clock day l who : Int) (p : Int) (M : mMo) : mMo := if p ≠ who ∧ p ≠ l ∧ ml M p ≠ -1 ∧ seen C M p who l clock day ≠ 0 then keepM M 2 l p else M
def dutyS (C : mCy) (clock day : Int) (S : mSt) (l task : Int) : mSt :=
  let who := fi (ml S.1) l 0 (cn C).toNat
  if who = -1 then failX S 0 l (-1)
  else if able C (mp S.1 who l) (if who = l then 1 else 0) task clock day = 0 then failX (dry S who) 1 l who
  else if who = l then S
  else (itr (noteM C clock day l who) 0 (cn C).toNat S.1, S.2)
/-- duties by lives, then as they are told -/
def srt (n : Nat) (D : List (Int × Int × Int)) : List (Int × Int × Int) := (List.range n).flatMap (fun (l : Nat) => D.filter (fun d => decide (d.1 = (l : Int))))
def nightM (C : mCy) (M : mMo) (day : Int) : mMo := (mh M, fun p => p, mw M, fun p l => if p = l then mp M p l else made C 1 p l (mp M p l) 0 day, me M)
def busy (C : mCy) (clock l : Int) : Prop := ∃ d ∈ cd C, d.1 = l ∧ d.2.2 = clock
noncomputable def watM (C : mCy) (clock day : Int) (p : Int) (M : mMo) : mMo := @ite _ (mw M p ≠ -1 ∧ ml M p ≠ -1 ∧ ¬ busy C clock (ml M p)) (Classical.propDecidable _) (mh M, ml M, mw M, ug (mp M) p (mw M p) (made C 0 p (mw M p) (mp M p (mw M p)) clock day), me M) M
noncomputable def hourS (C : mCy) (S : mSt) : mSt :=
  let h := mh S.1 + 1
  let M1 : mMo := (h, ml S.1, mw S.1, mp S.1, me S.1)
  let M2 := if h % 24 = 0 then nightM C M1 (h / 24) else M1
  let S3 := (srt (cn C).toNat (cd C)).foldl (fun S d => if d.2.2 = h % 24 then dutyS C (h % 24) (h / 24) S d.1 d.2.1 else S) (M2, S.2)
  (itr (watM C (h % 24) (h / 24)) 0 (cn C).toNat S3.1, S3.2)
noncomputable def hoursS (C : mCy) : Nat → mSt → mSt
  | 0, S => S
  | n + 1, S => hoursS C n (hourS C (S.1, S.2.1, S.2.2.1, fun _ => 0))
def s0 (M : mMo) : mSt := (M, (0, 0), (0, -1, 0), fun _ => 0)
