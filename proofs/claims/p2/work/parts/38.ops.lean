/-! ===== what is done, as functions of what is ===== -/
def vps (V : vV) (ps : List vP) : vV := (V.1, ps, V.2.2)
def vnf (V : vV) (t n : Nat) : vV := (V.1, V.2.1, mj_upd V.2.2.1 t n, V.2.2.2)
/-- all of a task is given back -/
def vga (V : vV) (t : Nat) : vV :=
  let V1 := vps V (V.2.1.filter (fun q => decide (q.2.2.1 ≠ t)))
  let V2 := if V.1 (3989 + t) = -1 then V1 else vs V1 (3923 + (V.1 (3989 + t)).toInt.toNat) (-1)
  vs (vs (vnf (vs (vs (vs (vs V2 (3989 + t) (-1)) (3996 + t) 0) (4066 + t) 0) (3954 + t) 0) t 0) (3961 + t) 0) (3975 + t) (-1)
def vot (V : vV) (t : Nat) : vV := vlg1 (vcn (vs (vga V t) (3926 + t) 4) 1 1)
/-- the spare is given back -/
def vsp (V : vV) (t : Nat) : vV := if (V.2.1.find? (vkey t 1000)).isSome then vps (vlg1 V) (V.2.1.filter (fun q => !vkey t 1000 q)) else V
/-- a copied stack moves into a piece of so many, at a place -/
def vmv (V : vV) (t g words : Nat) : vV :=
  let V1 := vps (vs V (3982 + t) (if V.2.2.1 t = 0 then V.1 (3982 + t) else nI (g + (V.2.2.2 t (V.2.2.1 t - 1)).2.2.1))) (vins (g, words, t, 0) (V.2.1.filter (fun q => !vkey t 0 q)))
  vcn (vs V1 (4017 + t) (V1.1 (4017 + t) + V1.1 (3961 + t))) 5 (V1.1 (3961 + t))
def vdbl (enough : Nat) : Nat → Nat → Nat
  | 0, n => n
  | m + 1, n => if n < enough then vdbl enough m (n * 2) else n
def vinc (V : vV) (i : Nat) : vV := vs V i (V.1 i + 1)
def vnp (V : vV) (t : Nat) : Nat := (V.1 (4066 + t)).toInt.toNat
def vuse (V : vV) (t : Nat) : Nat := (V.1 (3961 + t)).toInt.toNat
/-- room for so many behind all frames: whether there was a gap -/
def vspl (lim : Nat) (V : vV) (t need : Nat) : Bool × vV :=
  let words := max need (V.1 2048).toInt.toNat
  match vgap lim 0 V.2.1 words with
  | none => (false, V)
  | some a => (true, vinc (vlg1 (vcn (vinc (vps V (vins (a, words, t, vnp V t) V.2.1)) (4024 + t)) 6 1)) (4066 + t))
def vgr (lim : Nat) (V : vV) (t need : Nat) : Bool × vV :=
  if V.1 (3933 + t) = 0 then
    (let words := vdbl (vuse V t + need) 16 (2 * vln V.2.1 t 0)
    match vgap lim 0 V.2.1 words with
    | none => (false, V)
    | some g => (true, vlg1 (vcn (vinc (vmv V t g words) (4010 + t)) 4 1)))
  else match V.2.1.find? (vkey t 1000) with
    | some q => if need ≤ q.2.1 then (true, vinc (vlg1 (vcn (vinc (vps V (V.2.1.map (fun p => if vkey t 1000 p then (p.1, p.2.1, p.2.2.1, vnp V t) else p))) (4038 + t)) 8 1)) (4066 + t)) else vspl lim (vsp V t) t need
    | none => vspl lim V t need
def vmg (w : Nat → Int32) (f : Nat) : Bool := decide (w 2050 ≠ 0) && match vdp w 10 f with
  | some d => decide (d ≤ (w 2051).toInt.toNat)
  | none => false
def vnd (w : Nat → Int32) (f : Nat) : Nat := if vmg w f then (vdp w 10 f).getD 0 else vwd w f
/-- the last frame is covered -/
def vlc (V : vV) (t : Nat) : Bool := decide (0 < V.2.2.1 t) && decide ((V.2.2.2 t (V.2.2.1 t - 1)).2.2.2.1 / 1024 % 2 = 1)
def vtop (V : vV) (t : Nat) : Nat := if V.2.2.1 t = 0 then vat V.2.1 t 0 else vpl V t (V.2.2.1 t - 1) + vwd V.1 (V.2.2.2 t (V.2.2.1 t - 1)).1
def vend (V : vV) (t : Nat) : Nat := vat V.2.1 t (vnp V t - 1) + vln V.2.1 t (vnp V t - 1)
/-- room for a call is made: false, and it is out -/
def vrm (lim : Nat) (V : vV) (t f : Nat) : Bool × vV :=
  let V1 := vcn (vinc V (4003 + t)) 3 1
  if vtop V t + vnd V.1 f ≤ vend V t then (true, V1)
  else match vgr lim V1 t (vnd V.1 f) with
    | (true, V2) => (true, V2)
    | (false, V2) => (false, vot V2 t)
/-- a frame comes: function, BACK, its first number, its first pointer -/
def vfn (V : vV) (t f bk : Nat) (a : Int32) (q : Option (Nat × Nat)) : vF := (f, vnp V t - 1, vud V.1 (V.2.2.2 t) (vnp V t - 1) (V.2.2.1 t), bk, fun k => if k = 0 then a else 0, fun k => if k = 0 then q else none)
def vpu (V : vV) (t f bk : Nat) (a : Int32) (q : Option (Nat × Nat)) : vV :=
  let F := vfn V t f bk a q
  let V1 := vfr V t (V.2.2.1 t) F
  let V2 := vs (vs (vs V1 (3982 + t) (nI (vat V.2.1 t F.2.1 + F.2.2.1))) (3975 + t) (nI f)) (3968 + t) 0
  let V3 := vs (vnf (vinc V2 (3954 + t)) t (V.2.2.1 t + 1)) (3961 + t) (V.1 (3961 + t) + (V.1 (2228 + f) + 2))
  if (V3.1 (3961 + t)).toInt ≤ (V3.1 (4045 + t)).toInt then V3 else vs V3 (4045 + t) (V3.1 (3961 + t))
/-- what a slot hands over to a first slot: number, pointer -/
def vha (w : Nat → Int32) (f : Nat) (F : vF) (k : Nat) : Int32 × Option (Nat × Nat) := if bt (w (2238 + F.1)) k then (0, if bt (w (2238 + f)) 0 then F.2.2.2.2.2 k else none) else (if bt (w (2238 + f)) 0 then 0 else F.2.2.2.2.1 k, none)
/-- a function is called: BACK without COVERED, what is handed over -/
def vcl (lim : Nat) (V : vV) (t f bk : Nat) (h : Int32 × Option (Nat × Nat)) : vV :=
  if vlc V t then vpu (vcn V 11 1) t f (bk + 1024) h.1 h.2
  else match vrm lim V t f with
    | (true, V1) => vpu V1 t f (bk + if vmg V.1 f then 1024 else 0) h.1 h.2
    | (false, V1) => V1
/-- a number of a frame is set -/
def vnu (V : vV) (t i k : Nat) (v : Int32) : vV := vfr V t i ((V.2.2.2 t i).1, (V.2.2.2 t i).2.1, (V.2.2.2 t i).2.2.1, (V.2.2.2 t i).2.2.2.1, mj_upd (V.2.2.2 t i).2.2.2.2.1 k v, (V.2.2.2 t i).2.2.2.2.2)
def vpo (V : vV) (t i k : Nat) (q : Option (Nat × Nat)) : vV := vfr V t i ((V.2.2.2 t i).1, (V.2.2.2 t i).2.1, (V.2.2.2 t i).2.2.1, (V.2.2.2 t i).2.2.2.1, (V.2.2.2 t i).2.2.2.2.1, mj_upd (V.2.2.2 t i).2.2.2.2.2 k q)
/-- a foreign call is over -/
def vfv (V : vV) (t : Nat) (words : Int32) : vV :=
  let V1 := vs (vcn V 9 1) (3996 + t) (V.1 (3996 + t) - words)
  if 0 < (V1.1 (3996 + t)).toInt then V1 else vs (vs V1 (3923 + (V.1 (3989 + t)).toInt.toNat) (-1)) (3989 + t) (-1)
/-- the first frame of a piece is left: its words have gone already -/
def vlv (V : vV) (t : Nat) (F : vF) : vV :=
  if F.2.2.1 ≠ 0 ∨ F.2.1 = 0 then V
  else
    let V1 := vs V (4066 + t) (V.1 (4066 + t) - 1)
    if V.1 2049 = 0 then vps (vlg1 V1) (V.2.1.filter (fun q => !vkey t F.2.1 q))
    else
      let V2 := vsp V1 t
      vlg1 (vps V2 (V2.2.1.map (fun p => if vkey t F.2.1 p then (p.1, p.2.1, p.2.2.1, 1000) else p)))
/-- done: Z says whether an endless stack brings another result -/
def vdn (Z : (Nat → Int32) → Int32 → Int32 → Int32 → Bool) (V : vV) (t : Nat) (v : Int32) : vV :=
  let V1 := vlg1 (vcn (vga (vs (vs V (3926 + t) 3) (3940 + t) v) t) 0 1)
  if Z V.1 (V.1 (4052 + t)) (V.1 (4059 + t)) v then vinc V1 2066 else V1
def vrt (Z : (Nat → Int32) → Int32 → Int32 → Int32 → Bool) (V : vV) (t : Nat) (v : Int32) : vV :=
  let n := V.2.2.1 t - 1
  let F := V.2.2.2 t n
  let V1 := vnf (vs (vs V (3961 + t) (V.1 (3961 + t) - (V.1 (2228 + F.1) + 2))) (3954 + t) (V.1 (3954 + t) - 1)) t n
  if n = 0 then vdn Z V1 t v
  else
    let V2 := if V.1 (3933 + t) = 1 then vlv V1 t F else V1
    let V3 := vs (vs (vs V2 (3982 + t) (nI (vpl V2 t (n - 1)))) (3975 + t) (nI (F.2.2.2.1 % 1024 / 32))) (3968 + t) (nI (F.2.2.2.1 % 32))
    let c := vco (F.2.2.2.1 % 1024 / 32) (F.2.2.2.1 % 32 - 1)
    let V4 := vnu V3 t (n - 1) (V.1 (c + 3)).toInt.toNat v
    if 2048 ≤ F.2.2.2.1 then vfv V4 t (V.1 (c + 1)) else V4
