section LAW
def Op_add (J : Nat → Tx → Is → Wa → St → Hi → Mo → Prop) : Prop := ∀ (n : Nat) (tx : Tx) (is : Is) (wa : Wa) (st : St) (hi : Hi) (mo : Mo), n < 512 → J n tx is wa st hi mo →
  (∃ (res : Int32) (tx' : Tx) (st' : St) (hi' : Hi) (mo' : Mo), fX5_add tx is wa st hi = some (.inr (res, tx', st', hi')) ∧ fX6_add mo = some (res, mo') ∧ Mo_thrown mo' = 0 ∧ J (n + 1) tx' is wa st' hi' mo') ∨ (∃ (b : Int32) (mo' : Mo), fX5_add tx is wa st hi = some (.inl 2) ∧ fX6_add mo = some (b, mo') ∧ Mo_thrown mo' = 1 ∧ J (n + 1) tx is wa st hi mo')
def Op_set (J : Nat → Tx → Is → Wa → St → Hi → Mo → Prop) : Prop := ∀ (n : Nat) (tx : Tx) (is : Is) (wa : Wa) (st : St) (hi : Hi) (mo : Mo) (p1 : Int32) (p2 : Int32), n < 512 → J n tx is wa st hi mo →
  (∃ (res : Int32) (st' : St) (hi' : Hi) (mo' : Mo), fX5_set tx is wa st hi p1 p2 = some (.inr (res, st', hi')) ∧ fX6_set mo p1 p2 = some (res, mo') ∧ Mo_thrown mo' = 0 ∧ J (n + 1) tx is wa st' hi' mo') ∨ (∃ (b : Int32) (mo' : Mo), fX5_set tx is wa st hi p1 p2 = some (.inl 1) ∧ fX6_set mo p1 p2 = some (b, mo') ∧ Mo_thrown mo' = 1 ∧ J (n + 1) tx is wa st hi mo') ∨ (∃ (b : Int32) (mo' : Mo), fX5_set tx is wa st hi p1 p2 = some (.inl 2) ∧ fX6_set mo p1 p2 = some (b, mo') ∧ Mo_thrown mo' = 2 ∧ J (n + 1) tx is wa st hi mo')
def Op_bar (J : Nat → Tx → Is → Wa → St → Hi → Mo → Prop) : Prop := ∀ (n : Nat) (tx : Tx) (is : Is) (wa : Wa) (st : St) (hi : Hi) (mo : Mo) (p1 : Int32) (p2 : Int32), n < 512 → J n tx is wa st hi mo →
  (∃ (res : Int32) (st' : St) (hi' : Hi) (mo' : Mo), fX5_bar tx is wa st hi p1 p2 = some (.inr (res, st', hi')) ∧ fX6_bar mo p1 p2 = some (res, mo') ∧ Mo_thrown mo' = 0 ∧ J (n + 1) tx is wa st' hi' mo') ∨ (∃ (b : Int32) (mo' : Mo), fX5_bar tx is wa st hi p1 p2 = some (.inl 1) ∧ fX6_bar mo p1 p2 = some (b, mo') ∧ Mo_thrown mo' = 1 ∧ J (n + 1) tx is wa st hi mo') ∨ (∃ (b : Int32) (mo' : Mo), fX5_bar tx is wa st hi p1 p2 = some (.inl 2) ∧ fX6_bar mo p1 p2 = some (b, mo') ∧ Mo_thrown mo' = 2 ∧ J (n + 1) tx is wa st hi mo')
def Op_put (J : Nat → Tx → Is → Wa → St → Hi → Mo → Prop) : Prop := ∀ (n : Nat) (tx : Tx) (is : Is) (wa : Wa) (st : St) (hi : Hi) (mo : Mo) (p1 : Int32) (p2 : Int32) (p3 : Int32), n < 512 → J n tx is wa st hi mo →
  (∃ (res : Int32) (wa' : Wa) (st' : St) (hi' : Hi) (mo' : Mo), fX5_put tx is wa st hi p1 p2 p3 = some (.inr (res, wa', st', hi')) ∧ fX6_put mo p1 p2 p3 = some (res, mo') ∧ Mo_thrown mo' = 0 ∧ J (n + 1) tx is wa' st' hi' mo') ∨ (∃ (b : Int32) (mo' : Mo), fX5_put tx is wa st hi p1 p2 p3 = some (.inl 1) ∧ fX6_put mo p1 p2 p3 = some (b, mo') ∧ Mo_thrown mo' = 1 ∧ J (n + 1) tx is wa st hi mo') ∨ (∃ (b : Int32) (mo' : Mo), fX5_put tx is wa st hi p1 p2 p3 = some (.inl 2) ∧ fX6_put mo p1 p2 p3 = some (b, mo') ∧ Mo_thrown mo' = 2 ∧ J (n + 1) tx is wa st hi mo') ∨ (∃ (b : Int32) (mo' : Mo), fX5_put tx is wa st hi p1 p2 p3 = some (.inl 3) ∧ fX6_put mo p1 p2 p3 = some (b, mo') ∧ Mo_thrown mo' = 3 ∧ J (n + 1) tx is wa st hi mo')
def Op_climb (J : Nat → Tx → Is → Wa → St → Hi → Mo → Prop) : Prop := ∀ (n : Nat) (tx : Tx) (is : Is) (wa : Wa) (st : St) (hi : Hi) (mo : Mo) (p1 : Int32) (p2 : Int32), n < 512 → J n tx is wa st hi mo →
  (∃ (res : Int32) (st' : St) (hi' : Hi) (mo' : Mo), fX5_climb tx is wa st hi p1 p2 = some (.inr (res, st', hi')) ∧ fX6_climb mo p1 p2 = some (res, mo') ∧ Mo_thrown mo' = 0 ∧ J (n + 1) tx is wa st' hi' mo') ∨ (∃ (b : Int32) (mo' : Mo), fX5_climb tx is wa st hi p1 p2 = some (.inl 1) ∧ fX6_climb mo p1 p2 = some (b, mo') ∧ Mo_thrown mo' = 1 ∧ J (n + 1) tx is wa st hi mo') ∨ (∃ (b : Int32) (mo' : Mo), fX5_climb tx is wa st hi p1 p2 = some (.inl 3) ∧ fX6_climb mo p1 p2 = some (b, mo') ∧ Mo_thrown mo' = 2 ∧ J (n + 1) tx is wa st hi mo')
def Op_turn (J : Nat → Tx → Is → Wa → St → Hi → Mo → Prop) : Prop := ∀ (n : Nat) (tx : Tx) (is : Is) (wa : Wa) (st : St) (hi : Hi) (mo : Mo), n < 512 → J n tx is wa st hi mo →
  (∃ (res : Int32) (st' : St) (hi' : Hi) (mo' : Mo), fX5_turn tx is wa st hi = some (res, st', hi') ∧ fX6_turn mo = some (res, mo') ∧ J (n + 1) tx is wa st' hi' mo')
def Op_leave (J : Nat → Tx → Is → Wa → St → Hi → Mo → Prop) : Prop := ∀ (n : Nat) (tx : Tx) (is : Is) (wa : Wa) (st : St) (hi : Hi) (mo : Mo) (p1 : Int32), n < 512 → J n tx is wa st hi mo →
  (∃ (res : Int32) (st' : St) (hi' : Hi) (mo' : Mo), fX5_leave tx is wa st hi p1 = some (.inr (res, st', hi')) ∧ fX6_leave mo p1 = some (res, mo') ∧ Mo_thrown mo' = 0 ∧ J (n + 1) tx is wa st' hi' mo') ∨ (∃ (b : Int32) (mo' : Mo), fX5_leave tx is wa st hi p1 = some (.inl 1) ∧ fX6_leave mo p1 = some (b, mo') ∧ Mo_thrown mo' = 1 ∧ J (n + 1) tx is wa st hi mo') ∨ (∃ (b : Int32) (mo' : Mo), fX5_leave tx is wa st hi p1 = some (.inl 3) ∧ fX6_leave mo p1 = some (b, mo') ∧ Mo_thrown mo' = 2 ∧ J (n + 1) tx is wa st hi mo')
def Op_append (J : Nat → Tx → Is → Wa → St → Hi → Mo → Prop) : Prop := ∀ (n : Nat) (tx : Tx) (is : Is) (wa : Wa) (st : St) (hi : Hi) (mo : Mo) (p1 : Int32), n < 512 → J n tx is wa st hi mo →
  (∃ (res : Int32) (tx' : Tx) (mo' : Mo), fX5_append tx is wa st hi p1 = some (.inr (res, tx')) ∧ fX6_append mo p1 = some (res, mo') ∧ Mo_thrown mo' = 0 ∧ J (n + 1) tx' is wa st hi mo') ∨ (∃ (b : Int32) (mo' : Mo), fX5_append tx is wa st hi p1 = some (.inl 2) ∧ fX6_append mo p1 = some (b, mo') ∧ Mo_thrown mo' = 1 ∧ J (n + 1) tx is wa st hi mo') ∨ (∃ (b : Int32) (mo' : Mo), fX5_append tx is wa st hi p1 = some (.inl 3) ∧ fX6_append mo p1 = some (b, mo') ∧ Mo_thrown mo' = 2 ∧ J (n + 1) tx is wa st hi mo')
def Op_clearBuffer (J : Nat → Tx → Is → Wa → St → Hi → Mo → Prop) : Prop := ∀ (n : Nat) (tx : Tx) (is : Is) (wa : Wa) (st : St) (hi : Hi) (mo : Mo), n < 512 → J n tx is wa st hi mo →
  (∃ (res : Int32) (tx' : Tx) (mo' : Mo), fX5_clearBuffer tx is wa st hi = some (res, tx') ∧ fX6_clearBuffer mo = some (res, mo') ∧ J (n + 1) tx' is wa st hi mo')
def Op_firstError (J : Nat → Tx → Is → Wa → St → Hi → Mo → Prop) : Prop := ∀ (n : Nat) (tx : Tx) (is : Is) (wa : Wa) (st : St) (hi : Hi) (mo : Mo) (p1 : Int32), n < 512 → J n tx is wa st hi mo →
  (∃ (res : Int32) (mo' : Mo), fX5_firstError tx is wa st hi p1 = some (.inr res) ∧ fX6_firstError mo p1 = some (res, mo') ∧ Mo_thrown mo' = 0 ∧ J (n + 1) tx is wa st hi mo') ∨ (∃ (b : Int32) (mo' : Mo), fX5_firstError tx is wa st hi p1 = some (.inl 2) ∧ fX6_firstError mo p1 = some (b, mo') ∧ Mo_thrown mo' = 1 ∧ J (n + 1) tx is wa st hi mo')
def Op_play (J : Nat → Tx → Is → Wa → St → Hi → Mo → Prop) : Prop := ∀ (n : Nat) (tx : Tx) (is : Is) (wa : Wa) (st : St) (hi : Hi) (mo : Mo), n < 512 → J n tx is wa st hi mo →
  (∃ (res : Int32) (tx' : Tx) (st' : St) (hi' : Hi) (mo' : Mo), fX5_play tx is wa st hi = some (.inr (res, tx', st', hi')) ∧ fX6_play mo = some (res, mo') ∧ Mo_thrown mo' = 0 ∧ J (n + 1) tx' is wa st' hi' mo') ∨ (∃ (b : Int32) (mo' : Mo), fX5_play tx is wa st hi = some (.inl 2) ∧ fX6_play mo = some (b, mo') ∧ Mo_thrown mo' = 1 ∧ J (n + 1) tx is wa st hi mo')
def Op_keep (J : Nat → Tx → Is → Wa → St → Hi → Mo → Prop) : Prop := ∀ (n : Nat) (tx : Tx) (is : Is) (wa : Wa) (st : St) (hi : Hi) (mo : Mo), n < 512 → J n tx is wa st hi mo →
  (∃ (res : Int32) (hi' : Hi) (mo' : Mo), fX5_keep tx is wa st hi = some (res, hi') ∧ fX6_keep mo = some (res, mo') ∧ J (n + 1) tx is wa st hi' mo')
def Op_goBack (J : Nat → Tx → Is → Wa → St → Hi → Mo → Prop) : Prop := ∀ (n : Nat) (tx : Tx) (is : Is) (wa : Wa) (st : St) (hi : Hi) (mo : Mo), n < 512 → J n tx is wa st hi mo →
  (∃ (res : Int32) (st' : St) (hi' : Hi) (mo' : Mo), fX5_goBack tx is wa st hi = some (.inr (res, st', hi')) ∧ fX6_goBack mo = some (res, mo') ∧ Mo_thrown mo' = 0 ∧ J (n + 1) tx is wa st' hi' mo') ∨ (∃ (b : Int32) (mo' : Mo), fX5_goBack tx is wa st hi = some (.inl 3) ∧ fX6_goBack mo = some (b, mo') ∧ Mo_thrown mo' = 1 ∧ J (n + 1) tx is wa st hi mo')
def Op_undo (J : Nat → Tx → Is → Wa → St → Hi → Mo → Prop) : Prop := ∀ (n : Nat) (tx : Tx) (is : Is) (wa : Wa) (st : St) (hi : Hi) (mo : Mo), n < 512 → J n tx is wa st hi mo →
  (∃ (res : Int32) (st' : St) (hi' : Hi) (mo' : Mo), fX5_undo tx is wa st hi = some (.inr (res, st', hi')) ∧ fX6_undo mo = some (res, mo') ∧ Mo_thrown mo' = 0 ∧ J (n + 1) tx is wa st' hi' mo') ∨ (∃ (b : Int32) (mo' : Mo), fX5_undo tx is wa st hi = some (.inl 3) ∧ fX6_undo mo = some (b, mo') ∧ Mo_thrown mo' = 1 ∧ J (n + 1) tx is wa st hi mo')
def Op_word (J : Nat → Tx → Is → Wa → St → Hi → Mo → Prop) : Prop := ∀ (n : Nat) (tx : Tx) (is : Is) (wa : Wa) (st : St) (hi : Hi) (mo : Mo) (p1 : Int32) (p2 : Int32), n < 512 → J n tx is wa st hi mo →
  (∃ (res : Int32) (mo' : Mo), fX5_word tx is wa st hi p1 p2 = some (.inr res) ∧ fX6_word mo p1 p2 = some (res, mo') ∧ Mo_thrown mo' = 0 ∧ J (n + 1) tx is wa st hi mo') ∨ (∃ (b : Int32) (mo' : Mo), fX5_word tx is wa st hi p1 p2 = some (.inl 1) ∧ fX6_word mo p1 p2 = some (b, mo') ∧ Mo_thrown mo' = 1 ∧ J (n + 1) tx is wa st hi mo') ∨ (∃ (b : Int32) (mo' : Mo), fX5_word tx is wa st hi p1 p2 = some (.inl 2) ∧ fX6_word mo p1 p2 = some (b, mo') ∧ Mo_thrown mo' = 2 ∧ J (n + 1) tx is wa st hi mo')
def Op_climber (J : Nat → Tx → Is → Wa → St → Hi → Mo → Prop) : Prop := ∀ (n : Nat) (tx : Tx) (is : Is) (wa : Wa) (st : St) (hi : Hi) (mo : Mo) (p1 : Int32) (p2 : Int32), n < 512 → J n tx is wa st hi mo →
  (∃ (res : Int32) (wa' : Wa) (mo' : Mo), fX5_climber tx is wa st hi p1 p2 = some (.inr (res, wa')) ∧ fX6_climber mo p1 p2 = some (res, mo') ∧ Mo_thrown mo' = 0 ∧ J (n + 1) tx is wa' st hi mo') ∨ (∃ (b : Int32) (mo' : Mo), fX5_climber tx is wa st hi p1 p2 = some (.inl 1) ∧ fX6_climber mo p1 p2 = some (b, mo') ∧ Mo_thrown mo' = 1 ∧ J (n + 1) tx is wa st hi mo') ∨ (∃ (b : Int32) (mo' : Mo), fX5_climber tx is wa st hi p1 p2 = some (.inl 2) ∧ fX6_climber mo p1 p2 = some (b, mo') ∧ Mo_thrown mo' = 2 ∧ J (n + 1) tx is wa st hi mo')
def Op_count (J : Nat → Tx → Is → Wa → St → Hi → Mo → Prop) : Prop := ∀ (n : Nat) (tx : Tx) (is : Is) (wa : Wa) (st : St) (hi : Hi) (mo : Mo) (p1 : Int32), n < 512 → J n tx is wa st hi mo →
  (∃ (res : Int32) (is' : Is) (mo' : Mo), fX5_count tx is wa st hi p1 = some (.inr (res, is')) ∧ fX6_count mo p1 = some (res, mo') ∧ Mo_thrown mo' = 0 ∧ J (n + 1) tx is' wa st hi mo') ∨ (∃ (b : Int32) (mo' : Mo), fX5_count tx is wa st hi p1 = some (.inl 2) ∧ fX6_count mo p1 = some (b, mo') ∧ Mo_thrown mo' = 1 ∧ J (n + 1) tx is wa st hi mo')
def Op_setting (J : Nat → Tx → Is → Wa → St → Hi → Mo → Prop) : Prop := ∀ (n : Nat) (tx : Tx) (is : Is) (wa : Wa) (st : St) (hi : Hi) (mo : Mo) (p1 : Int32), n < 512 → J n tx is wa st hi mo →
  (∃ (res : Int32) (mo' : Mo), fX5_setting tx is wa st hi p1 = some (.inr res) ∧ fX6_setting mo p1 = some (res, mo') ∧ Mo_thrown mo' = 0 ∧ J (n + 1) tx is wa st hi mo') ∨ (∃ (b : Int32) (mo' : Mo), fX5_setting tx is wa st hi p1 = some (.inl 1) ∧ fX6_setting mo p1 = some (b, mo') ∧ Mo_thrown mo' = 1 ∧ J (n + 1) tx is wa st hi mo')
def Op_why (J : Nat → Tx → Is → Wa → St → Hi → Mo → Prop) : Prop := ∀ (n : Nat) (tx : Tx) (is : Is) (wa : Wa) (st : St) (hi : Hi) (mo : Mo) (p1 : Int32) (p2 : Int32), n < 512 → J n tx is wa st hi mo →
  (∃ (res : Int32) (mo' : Mo), fX5_why tx is wa st hi p1 p2 = some (.inr res) ∧ fX6_why mo p1 p2 = some (res, mo') ∧ Mo_thrown mo' = 0 ∧ J (n + 1) tx is wa st hi mo') ∨ (∃ (b : Int32) (mo' : Mo), fX5_why tx is wa st hi p1 p2 = some (.inl 1) ∧ fX6_why mo p1 p2 = some (b, mo') ∧ Mo_thrown mo' = 1 ∧ J (n + 1) tx is wa st hi mo')
def Op_plain (J : Nat → Tx → Is → Wa → St → Hi → Mo → Prop) : Prop := ∀ (n : Nat) (tx : Tx) (is : Is) (wa : Wa) (st : St) (hi : Hi) (mo : Mo) (p1 : Int32) (p2 : Int32), n < 512 → J n tx is wa st hi mo →
  (∃ (res : Int32) (mo' : Mo), fX5_plain tx is wa st hi p1 p2 = some (.inr res) ∧ fX6_plain mo p1 p2 = some (res, mo') ∧ Mo_thrown mo' = 0 ∧ J (n + 1) tx is wa st hi mo') ∨ (∃ (b : Int32) (mo' : Mo), fX5_plain tx is wa st hi p1 p2 = some (.inl 1) ∧ fX6_plain mo p1 p2 = some (b, mo') ∧ Mo_thrown mo' = 1 ∧ J (n + 1) tx is wa st hi mo')
def Op_ifPut (J : Nat → Tx → Is → Wa → St → Hi → Mo → Prop) : Prop := ∀ (n : Nat) (tx : Tx) (is : Is) (wa : Wa) (st : St) (hi : Hi) (mo : Mo) (p1 : Int32) (p2 : Int32), n < 512 → J n tx is wa st hi mo →
  (∃ (res : Int32) (wa' : Wa) (mo' : Mo), fX5_ifPut tx is wa st hi p1 p2 = some (.inr (res, wa')) ∧ fX6_ifPut mo p1 p2 = some (res, mo') ∧ Mo_thrown mo' = 0 ∧ J (n + 1) tx is wa' st hi mo') ∨ (∃ (b : Int32) (mo' : Mo), fX5_ifPut tx is wa st hi p1 p2 = some (.inl 1) ∧ fX6_ifPut mo p1 p2 = some (b, mo') ∧ Mo_thrown mo' = 1 ∧ J (n + 1) tx is wa st hi mo') ∨ (∃ (b : Int32) (mo' : Mo), fX5_ifPut tx is wa st hi p1 p2 = some (.inl 2) ∧ fX6_ifPut mo p1 p2 = some (b, mo') ∧ Mo_thrown mo' = 2 ∧ J (n + 1) tx is wa st hi mo')
def Op_safest (J : Nat → Tx → Is → Wa → St → Hi → Mo → Prop) : Prop := ∀ (n : Nat) (tx : Tx) (is : Is) (wa : Wa) (st : St) (hi : Hi) (mo : Mo), n < 512 → J n tx is wa st hi mo →
  (∃ (res : Int32) (mo' : Mo), fX5_safest tx is wa st hi = some res ∧ fX6_safest mo = some (res, mo') ∧ J (n + 1) tx is wa st hi mo')
def Op_linkShare (J : Nat → Tx → Is → Wa → St → Hi → Mo → Prop) : Prop := ∀ (n : Nat) (tx : Tx) (is : Is) (wa : Wa) (st : St) (hi : Hi) (mo : Mo), n < 512 → J n tx is wa st hi mo →
  (∃ (res : UInt64) (mo' : Mo), fX5_linkShare tx is wa st hi = some res ∧ fX6_linkShare mo = some (res, mo') ∧ Op.cmpValue (FP.dcmp res res) .l = 0 ∧ J (n + 1) tx is wa st hi mo')
def Op_meanLadder (J : Nat → Tx → Is → Wa → St → Hi → Mo → Prop) : Prop := ∀ (n : Nat) (tx : Tx) (is : Is) (wa : Wa) (st : St) (hi : Hi) (mo : Mo), n < 512 → J n tx is wa st hi mo →
  (∃ (res : UInt32) (mo' : Mo), fX5_meanLadder tx is wa st hi = some res ∧ fX6_meanLadder mo = some (res, mo') ∧ nnd (FP.f2d res) = true ∧ Op.cmpValue (FP.dcmp (FP.f2d res) (FP.f2d res)) .l = 0 ∧ J (n + 1) tx is wa st hi mo')
def Op_digest (J : Nat → Tx → Is → Wa → St → Hi → Mo → Prop) : Prop := ∀ (n : Nat) (tx : Tx) (is : Is) (wa : Wa) (st : St) (hi : Hi) (mo : Mo), n < 512 → J n tx is wa st hi mo →
  (∃ (res : Int64) (is' : Is) (wa' : Wa) (mo' : Mo), fX5_digest tx is wa st hi = some (res, is', wa') ∧ fX6_digest mo = some (res, mo') ∧ J (n + 1) tx is' wa' st hi mo')
def Op_rest (J : Nat → Tx → Is → Wa → St → Hi → Mo → Prop) : Prop := ∀ (n : Nat) (tx : Tx) (is : Is) (wa : Wa) (st : St) (hi : Hi) (mo : Mo), n < 512 → J n tx is wa st hi mo → J (n + 1) tx is wa st hi mo
def Ops (J : Nat → Tx → Is → Wa → St → Hi → Mo → Prop) : Prop := Op_add J ∧ Op_set J ∧ Op_bar J ∧ Op_put J ∧ Op_climb J ∧ Op_turn J ∧ Op_leave J ∧ Op_append J ∧ Op_clearBuffer J ∧ Op_firstError J ∧ Op_play J ∧ Op_keep J ∧ Op_goBack J ∧ Op_undo J ∧ Op_word J ∧ Op_climber J ∧ Op_count J ∧ Op_setting J ∧ Op_why J ∧ Op_plain J ∧ Op_ifPut J ∧ Op_safest J ∧ Op_linkShare J ∧ Op_meanLadder J ∧ Op_digest J ∧ Op_rest J
abbrev wLaw (g : GG) (ad : Nat → Nat → Nat) (am : Nat → Nat) (o : Nat) (tx : Tx) (is : Is) (wa : Wa) (st : St) (hi : Hi) (mo : Mo) (out : Nat → Int64) : va_W := cOut g o out ++ (cMo g am mo ++ wBR g ad tx is wa st hi)
def LCx (p : Program) (s : State) (m : MethodId) (args : Array Value) (c : Code) (b L : Nat) (xs : Nat → Int32) (g : GG) (A : Nat → Prop) : Prop :=
  p.tables.exec = Jvm.exec ∧ c.code = cL_law ∧ c.maxLocals = 9 ∧ s.vm.findClass RL = some m.cls ∧ (∀ w ∈ wsL_law, w.before args s = true) ∧ va_K g.1 vwCl (tyL g) s ∧ Nst s ∧ Xt s ∧ (∀ q : Nat, s.heap.size ≤ q → A q) ∧ va_X b L xs s s.heap ∧ b < s.heap.size ∧ ¬ A b ∧ Zs A s s.heap
theorem perm_a (x y z : va_W) : (x ++ (y ++ z)).Perm ((x ++ z) ++ y) := by
  rw [List.append_assoc]
  exact List.Perm.append_left x List.perm_append_comm
theorem perm_b (x y z : va_W) : (x ++ (y ++ z)).Perm (y ++ (x ++ z)) := pmid x y z
theorem perm_c (x y z : va_W) : (x ++ (y ++ z)).Perm (z ++ (x ++ y)) := by
  rw [← List.append_assoc]
  exact List.perm_append_comm
section LA
variable {p : Program} {l : Launch} {e : Env} {R : Room} {s : State} {m : MethodId} {args : Array Value} {below : List Frame} {meth : Method} {c : Code} {H : Heap} {locs : List Loc} {cells slots : Nat} {Q : State → Prop}
variable {g : GG} {A : Nat → Prop} {pc : Nat} {ls : Array Slot} {rest st0 st1 : List Value} {rv : Option Value} {av : List Value}
theorem aftm_p {mc ms : Nat} (hs1 : rv.toList ++ rest = st1) {wc wc' wr ws ws' : va_W} (hp : ws.Perm (wc ++ wr)) (hp' : (wc' ++ wr).Perm ws') (hr : va_Run p l e R s m args below meth c H locs cells slots mc ms (F0 m pc ls st0) rest (Qg rv (Bg g wc wc' H.size) (va_A wc H.size) av.toArray) (va_A wc H.size)) (hP : va_P g.1 vwCl ws H) (hD : va_D A ws) (hS : va_S A s.heap H locs) (hA : ∀ q : Nat, s.heap.size ≤ q → A q)
    (kk : ∀ (H1 : Heap) (locs1 : List Loc), va_P g.1 vwCl ws' H1 → va_D A ws' → va_S A s.heap H1 locs1 → W p l e R s m args below meth c H1 locs1 (cells + mc) (slots + ms) Q (F0 m (pc + 3) ls st1)) : W p l e R s m args below meth c H locs cells slots Q (F0 m pc ls st0) := by
  have hD2 := hD.perm hp
  have hf := fr_free hD2.left hS hA
  intro T hT X
  obtain ⟨v, st₀, t, T', L, h0, X', hL, e1, e2, ⟨⟨hv, hp1, hd9⟩, hz, hk⟩, st⟩ := hr T hT X
  cases hv
  rw [h0] at hz hk
  obtain ⟨a9, b9⟩ := fr_join (H1 := T'.heap) (hP.perm hp) hD2 (fun q h1 h2 => by rw [e1]; exact hk q h1 h2) hf (by rw [e1]; exact hp1) hd9
  obtain ⟨t2, a1, b1⟩ := kk T'.heap (locs ++ L) (a9.perm hp') (b9.perm hp')
    ⟨Nat.le_trans hS.1 (by rw [e1]; exact hz), fun q h1 h2 => by rw [e1, hk q (Nat.lt_of_lt_of_le h1 hS.1) (fun z => h2 (hf q z))]; exact hS.2.1 q h1 h2, fun q hq => by
      rcases List.mem_append.mp hq with h | h
      · exact hS.2.2 q h
      · exact hf _ (hL q h)⟩ T' rfl X'
  subst hs1
  exact ⟨t2, st t2 a1, b1⟩
theorem runL {y : MethodName} {bytes cc : ByteArray} {maxL nL n index : Nat} {ret : Option FieldType} {hh : List (Nat × Nat × Nat × Nat)} {ws : List Cond} {rm : Room} {Ts : List Cond} {own : String} {As : List Value} {wc wc' : va_W} (S : CallFix p m c cc nL s args Ts own) (hM : CL l g y ws rm As wc rv wc') (cw : vx_CSW R s args own index y bytes maxL ret hh ws rm 1 6 n) (hK : va_K g.1 vwCl (tyL g) s) (hN : Nst s) (hX : Xt s) (hZ : Zs A s s.heap) (hP : va_P g.1 vwCl wc H) (hD : va_D A wc) (hS : va_S A s.heap H locs) (hA : ∀ q : Nat, s.heap.size ≤ q → A q)
    (hn : As.length = n) (hsize : ls.size = nL) (hst : st0 = As.reverse ++ rest) (hW : (rest.map fun v => v.category).sum ≤ 8) (hdg : decode cc pc = .ok (.invokestatic index, 3)) (hf : cells + 1 ≤ R.cells ∧ slots + 6 ≤ R.slots) : va_Run p l e R s m args below meth c H locs cells slots 1 6 (F0 m pc ls st0) rest (Qg rv (Bg g wc wc' H.size) (va_A wc H.size) As.toArray) (va_A wc H.size) :=
  vx_runSW (As := As) (rest := rest) S (hM H.size) cw ⟨PgX_blind _ _ _ _, fun U hU hW => ⟨rfl, ⟨by rw [hU], by rw [hU]; exact hP, va_K.moved hW.alike hK, hD.weaken (fun _ _ _ _ => trivial), hN.warm hW⟩, hX.warm hW, by rw [hU]; exact Zs.moved hW.alike ((hZ.kept (fun q h1 h2 => hS.2.1 q h1 h2)).narrow (fr_free hD hS hA))⟩⟩ rfl hn hsize hst (lv_room hW) hdg hf
theorem cmp_self (x : Int64) : lg_cmp x x = 0 := by simp [lg_cmp]
end LA
set_option maxRecDepth 100000 in
set_option maxHeartbeats 8000000 in
theorem law_add {p : Program} {l : Launch} {e : Env} {s : State} {m : MethodId} {args : Array Value} {below : List Frame} {meth : Method} {c : Code} {b L : Nat} {xs : Nat → Int32} {g : GG} {A : Nat → Prop} {Q : State → Prop} (hst : l.stackTraces = false) (LC : LCx p s m args c b L xs g A) {J : Nat → Tx → Is → Wa → St → Hi → Mo → Prop} (ad : Nat → Nat → Nat) (am : Nat → Nat) (o i j : Nat) {tx : Tx} {is : Is} {wa : Wa} {st : St} {hi : Hi} {mo : Mo} {out : Nat → Int64} {H : Heap} {locs : List Loc} {ls : Array Slot} (cells slots : Nat) (hL : L ≤ 2048) (hiL : i + 4 ≤ L) (hj : j < 512) (hro : cells + 1 ≤ 607796 ∧ slots + 6 ≤ 7272716) (hJ : J j tx is wa st hi mo) (hP : va_P g.1 vwCl (wLaw g ad am o tx is wa st hi mo out) H) (hD : va_D A (wLaw g ad am o tx is wa st hi mo out)) (hS : va_S A s.heap H locs) (hl : lv_has ls 9 [(0, .ref b), (1, .ref (ad 0 0)), (2, .ref (am 0)), (3, .ref o), (4, .int (nI i))]) (hop : Op_add J) (next : ∀ (tx : Tx) (is : Is) (wa : Wa) (st : St) (hi : Hi) (mo : Mo) (out : Nat → Int64) (H : Heap) (locs : List Loc) (ls : Array Slot), J (j + 1) tx is wa st hi mo → va_P g.1 vwCl (wLaw g ad am o tx is wa st hi mo out) H → va_D A (wLaw g ad am o tx is wa st hi mo out) → va_S A s.heap H locs → lv_has ls 9 [(0, .ref b), (1, .ref (ad 0 0)), (2, .ref (am 0)), (3, .ref o), (4, .int (nI i))] → W p l e room_1 s m args below meth c H locs (cells + 1) (slots + 6) Q (F0 m 1382 ls [])) : W p l e room_1 s m args below meth c H locs cells slots Q (F0 m 152 ls []) := by
  obtain ⟨hx, hb, hml, hown, hts, hK, hN, hX, hA, hXs, hbl, hbA, hZ⟩ := LC
  rcases hop j tx is wa st hi mo hj hJ with ⟨res, tx', st', hi', mo', h5, h6, h7, hJ'⟩ | ⟨b9, mo', h5, h6, h7, hJ'⟩
  · refine lv_aload_n hx hb dL_law_152 rfl (lv_at hl 1 rfl) ?_
    refine lv_aload_n hx hb dL_law_153 rfl (lv_at hl 3 rfl) ?_
    have pq := perm_a (cOut g o out) (cMo g am mo) (wBR g ad tx is wa st hi)
    refine aftm_p (st1 := [.int 0]) (ws' := wLaw g ad am o tx' is wa st' hi' mo (vp_updL out 0 res.toInt64)) rfl pq (perm_a (cOut g o (vp_updL out 0 res.toInt64)) (cMo g am mo) (wBR g ad tx' is wa st' hi')).symm (runL (As := [.ref (ad 0 0), .ref o]) (rest := []) ⟨hx, hb, hml, hown, hts⟩ (wL_add l hst g ad o (out := out) h5) (vx_cwSW 2 hts gL_law_L_add rfl rfl rfl hdL_add ⟨Nat.le_of_ble_eq_true rfl, Nat.le_of_ble_eq_true rfl⟩) hK hN hX hZ (hP.perm pq).left (hD.perm pq).left hS hA rfl hl.1 rfl (Nat.le_of_ble_eq_true rfl) dL_law_154 hro) hP hD hS hA (fun H locs hP hD hS => ?_)
    refine lv_istore (lv' := [(5, .int 0), (0, .ref b), (1, .ref (ad 0 0)), (2, .ref (am 0)), (3, .ref o), (4, .int (nI i))]) hx hb dL_law_157 hl (by decide) rfl (fun ls hl => ?_)
    refine lv_aload_n hx hb dL_law_159 rfl (lv_at hl 3 rfl) ?_
    have pq := perm_b (cOut g o (vp_updL out 0 res.toInt64)) (cMo g am mo) (wBR g ad tx' is wa st' hi')
    refine aft_p (st1 := [.int res]) (ws' := wLaw g ad am o tx' is wa st' hi' mo' (vp_updL out 0 res.toInt64)) rfl pq (perm_b (cOut g o (vp_updL out 0 res.toInt64)) (cMo g am mo') (wBR g ad tx' is wa st' hi')).symm (runV (As := []) (rest := []) ⟨hx, hb, hml, hown, hts⟩ (kX6_add l g am h6) (cwV 0 hts gL_law_X6_add rfl rfl rfl hdX6_add ⟨Nat.le_of_ble_eq_true rfl, Nat.le_of_ble_eq_true rfl⟩) hK hN (hP.perm pq).left (hD.perm pq).left (va_recv hK hP (ci := 6) (q0 := 1) rfl rfl) rfl hl.1 rfl (Nat.le_of_ble_eq_true rfl) dL_law_160 ⟨hro.1, hro.2⟩) hP hD hS hA (fun H locs hP hD hS => ?_)
    refine lv_istore (lv' := [(6, .int res), (5, .int 0), (0, .ref b), (1, .ref (ad 0 0)), (2, .ref (am 0)), (3, .ref o), (4, .int (nI i))]) hx hb dL_law_163 hl (by decide) rfl (fun ls hl => ?_)
    refine lv_aload_n hx hb dL_law_165 rfl (lv_at hl 4 rfl) ?_
    have pq := perm_b (cOut g o (vp_updL out 0 res.toInt64)) (cMo g am mo') (wBR g ad tx' is wa st' hi')
    refine aft_p (st1 := [.int (Mo_thrown mo')]) (ws' := wLaw g ad am o tx' is wa st' hi' mo' (vp_updL out 0 res.toInt64)) rfl pq (perm_b (cOut g o (vp_updL out 0 res.toInt64)) (cMo g am mo') (wBR g ad tx' is wa st' hi')).symm (runV (As := []) (rest := []) ⟨hx, hb, hml, hown, hts⟩ (kX6_thrown l g am (res := Mo_thrown mo') rfl) (cwV 0 hts gL_law_X6_thrown rfl rfl rfl hdX6_thrown ⟨Nat.le_of_ble_eq_true rfl, Nat.le_of_ble_eq_true rfl⟩) hK hN (hP.perm pq).left (hD.perm pq).left (va_recv hK hP (ci := 6) (q0 := 1) rfl rfl) rfl hl.1 rfl (Nat.le_of_ble_eq_true rfl) dL_law_166 ⟨hro.1, hro.2⟩) hP hD hS hA (fun H locs hP hD hS => ?_)
    refine lv_iload hx hb dL_law_169 (lv_at hl 1 rfl) ?_
    refine lv_icmp_eq (tgt := 176) hx hb dL_law_171 (by decide) (fun _ => ?_) (fun c9 => absurd h7 c9)
    refine lv_iload hx hb dL_law_176 (lv_at hl 1 rfl) ?_
    refine lv_if_ne (tgt := 193) hx hb dL_law_178 (by decide) (fun c9 => absurd rfl c9) (fun _ => ?_)
    refine lv_aload_n hx hb dL_law_181 rfl (lv_at hl 5 rfl) ?_
    refine lv_iconst (v := 0) hx hb dL_law_182 (by decide) ?_
    refine va_lald hx hb hK hP 0 2 rfl rfl (inb_in (i := 0) (n := 1) (by decide)) dL_law_183 ?_
    refine lv_eql (z := res.toInt64) rfl ?_
    refine lv_iload hx hb dL_law_184 (lv_at hl 0 rfl) ?_
    refine lv_i2l (v := res.toInt64) hx hb dL_law_186 rfl ?_
    refine W.lcmp hx hb dL_law_187 ?_
    refine lv_if_eq (tgt := 193) hx hb dL_law_188 (by decide) (fun _ => ?_) (fun c9 => absurd (cmp_self _) c9)
    refine lv_goto (tgt := 1382) hx hb dL_law_193 (by decide) ?_
    exact next _ _ _ _ _ _ _ _ _ _ hJ' hP hD hS (lv_sub hl [2, 3, 4, 5, 6] rfl)
  · refine lv_aload_n hx hb dL_law_152 rfl (lv_at hl 1 rfl) ?_
    refine lv_aload_n hx hb dL_law_153 rfl (lv_at hl 3 rfl) ?_
    have pq := perm_a (cOut g o out) (cMo g am mo) (wBR g ad tx is wa st hi)
    refine aftm_p (st1 := [.int 1]) (ws' := wLaw g ad am o tx is wa st hi mo out) rfl pq (perm_a (cOut g o out) (cMo g am mo) (wBR g ad tx is wa st hi)).symm (runL (As := [.ref (ad 0 0), .ref o]) (rest := []) ⟨hx, hb, hml, hown, hts⟩ (wL_add_2 l hst g ad o (out := out) h5) (vx_cwSW 2 hts gL_law_L_add rfl rfl rfl hdL_add ⟨Nat.le_of_ble_eq_true rfl, Nat.le_of_ble_eq_true rfl⟩) hK hN hX hZ (hP.perm pq).left (hD.perm pq).left hS hA rfl hl.1 rfl (Nat.le_of_ble_eq_true rfl) dL_law_154 hro) hP hD hS hA (fun H locs hP hD hS => ?_)
    refine lv_istore (lv' := [(5, .int 1), (0, .ref b), (1, .ref (ad 0 0)), (2, .ref (am 0)), (3, .ref o), (4, .int (nI i))]) hx hb dL_law_157 hl (by decide) rfl (fun ls hl => ?_)
    refine lv_aload_n hx hb dL_law_159 rfl (lv_at hl 3 rfl) ?_
    have pq := perm_b (cOut g o out) (cMo g am mo) (wBR g ad tx is wa st hi)
    refine aft_p (st1 := [.int b9]) (ws' := wLaw g ad am o tx is wa st hi mo' out) rfl pq (perm_b (cOut g o out) (cMo g am mo') (wBR g ad tx is wa st hi)).symm (runV (As := []) (rest := []) ⟨hx, hb, hml, hown, hts⟩ (kX6_add l g am h6) (cwV 0 hts gL_law_X6_add rfl rfl rfl hdX6_add ⟨Nat.le_of_ble_eq_true rfl, Nat.le_of_ble_eq_true rfl⟩) hK hN (hP.perm pq).left (hD.perm pq).left (va_recv hK hP (ci := 6) (q0 := 1) rfl rfl) rfl hl.1 rfl (Nat.le_of_ble_eq_true rfl) dL_law_160 ⟨hro.1, hro.2⟩) hP hD hS hA (fun H locs hP hD hS => ?_)
    refine lv_istore (lv' := [(6, .int b9), (5, .int 1), (0, .ref b), (1, .ref (ad 0 0)), (2, .ref (am 0)), (3, .ref o), (4, .int (nI i))]) hx hb dL_law_163 hl (by decide) rfl (fun ls hl => ?_)
    refine lv_aload_n hx hb dL_law_165 rfl (lv_at hl 4 rfl) ?_
    have pq := perm_b (cOut g o out) (cMo g am mo') (wBR g ad tx is wa st hi)
    refine aft_p (st1 := [.int (Mo_thrown mo')]) (ws' := wLaw g ad am o tx is wa st hi mo' out) rfl pq (perm_b (cOut g o out) (cMo g am mo') (wBR g ad tx is wa st hi)).symm (runV (As := []) (rest := []) ⟨hx, hb, hml, hown, hts⟩ (kX6_thrown l g am (res := Mo_thrown mo') rfl) (cwV 0 hts gL_law_X6_thrown rfl rfl rfl hdX6_thrown ⟨Nat.le_of_ble_eq_true rfl, Nat.le_of_ble_eq_true rfl⟩) hK hN (hP.perm pq).left (hD.perm pq).left (va_recv hK hP (ci := 6) (q0 := 1) rfl rfl) rfl hl.1 rfl (Nat.le_of_ble_eq_true rfl) dL_law_166 ⟨hro.1, hro.2⟩) hP hD hS hA (fun H locs hP hD hS => ?_)
    refine lv_iload hx hb dL_law_169 (lv_at hl 1 rfl) ?_
    refine lv_icmp_eq (tgt := 176) hx hb dL_law_171 (by decide) (fun _ => ?_) (fun c9 => absurd h7 c9)
    refine lv_iload hx hb dL_law_176 (lv_at hl 1 rfl) ?_
    refine lv_if_ne (tgt := 193) hx hb dL_law_178 (by decide) (fun _ => ?_) (fun c9 => absurd c9 (by decide))
    refine lv_goto (tgt := 1382) hx hb dL_law_193 (by decide) ?_
    exact next _ _ _ _ _ _ _ _ _ _ hJ' hP hD hS (lv_sub hl [2, 3, 4, 5, 6] rfl)
set_option maxRecDepth 100000 in
set_option maxHeartbeats 8000000 in
theorem law_set {p : Program} {l : Launch} {e : Env} {s : State} {m : MethodId} {args : Array Value} {below : List Frame} {meth : Method} {c : Code} {b L : Nat} {xs : Nat → Int32} {g : GG} {A : Nat → Prop} {Q : State → Prop} (hst : l.stackTraces = false) (LC : LCx p s m args c b L xs g A) {J : Nat → Tx → Is → Wa → St → Hi → Mo → Prop} (ad : Nat → Nat → Nat) (am : Nat → Nat) (o i j : Nat) {tx : Tx} {is : Is} {wa : Wa} {st : St} {hi : Hi} {mo : Mo} {out : Nat → Int64} {H : Heap} {locs : List Loc} {ls : Array Slot} (cells slots : Nat) (hL : L ≤ 2048) (hiL : i + 4 ≤ L) (hj : j < 512) (hro : cells + 1 ≤ 607796 ∧ slots + 6 ≤ 7272716) (hJ : J j tx is wa st hi mo) (hP : va_P g.1 vwCl (wLaw g ad am o tx is wa st hi mo out) H) (hD : va_D A (wLaw g ad am o tx is wa st hi mo out)) (hS : va_S A s.heap H locs) (hl : lv_has ls 9 [(0, .ref b), (1, .ref (ad 0 0)), (2, .ref (am 0)), (3, .ref o), (4, .int (nI i))]) (hop : Op_set J) (next : ∀ (tx : Tx) (is : Is) (wa : Wa) (st : St) (hi : Hi) (mo : Mo) (out : Nat → Int64) (H : Heap) (locs : List Loc) (ls : Array Slot), J (j + 1) tx is wa st hi mo → va_P g.1 vwCl (wLaw g ad am o tx is wa st hi mo out) H → va_D A (wLaw g ad am o tx is wa st hi mo out) → va_S A s.heap H locs → lv_has ls 9 [(0, .ref b), (1, .ref (ad 0 0)), (2, .ref (am 0)), (3, .ref o), (4, .int (nI i))] → W p l e room_1 s m args below meth c H locs (cells + 1) (slots + 6) Q (F0 m 1382 ls [])) : W p l e room_1 s m args below meth c H locs cells slots Q (F0 m 196 ls []) := by
  obtain ⟨hx, hb, hml, hown, hts, hK, hN, hX, hA, hXs, hbl, hbA, hZ⟩ := LC
  rcases hop j tx is wa st hi mo (xs (nI (i + 1)).toNatClampNeg) (xs (nI (i + 2)).toNatClampNeg) hj hJ with ⟨res, st', hi', mo', h5, h6, h7, hJ'⟩ | ⟨b9, mo', h5, h6, h7, hJ'⟩ | ⟨b9, mo', h5, h6, h7, hJ'⟩
  · refine lv_aload_n hx hb dL_law_196 rfl (lv_at hl 1 rfl) ?_
    refine lv_aload_n hx hb dL_law_197 rfl (lv_at hl 0 rfl) ?_
    refine lv_iload hx hb dL_law_198 (lv_at hl 4 rfl) ?_
    refine lv_iconst (v := 1) hx hb dL_law_200 (by decide) ?_
    refine lv_iadd hx hb dL_law_201 ?_
    refine lv_eqi (z := nI (i + 1)) (nI_add i 1) ?_
    refine va_sld hx hb hXs hbl hbA hS (vp_in_nI (by omega) (by omega)) dL_law_202 ?_
    refine lv_aload_n hx hb dL_law_203 rfl (lv_at hl 0 rfl) ?_
    refine lv_iload hx hb dL_law_204 (lv_at hl 4 rfl) ?_
    refine lv_iconst (v := 2) hx hb dL_law_206 (by decide) ?_
    refine lv_iadd hx hb dL_law_207 ?_
    refine lv_eqi (z := nI (i + 2)) (nI_add i 2) ?_
    refine va_sld hx hb hXs hbl hbA hS (vp_in_nI (by omega) (by omega)) dL_law_208 ?_
    refine lv_aload_n hx hb dL_law_209 rfl (lv_at hl 3 rfl) ?_
    have pq := perm_a (cOut g o out) (cMo g am mo) (wBR g ad tx is wa st hi)
    refine aftm_p (st1 := [.int 0]) (ws' := wLaw g ad am o tx is wa st' hi' mo (vp_updL out 0 res.toInt64)) rfl pq (perm_a (cOut g o (vp_updL out 0 res.toInt64)) (cMo g am mo) (wBR g ad tx is wa st' hi')).symm (runL (As := [.ref (ad 0 0), .int (xs (nI (i + 1)).toNatClampNeg), .int (xs (nI (i + 2)).toNatClampNeg), .ref o]) (rest := []) ⟨hx, hb, hml, hown, hts⟩ (wL_set l hst g ad o (out := out) h5) (vx_cwSW 4 hts gL_law_L_set rfl rfl rfl hdL_set ⟨Nat.le_of_ble_eq_true rfl, Nat.le_of_ble_eq_true rfl⟩) hK hN hX hZ (hP.perm pq).left (hD.perm pq).left hS hA rfl hl.1 rfl (Nat.le_of_ble_eq_true rfl) dL_law_210 hro) hP hD hS hA (fun H locs hP hD hS => ?_)
    refine lv_istore (lv' := [(5, .int 0), (0, .ref b), (1, .ref (ad 0 0)), (2, .ref (am 0)), (3, .ref o), (4, .int (nI i))]) hx hb dL_law_213 hl (by decide) rfl (fun ls hl => ?_)
    refine lv_aload_n hx hb dL_law_215 rfl (lv_at hl 3 rfl) ?_
    refine lv_aload_n hx hb dL_law_216 rfl (lv_at hl 1 rfl) ?_
    refine lv_iload hx hb dL_law_217 (lv_at hl 5 rfl) ?_
    refine lv_iconst (v := 1) hx hb dL_law_219 (by decide) ?_
    refine lv_iadd hx hb dL_law_220 ?_
    refine lv_eqi (z := nI (i + 1)) (nI_add i 1) ?_
    refine va_sld hx hb hXs hbl hbA hS (vp_in_nI (by omega) (by omega)) dL_law_221 ?_
    refine lv_aload_n hx hb dL_law_222 rfl (lv_at hl 1 rfl) ?_
    refine lv_iload hx hb dL_law_223 (lv_at hl 5 rfl) ?_
    refine lv_iconst (v := 2) hx hb dL_law_225 (by decide) ?_
    refine lv_iadd hx hb dL_law_226 ?_
    refine lv_eqi (z := nI (i + 2)) (nI_add i 2) ?_
    refine va_sld hx hb hXs hbl hbA hS (vp_in_nI (by omega) (by omega)) dL_law_227 ?_
    have pq := perm_b (cOut g o (vp_updL out 0 res.toInt64)) (cMo g am mo) (wBR g ad tx is wa st' hi')
    refine aft_p (st1 := [.int res]) (ws' := wLaw g ad am o tx is wa st' hi' mo' (vp_updL out 0 res.toInt64)) rfl pq (perm_b (cOut g o (vp_updL out 0 res.toInt64)) (cMo g am mo') (wBR g ad tx is wa st' hi')).symm (runV (As := [.int (xs (nI (i + 1)).toNatClampNeg), .int (xs (nI (i + 2)).toNatClampNeg)]) (rest := []) ⟨hx, hb, hml, hown, hts⟩ (kX6_set l g am h6) (cwV 2 hts gL_law_X6_set rfl rfl rfl hdX6_set ⟨Nat.le_of_ble_eq_true rfl, Nat.le_of_ble_eq_true rfl⟩) hK hN (hP.perm pq).left (hD.perm pq).left (va_recv hK hP (ci := 6) (q0 := 1) rfl rfl) rfl hl.1 rfl (Nat.le_of_ble_eq_true rfl) dL_law_228 ⟨hro.1, hro.2⟩) hP hD hS hA (fun H locs hP hD hS => ?_)
    refine lv_istore (lv' := [(6, .int res), (5, .int 0), (0, .ref b), (1, .ref (ad 0 0)), (2, .ref (am 0)), (3, .ref o), (4, .int (nI i))]) hx hb dL_law_231 hl (by decide) rfl (fun ls hl => ?_)
    refine lv_aload_n hx hb dL_law_233 rfl (lv_at hl 4 rfl) ?_
    have pq := perm_b (cOut g o (vp_updL out 0 res.toInt64)) (cMo g am mo') (wBR g ad tx is wa st' hi')
    refine aft_p (st1 := [.int (Mo_thrown mo')]) (ws' := wLaw g ad am o tx is wa st' hi' mo' (vp_updL out 0 res.toInt64)) rfl pq (perm_b (cOut g o (vp_updL out 0 res.toInt64)) (cMo g am mo') (wBR g ad tx is wa st' hi')).symm (runV (As := []) (rest := []) ⟨hx, hb, hml, hown, hts⟩ (kX6_thrown l g am (res := Mo_thrown mo') rfl) (cwV 0 hts gL_law_X6_thrown rfl rfl rfl hdX6_thrown ⟨Nat.le_of_ble_eq_true rfl, Nat.le_of_ble_eq_true rfl⟩) hK hN (hP.perm pq).left (hD.perm pq).left (va_recv hK hP (ci := 6) (q0 := 1) rfl rfl) rfl hl.1 rfl (Nat.le_of_ble_eq_true rfl) dL_law_234 ⟨hro.1, hro.2⟩) hP hD hS hA (fun H locs hP hD hS => ?_)
    refine lv_iload hx hb dL_law_237 (lv_at hl 1 rfl) ?_
    refine lv_icmp_eq (tgt := 244) hx hb dL_law_239 (by decide) (fun _ => ?_) (fun c9 => absurd h7 c9)
    refine lv_iload hx hb dL_law_244 (lv_at hl 1 rfl) ?_
    refine lv_if_ne (tgt := 261) hx hb dL_law_246 (by decide) (fun c9 => absurd rfl c9) (fun _ => ?_)
    refine lv_aload_n hx hb dL_law_249 rfl (lv_at hl 5 rfl) ?_
    refine lv_iconst (v := 0) hx hb dL_law_250 (by decide) ?_
    refine va_lald hx hb hK hP 0 2 rfl rfl (inb_in (i := 0) (n := 1) (by decide)) dL_law_251 ?_
    refine lv_eql (z := res.toInt64) rfl ?_
    refine lv_iload hx hb dL_law_252 (lv_at hl 0 rfl) ?_
    refine lv_i2l (v := res.toInt64) hx hb dL_law_254 rfl ?_
    refine W.lcmp hx hb dL_law_255 ?_
    refine lv_if_eq (tgt := 261) hx hb dL_law_256 (by decide) (fun _ => ?_) (fun c9 => absurd (cmp_self _) c9)
    refine lv_goto (tgt := 1382) hx hb dL_law_261 (by decide) ?_
    exact next _ _ _ _ _ _ _ _ _ _ hJ' hP hD hS (lv_sub hl [2, 3, 4, 5, 6] rfl)
  · refine lv_aload_n hx hb dL_law_196 rfl (lv_at hl 1 rfl) ?_
    refine lv_aload_n hx hb dL_law_197 rfl (lv_at hl 0 rfl) ?_
    refine lv_iload hx hb dL_law_198 (lv_at hl 4 rfl) ?_
    refine lv_iconst (v := 1) hx hb dL_law_200 (by decide) ?_
    refine lv_iadd hx hb dL_law_201 ?_
    refine lv_eqi (z := nI (i + 1)) (nI_add i 1) ?_
    refine va_sld hx hb hXs hbl hbA hS (vp_in_nI (by omega) (by omega)) dL_law_202 ?_
    refine lv_aload_n hx hb dL_law_203 rfl (lv_at hl 0 rfl) ?_
    refine lv_iload hx hb dL_law_204 (lv_at hl 4 rfl) ?_
    refine lv_iconst (v := 2) hx hb dL_law_206 (by decide) ?_
    refine lv_iadd hx hb dL_law_207 ?_
    refine lv_eqi (z := nI (i + 2)) (nI_add i 2) ?_
    refine va_sld hx hb hXs hbl hbA hS (vp_in_nI (by omega) (by omega)) dL_law_208 ?_
    refine lv_aload_n hx hb dL_law_209 rfl (lv_at hl 3 rfl) ?_
    have pq := perm_a (cOut g o out) (cMo g am mo) (wBR g ad tx is wa st hi)
    refine aftm_p (st1 := [.int 1]) (ws' := wLaw g ad am o tx is wa st hi mo out) rfl pq (perm_a (cOut g o out) (cMo g am mo) (wBR g ad tx is wa st hi)).symm (runL (As := [.ref (ad 0 0), .int (xs (nI (i + 1)).toNatClampNeg), .int (xs (nI (i + 2)).toNatClampNeg), .ref o]) (rest := []) ⟨hx, hb, hml, hown, hts⟩ (wL_set_1 l hst g ad o (out := out) h5) (vx_cwSW 4 hts gL_law_L_set rfl rfl rfl hdL_set ⟨Nat.le_of_ble_eq_true rfl, Nat.le_of_ble_eq_true rfl⟩) hK hN hX hZ (hP.perm pq).left (hD.perm pq).left hS hA rfl hl.1 rfl (Nat.le_of_ble_eq_true rfl) dL_law_210 hro) hP hD hS hA (fun H locs hP hD hS => ?_)
    refine lv_istore (lv' := [(5, .int 1), (0, .ref b), (1, .ref (ad 0 0)), (2, .ref (am 0)), (3, .ref o), (4, .int (nI i))]) hx hb dL_law_213 hl (by decide) rfl (fun ls hl => ?_)
    refine lv_aload_n hx hb dL_law_215 rfl (lv_at hl 3 rfl) ?_
    refine lv_aload_n hx hb dL_law_216 rfl (lv_at hl 1 rfl) ?_
    refine lv_iload hx hb dL_law_217 (lv_at hl 5 rfl) ?_
    refine lv_iconst (v := 1) hx hb dL_law_219 (by decide) ?_
    refine lv_iadd hx hb dL_law_220 ?_
    refine lv_eqi (z := nI (i + 1)) (nI_add i 1) ?_
    refine va_sld hx hb hXs hbl hbA hS (vp_in_nI (by omega) (by omega)) dL_law_221 ?_
    refine lv_aload_n hx hb dL_law_222 rfl (lv_at hl 1 rfl) ?_
    refine lv_iload hx hb dL_law_223 (lv_at hl 5 rfl) ?_
    refine lv_iconst (v := 2) hx hb dL_law_225 (by decide) ?_
    refine lv_iadd hx hb dL_law_226 ?_
    refine lv_eqi (z := nI (i + 2)) (nI_add i 2) ?_
    refine va_sld hx hb hXs hbl hbA hS (vp_in_nI (by omega) (by omega)) dL_law_227 ?_
    have pq := perm_b (cOut g o out) (cMo g am mo) (wBR g ad tx is wa st hi)
    refine aft_p (st1 := [.int b9]) (ws' := wLaw g ad am o tx is wa st hi mo' out) rfl pq (perm_b (cOut g o out) (cMo g am mo') (wBR g ad tx is wa st hi)).symm (runV (As := [.int (xs (nI (i + 1)).toNatClampNeg), .int (xs (nI (i + 2)).toNatClampNeg)]) (rest := []) ⟨hx, hb, hml, hown, hts⟩ (kX6_set l g am h6) (cwV 2 hts gL_law_X6_set rfl rfl rfl hdX6_set ⟨Nat.le_of_ble_eq_true rfl, Nat.le_of_ble_eq_true rfl⟩) hK hN (hP.perm pq).left (hD.perm pq).left (va_recv hK hP (ci := 6) (q0 := 1) rfl rfl) rfl hl.1 rfl (Nat.le_of_ble_eq_true rfl) dL_law_228 ⟨hro.1, hro.2⟩) hP hD hS hA (fun H locs hP hD hS => ?_)
    refine lv_istore (lv' := [(6, .int b9), (5, .int 1), (0, .ref b), (1, .ref (ad 0 0)), (2, .ref (am 0)), (3, .ref o), (4, .int (nI i))]) hx hb dL_law_231 hl (by decide) rfl (fun ls hl => ?_)
    refine lv_aload_n hx hb dL_law_233 rfl (lv_at hl 4 rfl) ?_
    have pq := perm_b (cOut g o out) (cMo g am mo') (wBR g ad tx is wa st hi)
    refine aft_p (st1 := [.int (Mo_thrown mo')]) (ws' := wLaw g ad am o tx is wa st hi mo' out) rfl pq (perm_b (cOut g o out) (cMo g am mo') (wBR g ad tx is wa st hi)).symm (runV (As := []) (rest := []) ⟨hx, hb, hml, hown, hts⟩ (kX6_thrown l g am (res := Mo_thrown mo') rfl) (cwV 0 hts gL_law_X6_thrown rfl rfl rfl hdX6_thrown ⟨Nat.le_of_ble_eq_true rfl, Nat.le_of_ble_eq_true rfl⟩) hK hN (hP.perm pq).left (hD.perm pq).left (va_recv hK hP (ci := 6) (q0 := 1) rfl rfl) rfl hl.1 rfl (Nat.le_of_ble_eq_true rfl) dL_law_234 ⟨hro.1, hro.2⟩) hP hD hS hA (fun H locs hP hD hS => ?_)
    refine lv_iload hx hb dL_law_237 (lv_at hl 1 rfl) ?_
    refine lv_icmp_eq (tgt := 244) hx hb dL_law_239 (by decide) (fun _ => ?_) (fun c9 => absurd h7 c9)
    refine lv_iload hx hb dL_law_244 (lv_at hl 1 rfl) ?_
    refine lv_if_ne (tgt := 261) hx hb dL_law_246 (by decide) (fun _ => ?_) (fun c9 => absurd c9 (by decide))
    refine lv_goto (tgt := 1382) hx hb dL_law_261 (by decide) ?_
    exact next _ _ _ _ _ _ _ _ _ _ hJ' hP hD hS (lv_sub hl [2, 3, 4, 5, 6] rfl)
  · refine lv_aload_n hx hb dL_law_196 rfl (lv_at hl 1 rfl) ?_
    refine lv_aload_n hx hb dL_law_197 rfl (lv_at hl 0 rfl) ?_
    refine lv_iload hx hb dL_law_198 (lv_at hl 4 rfl) ?_
    refine lv_iconst (v := 1) hx hb dL_law_200 (by decide) ?_
    refine lv_iadd hx hb dL_law_201 ?_
    refine lv_eqi (z := nI (i + 1)) (nI_add i 1) ?_
    refine va_sld hx hb hXs hbl hbA hS (vp_in_nI (by omega) (by omega)) dL_law_202 ?_
    refine lv_aload_n hx hb dL_law_203 rfl (lv_at hl 0 rfl) ?_
    refine lv_iload hx hb dL_law_204 (lv_at hl 4 rfl) ?_
    refine lv_iconst (v := 2) hx hb dL_law_206 (by decide) ?_
    refine lv_iadd hx hb dL_law_207 ?_
    refine lv_eqi (z := nI (i + 2)) (nI_add i 2) ?_
    refine va_sld hx hb hXs hbl hbA hS (vp_in_nI (by omega) (by omega)) dL_law_208 ?_
    refine lv_aload_n hx hb dL_law_209 rfl (lv_at hl 3 rfl) ?_
    have pq := perm_a (cOut g o out) (cMo g am mo) (wBR g ad tx is wa st hi)
    refine aftm_p (st1 := [.int 2]) (ws' := wLaw g ad am o tx is wa st hi mo out) rfl pq (perm_a (cOut g o out) (cMo g am mo) (wBR g ad tx is wa st hi)).symm (runL (As := [.ref (ad 0 0), .int (xs (nI (i + 1)).toNatClampNeg), .int (xs (nI (i + 2)).toNatClampNeg), .ref o]) (rest := []) ⟨hx, hb, hml, hown, hts⟩ (wL_set_2 l hst g ad o (out := out) h5) (vx_cwSW 4 hts gL_law_L_set rfl rfl rfl hdL_set ⟨Nat.le_of_ble_eq_true rfl, Nat.le_of_ble_eq_true rfl⟩) hK hN hX hZ (hP.perm pq).left (hD.perm pq).left hS hA rfl hl.1 rfl (Nat.le_of_ble_eq_true rfl) dL_law_210 hro) hP hD hS hA (fun H locs hP hD hS => ?_)
    refine lv_istore (lv' := [(5, .int 2), (0, .ref b), (1, .ref (ad 0 0)), (2, .ref (am 0)), (3, .ref o), (4, .int (nI i))]) hx hb dL_law_213 hl (by decide) rfl (fun ls hl => ?_)
    refine lv_aload_n hx hb dL_law_215 rfl (lv_at hl 3 rfl) ?_
    refine lv_aload_n hx hb dL_law_216 rfl (lv_at hl 1 rfl) ?_
    refine lv_iload hx hb dL_law_217 (lv_at hl 5 rfl) ?_
    refine lv_iconst (v := 1) hx hb dL_law_219 (by decide) ?_
    refine lv_iadd hx hb dL_law_220 ?_
    refine lv_eqi (z := nI (i + 1)) (nI_add i 1) ?_
    refine va_sld hx hb hXs hbl hbA hS (vp_in_nI (by omega) (by omega)) dL_law_221 ?_
    refine lv_aload_n hx hb dL_law_222 rfl (lv_at hl 1 rfl) ?_
    refine lv_iload hx hb dL_law_223 (lv_at hl 5 rfl) ?_
    refine lv_iconst (v := 2) hx hb dL_law_225 (by decide) ?_
    refine lv_iadd hx hb dL_law_226 ?_
    refine lv_eqi (z := nI (i + 2)) (nI_add i 2) ?_
    refine va_sld hx hb hXs hbl hbA hS (vp_in_nI (by omega) (by omega)) dL_law_227 ?_
    have pq := perm_b (cOut g o out) (cMo g am mo) (wBR g ad tx is wa st hi)
    refine aft_p (st1 := [.int b9]) (ws' := wLaw g ad am o tx is wa st hi mo' out) rfl pq (perm_b (cOut g o out) (cMo g am mo') (wBR g ad tx is wa st hi)).symm (runV (As := [.int (xs (nI (i + 1)).toNatClampNeg), .int (xs (nI (i + 2)).toNatClampNeg)]) (rest := []) ⟨hx, hb, hml, hown, hts⟩ (kX6_set l g am h6) (cwV 2 hts gL_law_X6_set rfl rfl rfl hdX6_set ⟨Nat.le_of_ble_eq_true rfl, Nat.le_of_ble_eq_true rfl⟩) hK hN (hP.perm pq).left (hD.perm pq).left (va_recv hK hP (ci := 6) (q0 := 1) rfl rfl) rfl hl.1 rfl (Nat.le_of_ble_eq_true rfl) dL_law_228 ⟨hro.1, hro.2⟩) hP hD hS hA (fun H locs hP hD hS => ?_)
    refine lv_istore (lv' := [(6, .int b9), (5, .int 2), (0, .ref b), (1, .ref (ad 0 0)), (2, .ref (am 0)), (3, .ref o), (4, .int (nI i))]) hx hb dL_law_231 hl (by decide) rfl (fun ls hl => ?_)
    refine lv_aload_n hx hb dL_law_233 rfl (lv_at hl 4 rfl) ?_
    have pq := perm_b (cOut g o out) (cMo g am mo') (wBR g ad tx is wa st hi)
    refine aft_p (st1 := [.int (Mo_thrown mo')]) (ws' := wLaw g ad am o tx is wa st hi mo' out) rfl pq (perm_b (cOut g o out) (cMo g am mo') (wBR g ad tx is wa st hi)).symm (runV (As := []) (rest := []) ⟨hx, hb, hml, hown, hts⟩ (kX6_thrown l g am (res := Mo_thrown mo') rfl) (cwV 0 hts gL_law_X6_thrown rfl rfl rfl hdX6_thrown ⟨Nat.le_of_ble_eq_true rfl, Nat.le_of_ble_eq_true rfl⟩) hK hN (hP.perm pq).left (hD.perm pq).left (va_recv hK hP (ci := 6) (q0 := 1) rfl rfl) rfl hl.1 rfl (Nat.le_of_ble_eq_true rfl) dL_law_234 ⟨hro.1, hro.2⟩) hP hD hS hA (fun H locs hP hD hS => ?_)
    refine lv_iload hx hb dL_law_237 (lv_at hl 1 rfl) ?_
    refine lv_icmp_eq (tgt := 244) hx hb dL_law_239 (by decide) (fun _ => ?_) (fun c9 => absurd h7 c9)
    refine lv_iload hx hb dL_law_244 (lv_at hl 1 rfl) ?_
    refine lv_if_ne (tgt := 261) hx hb dL_law_246 (by decide) (fun _ => ?_) (fun c9 => absurd c9 (by decide))
    refine lv_goto (tgt := 1382) hx hb dL_law_261 (by decide) ?_
    exact next _ _ _ _ _ _ _ _ _ _ hJ' hP hD hS (lv_sub hl [2, 3, 4, 5, 6] rfl)
set_option maxRecDepth 100000 in
set_option maxHeartbeats 8000000 in
theorem law_bar {p : Program} {l : Launch} {e : Env} {s : State} {m : MethodId} {args : Array Value} {below : List Frame} {meth : Method} {c : Code} {b L : Nat} {xs : Nat → Int32} {g : GG} {A : Nat → Prop} {Q : State → Prop} (hst : l.stackTraces = false) (LC : LCx p s m args c b L xs g A) {J : Nat → Tx → Is → Wa → St → Hi → Mo → Prop} (ad : Nat → Nat → Nat) (am : Nat → Nat) (o i j : Nat) {tx : Tx} {is : Is} {wa : Wa} {st : St} {hi : Hi} {mo : Mo} {out : Nat → Int64} {H : Heap} {locs : List Loc} {ls : Array Slot} (cells slots : Nat) (hL : L ≤ 2048) (hiL : i + 4 ≤ L) (hj : j < 512) (hro : cells + 1 ≤ 607796 ∧ slots + 6 ≤ 7272716) (hJ : J j tx is wa st hi mo) (hP : va_P g.1 vwCl (wLaw g ad am o tx is wa st hi mo out) H) (hD : va_D A (wLaw g ad am o tx is wa st hi mo out)) (hS : va_S A s.heap H locs) (hl : lv_has ls 9 [(0, .ref b), (1, .ref (ad 0 0)), (2, .ref (am 0)), (3, .ref o), (4, .int (nI i))]) (hop : Op_bar J) (next : ∀ (tx : Tx) (is : Is) (wa : Wa) (st : St) (hi : Hi) (mo : Mo) (out : Nat → Int64) (H : Heap) (locs : List Loc) (ls : Array Slot), J (j + 1) tx is wa st hi mo → va_P g.1 vwCl (wLaw g ad am o tx is wa st hi mo out) H → va_D A (wLaw g ad am o tx is wa st hi mo out) → va_S A s.heap H locs → lv_has ls 9 [(0, .ref b), (1, .ref (ad 0 0)), (2, .ref (am 0)), (3, .ref o), (4, .int (nI i))] → W p l e room_1 s m args below meth c H locs (cells + 1) (slots + 6) Q (F0 m 1382 ls [])) : W p l e room_1 s m args below meth c H locs cells slots Q (F0 m 264 ls []) := by
  obtain ⟨hx, hb, hml, hown, hts, hK, hN, hX, hA, hXs, hbl, hbA, hZ⟩ := LC
  rcases hop j tx is wa st hi mo (xs (nI (i + 1)).toNatClampNeg) (xs (nI (i + 2)).toNatClampNeg) hj hJ with ⟨res, st', hi', mo', h5, h6, h7, hJ'⟩ | ⟨b9, mo', h5, h6, h7, hJ'⟩ | ⟨b9, mo', h5, h6, h7, hJ'⟩
  · refine lv_aload_n hx hb dL_law_264 rfl (lv_at hl 1 rfl) ?_
    refine lv_aload_n hx hb dL_law_265 rfl (lv_at hl 0 rfl) ?_
    refine lv_iload hx hb dL_law_266 (lv_at hl 4 rfl) ?_
    refine lv_iconst (v := 1) hx hb dL_law_268 (by decide) ?_
    refine lv_iadd hx hb dL_law_269 ?_
    refine lv_eqi (z := nI (i + 1)) (nI_add i 1) ?_
    refine va_sld hx hb hXs hbl hbA hS (vp_in_nI (by omega) (by omega)) dL_law_270 ?_
    refine lv_aload_n hx hb dL_law_271 rfl (lv_at hl 0 rfl) ?_
    refine lv_iload hx hb dL_law_272 (lv_at hl 4 rfl) ?_
    refine lv_iconst (v := 2) hx hb dL_law_274 (by decide) ?_
    refine lv_iadd hx hb dL_law_275 ?_
    refine lv_eqi (z := nI (i + 2)) (nI_add i 2) ?_
    refine va_sld hx hb hXs hbl hbA hS (vp_in_nI (by omega) (by omega)) dL_law_276 ?_
    refine lv_aload_n hx hb dL_law_277 rfl (lv_at hl 3 rfl) ?_
    have pq := perm_a (cOut g o out) (cMo g am mo) (wBR g ad tx is wa st hi)
    refine aftm_p (st1 := [.int 0]) (ws' := wLaw g ad am o tx is wa st' hi' mo (vp_updL out 0 res.toInt64)) rfl pq (perm_a (cOut g o (vp_updL out 0 res.toInt64)) (cMo g am mo) (wBR g ad tx is wa st' hi')).symm (runL (As := [.ref (ad 0 0), .int (xs (nI (i + 1)).toNatClampNeg), .int (xs (nI (i + 2)).toNatClampNeg), .ref o]) (rest := []) ⟨hx, hb, hml, hown, hts⟩ (wL_bar l hst g ad o (out := out) h5) (vx_cwSW 4 hts gL_law_L_bar rfl rfl rfl hdL_bar ⟨Nat.le_of_ble_eq_true rfl, Nat.le_of_ble_eq_true rfl⟩) hK hN hX hZ (hP.perm pq).left (hD.perm pq).left hS hA rfl hl.1 rfl (Nat.le_of_ble_eq_true rfl) dL_law_278 hro) hP hD hS hA (fun H locs hP hD hS => ?_)
    refine lv_istore (lv' := [(5, .int 0), (0, .ref b), (1, .ref (ad 0 0)), (2, .ref (am 0)), (3, .ref o), (4, .int (nI i))]) hx hb dL_law_281 hl (by decide) rfl (fun ls hl => ?_)
    refine lv_aload_n hx hb dL_law_283 rfl (lv_at hl 3 rfl) ?_
    refine lv_aload_n hx hb dL_law_284 rfl (lv_at hl 1 rfl) ?_
    refine lv_iload hx hb dL_law_285 (lv_at hl 5 rfl) ?_
    refine lv_iconst (v := 1) hx hb dL_law_287 (by decide) ?_
    refine lv_iadd hx hb dL_law_288 ?_
    refine lv_eqi (z := nI (i + 1)) (nI_add i 1) ?_
    refine va_sld hx hb hXs hbl hbA hS (vp_in_nI (by omega) (by omega)) dL_law_289 ?_
    refine lv_aload_n hx hb dL_law_290 rfl (lv_at hl 1 rfl) ?_
    refine lv_iload hx hb dL_law_291 (lv_at hl 5 rfl) ?_
    refine lv_iconst (v := 2) hx hb dL_law_293 (by decide) ?_
    refine lv_iadd hx hb dL_law_294 ?_
    refine lv_eqi (z := nI (i + 2)) (nI_add i 2) ?_
    refine va_sld hx hb hXs hbl hbA hS (vp_in_nI (by omega) (by omega)) dL_law_295 ?_
    have pq := perm_b (cOut g o (vp_updL out 0 res.toInt64)) (cMo g am mo) (wBR g ad tx is wa st' hi')
    refine aft_p (st1 := [.int res]) (ws' := wLaw g ad am o tx is wa st' hi' mo' (vp_updL out 0 res.toInt64)) rfl pq (perm_b (cOut g o (vp_updL out 0 res.toInt64)) (cMo g am mo') (wBR g ad tx is wa st' hi')).symm (runV (As := [.int (xs (nI (i + 1)).toNatClampNeg), .int (xs (nI (i + 2)).toNatClampNeg)]) (rest := []) ⟨hx, hb, hml, hown, hts⟩ (kX6_bar l g am h6) (cwV 2 hts gL_law_X6_bar rfl rfl rfl hdX6_bar ⟨Nat.le_of_ble_eq_true rfl, Nat.le_of_ble_eq_true rfl⟩) hK hN (hP.perm pq).left (hD.perm pq).left (va_recv hK hP (ci := 6) (q0 := 1) rfl rfl) rfl hl.1 rfl (Nat.le_of_ble_eq_true rfl) dL_law_296 ⟨hro.1, hro.2⟩) hP hD hS hA (fun H locs hP hD hS => ?_)
    refine lv_istore (lv' := [(6, .int res), (5, .int 0), (0, .ref b), (1, .ref (ad 0 0)), (2, .ref (am 0)), (3, .ref o), (4, .int (nI i))]) hx hb dL_law_299 hl (by decide) rfl (fun ls hl => ?_)
    refine lv_aload_n hx hb dL_law_301 rfl (lv_at hl 4 rfl) ?_
    have pq := perm_b (cOut g o (vp_updL out 0 res.toInt64)) (cMo g am mo') (wBR g ad tx is wa st' hi')
    refine aft_p (st1 := [.int (Mo_thrown mo')]) (ws' := wLaw g ad am o tx is wa st' hi' mo' (vp_updL out 0 res.toInt64)) rfl pq (perm_b (cOut g o (vp_updL out 0 res.toInt64)) (cMo g am mo') (wBR g ad tx is wa st' hi')).symm (runV (As := []) (rest := []) ⟨hx, hb, hml, hown, hts⟩ (kX6_thrown l g am (res := Mo_thrown mo') rfl) (cwV 0 hts gL_law_X6_thrown rfl rfl rfl hdX6_thrown ⟨Nat.le_of_ble_eq_true rfl, Nat.le_of_ble_eq_true rfl⟩) hK hN (hP.perm pq).left (hD.perm pq).left (va_recv hK hP (ci := 6) (q0 := 1) rfl rfl) rfl hl.1 rfl (Nat.le_of_ble_eq_true rfl) dL_law_302 ⟨hro.1, hro.2⟩) hP hD hS hA (fun H locs hP hD hS => ?_)
    refine lv_iload hx hb dL_law_305 (lv_at hl 1 rfl) ?_
    refine lv_icmp_eq (tgt := 312) hx hb dL_law_307 (by decide) (fun _ => ?_) (fun c9 => absurd h7 c9)
    refine lv_iload hx hb dL_law_312 (lv_at hl 1 rfl) ?_
    refine lv_if_ne (tgt := 329) hx hb dL_law_314 (by decide) (fun c9 => absurd rfl c9) (fun _ => ?_)
    refine lv_aload_n hx hb dL_law_317 rfl (lv_at hl 5 rfl) ?_
    refine lv_iconst (v := 0) hx hb dL_law_318 (by decide) ?_
    refine va_lald hx hb hK hP 0 2 rfl rfl (inb_in (i := 0) (n := 1) (by decide)) dL_law_319 ?_
    refine lv_eql (z := res.toInt64) rfl ?_
    refine lv_iload hx hb dL_law_320 (lv_at hl 0 rfl) ?_
    refine lv_i2l (v := res.toInt64) hx hb dL_law_322 rfl ?_
    refine W.lcmp hx hb dL_law_323 ?_
    refine lv_if_eq (tgt := 329) hx hb dL_law_324 (by decide) (fun _ => ?_) (fun c9 => absurd (cmp_self _) c9)
    refine lv_goto (tgt := 1382) hx hb dL_law_329 (by decide) ?_
    exact next _ _ _ _ _ _ _ _ _ _ hJ' hP hD hS (lv_sub hl [2, 3, 4, 5, 6] rfl)
  · refine lv_aload_n hx hb dL_law_264 rfl (lv_at hl 1 rfl) ?_
    refine lv_aload_n hx hb dL_law_265 rfl (lv_at hl 0 rfl) ?_
    refine lv_iload hx hb dL_law_266 (lv_at hl 4 rfl) ?_
    refine lv_iconst (v := 1) hx hb dL_law_268 (by decide) ?_
    refine lv_iadd hx hb dL_law_269 ?_
    refine lv_eqi (z := nI (i + 1)) (nI_add i 1) ?_
    refine va_sld hx hb hXs hbl hbA hS (vp_in_nI (by omega) (by omega)) dL_law_270 ?_
    refine lv_aload_n hx hb dL_law_271 rfl (lv_at hl 0 rfl) ?_
    refine lv_iload hx hb dL_law_272 (lv_at hl 4 rfl) ?_
    refine lv_iconst (v := 2) hx hb dL_law_274 (by decide) ?_
    refine lv_iadd hx hb dL_law_275 ?_
    refine lv_eqi (z := nI (i + 2)) (nI_add i 2) ?_
    refine va_sld hx hb hXs hbl hbA hS (vp_in_nI (by omega) (by omega)) dL_law_276 ?_
    refine lv_aload_n hx hb dL_law_277 rfl (lv_at hl 3 rfl) ?_
    have pq := perm_a (cOut g o out) (cMo g am mo) (wBR g ad tx is wa st hi)
    refine aftm_p (st1 := [.int 1]) (ws' := wLaw g ad am o tx is wa st hi mo out) rfl pq (perm_a (cOut g o out) (cMo g am mo) (wBR g ad tx is wa st hi)).symm (runL (As := [.ref (ad 0 0), .int (xs (nI (i + 1)).toNatClampNeg), .int (xs (nI (i + 2)).toNatClampNeg), .ref o]) (rest := []) ⟨hx, hb, hml, hown, hts⟩ (wL_bar_1 l hst g ad o (out := out) h5) (vx_cwSW 4 hts gL_law_L_bar rfl rfl rfl hdL_bar ⟨Nat.le_of_ble_eq_true rfl, Nat.le_of_ble_eq_true rfl⟩) hK hN hX hZ (hP.perm pq).left (hD.perm pq).left hS hA rfl hl.1 rfl (Nat.le_of_ble_eq_true rfl) dL_law_278 hro) hP hD hS hA (fun H locs hP hD hS => ?_)
    refine lv_istore (lv' := [(5, .int 1), (0, .ref b), (1, .ref (ad 0 0)), (2, .ref (am 0)), (3, .ref o), (4, .int (nI i))]) hx hb dL_law_281 hl (by decide) rfl (fun ls hl => ?_)
    refine lv_aload_n hx hb dL_law_283 rfl (lv_at hl 3 rfl) ?_
    refine lv_aload_n hx hb dL_law_284 rfl (lv_at hl 1 rfl) ?_
    refine lv_iload hx hb dL_law_285 (lv_at hl 5 rfl) ?_
    refine lv_iconst (v := 1) hx hb dL_law_287 (by decide) ?_
    refine lv_iadd hx hb dL_law_288 ?_
    refine lv_eqi (z := nI (i + 1)) (nI_add i 1) ?_
    refine va_sld hx hb hXs hbl hbA hS (vp_in_nI (by omega) (by omega)) dL_law_289 ?_
    refine lv_aload_n hx hb dL_law_290 rfl (lv_at hl 1 rfl) ?_
    refine lv_iload hx hb dL_law_291 (lv_at hl 5 rfl) ?_
    refine lv_iconst (v := 2) hx hb dL_law_293 (by decide) ?_
    refine lv_iadd hx hb dL_law_294 ?_
    refine lv_eqi (z := nI (i + 2)) (nI_add i 2) ?_
    refine va_sld hx hb hXs hbl hbA hS (vp_in_nI (by omega) (by omega)) dL_law_295 ?_
    have pq := perm_b (cOut g o out) (cMo g am mo) (wBR g ad tx is wa st hi)
    refine aft_p (st1 := [.int b9]) (ws' := wLaw g ad am o tx is wa st hi mo' out) rfl pq (perm_b (cOut g o out) (cMo g am mo') (wBR g ad tx is wa st hi)).symm (runV (As := [.int (xs (nI (i + 1)).toNatClampNeg), .int (xs (nI (i + 2)).toNatClampNeg)]) (rest := []) ⟨hx, hb, hml, hown, hts⟩ (kX6_bar l g am h6) (cwV 2 hts gL_law_X6_bar rfl rfl rfl hdX6_bar ⟨Nat.le_of_ble_eq_true rfl, Nat.le_of_ble_eq_true rfl⟩) hK hN (hP.perm pq).left (hD.perm pq).left (va_recv hK hP (ci := 6) (q0 := 1) rfl rfl) rfl hl.1 rfl (Nat.le_of_ble_eq_true rfl) dL_law_296 ⟨hro.1, hro.2⟩) hP hD hS hA (fun H locs hP hD hS => ?_)
    refine lv_istore (lv' := [(6, .int b9), (5, .int 1), (0, .ref b), (1, .ref (ad 0 0)), (2, .ref (am 0)), (3, .ref o), (4, .int (nI i))]) hx hb dL_law_299 hl (by decide) rfl (fun ls hl => ?_)
    refine lv_aload_n hx hb dL_law_301 rfl (lv_at hl 4 rfl) ?_
    have pq := perm_b (cOut g o out) (cMo g am mo') (wBR g ad tx is wa st hi)
    refine aft_p (st1 := [.int (Mo_thrown mo')]) (ws' := wLaw g ad am o tx is wa st hi mo' out) rfl pq (perm_b (cOut g o out) (cMo g am mo') (wBR g ad tx is wa st hi)).symm (runV (As := []) (rest := []) ⟨hx, hb, hml, hown, hts⟩ (kX6_thrown l g am (res := Mo_thrown mo') rfl) (cwV 0 hts gL_law_X6_thrown rfl rfl rfl hdX6_thrown ⟨Nat.le_of_ble_eq_true rfl, Nat.le_of_ble_eq_true rfl⟩) hK hN (hP.perm pq).left (hD.perm pq).left (va_recv hK hP (ci := 6) (q0 := 1) rfl rfl) rfl hl.1 rfl (Nat.le_of_ble_eq_true rfl) dL_law_302 ⟨hro.1, hro.2⟩) hP hD hS hA (fun H locs hP hD hS => ?_)
    refine lv_iload hx hb dL_law_305 (lv_at hl 1 rfl) ?_
    refine lv_icmp_eq (tgt := 312) hx hb dL_law_307 (by decide) (fun _ => ?_) (fun c9 => absurd h7 c9)
    refine lv_iload hx hb dL_law_312 (lv_at hl 1 rfl) ?_
    refine lv_if_ne (tgt := 329) hx hb dL_law_314 (by decide) (fun _ => ?_) (fun c9 => absurd c9 (by decide))
    refine lv_goto (tgt := 1382) hx hb dL_law_329 (by decide) ?_
    exact next _ _ _ _ _ _ _ _ _ _ hJ' hP hD hS (lv_sub hl [2, 3, 4, 5, 6] rfl)
  · refine lv_aload_n hx hb dL_law_264 rfl (lv_at hl 1 rfl) ?_
    refine lv_aload_n hx hb dL_law_265 rfl (lv_at hl 0 rfl) ?_
    refine lv_iload hx hb dL_law_266 (lv_at hl 4 rfl) ?_
    refine lv_iconst (v := 1) hx hb dL_law_268 (by decide) ?_
    refine lv_iadd hx hb dL_law_269 ?_
    refine lv_eqi (z := nI (i + 1)) (nI_add i 1) ?_
    refine va_sld hx hb hXs hbl hbA hS (vp_in_nI (by omega) (by omega)) dL_law_270 ?_
    refine lv_aload_n hx hb dL_law_271 rfl (lv_at hl 0 rfl) ?_
    refine lv_iload hx hb dL_law_272 (lv_at hl 4 rfl) ?_
    refine lv_iconst (v := 2) hx hb dL_law_274 (by decide) ?_
    refine lv_iadd hx hb dL_law_275 ?_
    refine lv_eqi (z := nI (i + 2)) (nI_add i 2) ?_
    refine va_sld hx hb hXs hbl hbA hS (vp_in_nI (by omega) (by omega)) dL_law_276 ?_
    refine lv_aload_n hx hb dL_law_277 rfl (lv_at hl 3 rfl) ?_
    have pq := perm_a (cOut g o out) (cMo g am mo) (wBR g ad tx is wa st hi)
    refine aftm_p (st1 := [.int 2]) (ws' := wLaw g ad am o tx is wa st hi mo out) rfl pq (perm_a (cOut g o out) (cMo g am mo) (wBR g ad tx is wa st hi)).symm (runL (As := [.ref (ad 0 0), .int (xs (nI (i + 1)).toNatClampNeg), .int (xs (nI (i + 2)).toNatClampNeg), .ref o]) (rest := []) ⟨hx, hb, hml, hown, hts⟩ (wL_bar_2 l hst g ad o (out := out) h5) (vx_cwSW 4 hts gL_law_L_bar rfl rfl rfl hdL_bar ⟨Nat.le_of_ble_eq_true rfl, Nat.le_of_ble_eq_true rfl⟩) hK hN hX hZ (hP.perm pq).left (hD.perm pq).left hS hA rfl hl.1 rfl (Nat.le_of_ble_eq_true rfl) dL_law_278 hro) hP hD hS hA (fun H locs hP hD hS => ?_)
    refine lv_istore (lv' := [(5, .int 2), (0, .ref b), (1, .ref (ad 0 0)), (2, .ref (am 0)), (3, .ref o), (4, .int (nI i))]) hx hb dL_law_281 hl (by decide) rfl (fun ls hl => ?_)
    refine lv_aload_n hx hb dL_law_283 rfl (lv_at hl 3 rfl) ?_
    refine lv_aload_n hx hb dL_law_284 rfl (lv_at hl 1 rfl) ?_
    refine lv_iload hx hb dL_law_285 (lv_at hl 5 rfl) ?_
    refine lv_iconst (v := 1) hx hb dL_law_287 (by decide) ?_
    refine lv_iadd hx hb dL_law_288 ?_
    refine lv_eqi (z := nI (i + 1)) (nI_add i 1) ?_
    refine va_sld hx hb hXs hbl hbA hS (vp_in_nI (by omega) (by omega)) dL_law_289 ?_
    refine lv_aload_n hx hb dL_law_290 rfl (lv_at hl 1 rfl) ?_
    refine lv_iload hx hb dL_law_291 (lv_at hl 5 rfl) ?_
    refine lv_iconst (v := 2) hx hb dL_law_293 (by decide) ?_
    refine lv_iadd hx hb dL_law_294 ?_
    refine lv_eqi (z := nI (i + 2)) (nI_add i 2) ?_
    refine va_sld hx hb hXs hbl hbA hS (vp_in_nI (by omega) (by omega)) dL_law_295 ?_
    have pq := perm_b (cOut g o out) (cMo g am mo) (wBR g ad tx is wa st hi)
    refine aft_p (st1 := [.int b9]) (ws' := wLaw g ad am o tx is wa st hi mo' out) rfl pq (perm_b (cOut g o out) (cMo g am mo') (wBR g ad tx is wa st hi)).symm (runV (As := [.int (xs (nI (i + 1)).toNatClampNeg), .int (xs (nI (i + 2)).toNatClampNeg)]) (rest := []) ⟨hx, hb, hml, hown, hts⟩ (kX6_bar l g am h6) (cwV 2 hts gL_law_X6_bar rfl rfl rfl hdX6_bar ⟨Nat.le_of_ble_eq_true rfl, Nat.le_of_ble_eq_true rfl⟩) hK hN (hP.perm pq).left (hD.perm pq).left (va_recv hK hP (ci := 6) (q0 := 1) rfl rfl) rfl hl.1 rfl (Nat.le_of_ble_eq_true rfl) dL_law_296 ⟨hro.1, hro.2⟩) hP hD hS hA (fun H locs hP hD hS => ?_)
    refine lv_istore (lv' := [(6, .int b9), (5, .int 2), (0, .ref b), (1, .ref (ad 0 0)), (2, .ref (am 0)), (3, .ref o), (4, .int (nI i))]) hx hb dL_law_299 hl (by decide) rfl (fun ls hl => ?_)
    refine lv_aload_n hx hb dL_law_301 rfl (lv_at hl 4 rfl) ?_
    have pq := perm_b (cOut g o out) (cMo g am mo') (wBR g ad tx is wa st hi)
    refine aft_p (st1 := [.int (Mo_thrown mo')]) (ws' := wLaw g ad am o tx is wa st hi mo' out) rfl pq (perm_b (cOut g o out) (cMo g am mo') (wBR g ad tx is wa st hi)).symm (runV (As := []) (rest := []) ⟨hx, hb, hml, hown, hts⟩ (kX6_thrown l g am (res := Mo_thrown mo') rfl) (cwV 0 hts gL_law_X6_thrown rfl rfl rfl hdX6_thrown ⟨Nat.le_of_ble_eq_true rfl, Nat.le_of_ble_eq_true rfl⟩) hK hN (hP.perm pq).left (hD.perm pq).left (va_recv hK hP (ci := 6) (q0 := 1) rfl rfl) rfl hl.1 rfl (Nat.le_of_ble_eq_true rfl) dL_law_302 ⟨hro.1, hro.2⟩) hP hD hS hA (fun H locs hP hD hS => ?_)
    refine lv_iload hx hb dL_law_305 (lv_at hl 1 rfl) ?_
    refine lv_icmp_eq (tgt := 312) hx hb dL_law_307 (by decide) (fun _ => ?_) (fun c9 => absurd h7 c9)
    refine lv_iload hx hb dL_law_312 (lv_at hl 1 rfl) ?_
    refine lv_if_ne (tgt := 329) hx hb dL_law_314 (by decide) (fun _ => ?_) (fun c9 => absurd c9 (by decide))
    refine lv_goto (tgt := 1382) hx hb dL_law_329 (by decide) ?_
    exact next _ _ _ _ _ _ _ _ _ _ hJ' hP hD hS (lv_sub hl [2, 3, 4, 5, 6] rfl)
set_option maxRecDepth 100000 in
set_option maxHeartbeats 8000000 in
theorem law_put {p : Program} {l : Launch} {e : Env} {s : State} {m : MethodId} {args : Array Value} {below : List Frame} {meth : Method} {c : Code} {b L : Nat} {xs : Nat → Int32} {g : GG} {A : Nat → Prop} {Q : State → Prop} (hst : l.stackTraces = false) (LC : LCx p s m args c b L xs g A) {J : Nat → Tx → Is → Wa → St → Hi → Mo → Prop} (ad : Nat → Nat → Nat) (am : Nat → Nat) (o i j : Nat) {tx : Tx} {is : Is} {wa : Wa} {st : St} {hi : Hi} {mo : Mo} {out : Nat → Int64} {H : Heap} {locs : List Loc} {ls : Array Slot} (cells slots : Nat) (hL : L ≤ 2048) (hiL : i + 4 ≤ L) (hj : j < 512) (hro : cells + 1 ≤ 607796 ∧ slots + 6 ≤ 7272716) (hJ : J j tx is wa st hi mo) (hP : va_P g.1 vwCl (wLaw g ad am o tx is wa st hi mo out) H) (hD : va_D A (wLaw g ad am o tx is wa st hi mo out)) (hS : va_S A s.heap H locs) (hl : lv_has ls 9 [(0, .ref b), (1, .ref (ad 0 0)), (2, .ref (am 0)), (3, .ref o), (4, .int (nI i))]) (hop : Op_put J) (next : ∀ (tx : Tx) (is : Is) (wa : Wa) (st : St) (hi : Hi) (mo : Mo) (out : Nat → Int64) (H : Heap) (locs : List Loc) (ls : Array Slot), J (j + 1) tx is wa st hi mo → va_P g.1 vwCl (wLaw g ad am o tx is wa st hi mo out) H → va_D A (wLaw g ad am o tx is wa st hi mo out) → va_S A s.heap H locs → lv_has ls 9 [(0, .ref b), (1, .ref (ad 0 0)), (2, .ref (am 0)), (3, .ref o), (4, .int (nI i))] → W p l e room_1 s m args below meth c H locs (cells + 1) (slots + 6) Q (F0 m 1382 ls [])) : W p l e room_1 s m args below meth c H locs cells slots Q (F0 m 332 ls []) := by
  obtain ⟨hx, hb, hml, hown, hts, hK, hN, hX, hA, hXs, hbl, hbA, hZ⟩ := LC
  rcases hop j tx is wa st hi mo (xs (nI (i + 1)).toNatClampNeg) (xs (nI (i + 2)).toNatClampNeg) (xs (nI (i + 3)).toNatClampNeg) hj hJ with ⟨res, wa', st', hi', mo', h5, h6, h7, hJ'⟩ | ⟨b9, mo', h5, h6, h7, hJ'⟩ | ⟨b9, mo', h5, h6, h7, hJ'⟩ | ⟨b9, mo', h5, h6, h7, hJ'⟩
  · refine lv_aload_n hx hb dL_law_332 rfl (lv_at hl 1 rfl) ?_
    refine lv_aload_n hx hb dL_law_333 rfl (lv_at hl 0 rfl) ?_
    refine lv_iload hx hb dL_law_334 (lv_at hl 4 rfl) ?_
    refine lv_iconst (v := 1) hx hb dL_law_336 (by decide) ?_
    refine lv_iadd hx hb dL_law_337 ?_
    refine lv_eqi (z := nI (i + 1)) (nI_add i 1) ?_
    refine va_sld hx hb hXs hbl hbA hS (vp_in_nI (by omega) (by omega)) dL_law_338 ?_
    refine lv_aload_n hx hb dL_law_339 rfl (lv_at hl 0 rfl) ?_
    refine lv_iload hx hb dL_law_340 (lv_at hl 4 rfl) ?_
    refine lv_iconst (v := 2) hx hb dL_law_342 (by decide) ?_
    refine lv_iadd hx hb dL_law_343 ?_
    refine lv_eqi (z := nI (i + 2)) (nI_add i 2) ?_
    refine va_sld hx hb hXs hbl hbA hS (vp_in_nI (by omega) (by omega)) dL_law_344 ?_
    refine lv_aload_n hx hb dL_law_345 rfl (lv_at hl 0 rfl) ?_
    refine lv_iload hx hb dL_law_346 (lv_at hl 4 rfl) ?_
    refine lv_iconst (v := 3) hx hb dL_law_348 (by decide) ?_
    refine lv_iadd hx hb dL_law_349 ?_
    refine lv_eqi (z := nI (i + 3)) (nI_add i 3) ?_
    refine va_sld hx hb hXs hbl hbA hS (vp_in_nI (by omega) (by omega)) dL_law_350 ?_
    refine lv_aload_n hx hb dL_law_351 rfl (lv_at hl 3 rfl) ?_
    have pq := perm_a (cOut g o out) (cMo g am mo) (wBR g ad tx is wa st hi)
    refine aftm_p (st1 := [.int 0]) (ws' := wLaw g ad am o tx is wa' st' hi' mo (vp_updL out 0 res.toInt64)) rfl pq (perm_a (cOut g o (vp_updL out 0 res.toInt64)) (cMo g am mo) (wBR g ad tx is wa' st' hi')).symm (runL (As := [.ref (ad 0 0), .int (xs (nI (i + 1)).toNatClampNeg), .int (xs (nI (i + 2)).toNatClampNeg), .int (xs (nI (i + 3)).toNatClampNeg), .ref o]) (rest := []) ⟨hx, hb, hml, hown, hts⟩ (wL_put l hst g ad o (out := out) h5) (vx_cwSW 5 hts gL_law_L_put rfl rfl rfl hdL_put ⟨Nat.le_of_ble_eq_true rfl, Nat.le_of_ble_eq_true rfl⟩) hK hN hX hZ (hP.perm pq).left (hD.perm pq).left hS hA rfl hl.1 rfl (Nat.le_of_ble_eq_true rfl) dL_law_352 hro) hP hD hS hA (fun H locs hP hD hS => ?_)
    refine lv_istore (lv' := [(5, .int 0), (0, .ref b), (1, .ref (ad 0 0)), (2, .ref (am 0)), (3, .ref o), (4, .int (nI i))]) hx hb dL_law_355 hl (by decide) rfl (fun ls hl => ?_)
    refine lv_aload_n hx hb dL_law_357 rfl (lv_at hl 3 rfl) ?_
    refine lv_aload_n hx hb dL_law_358 rfl (lv_at hl 1 rfl) ?_
    refine lv_iload hx hb dL_law_359 (lv_at hl 5 rfl) ?_
    refine lv_iconst (v := 1) hx hb dL_law_361 (by decide) ?_
    refine lv_iadd hx hb dL_law_362 ?_
    refine lv_eqi (z := nI (i + 1)) (nI_add i 1) ?_
    refine va_sld hx hb hXs hbl hbA hS (vp_in_nI (by omega) (by omega)) dL_law_363 ?_
    refine lv_aload_n hx hb dL_law_364 rfl (lv_at hl 1 rfl) ?_
    refine lv_iload hx hb dL_law_365 (lv_at hl 5 rfl) ?_
    refine lv_iconst (v := 2) hx hb dL_law_367 (by decide) ?_
    refine lv_iadd hx hb dL_law_368 ?_
    refine lv_eqi (z := nI (i + 2)) (nI_add i 2) ?_
    refine va_sld hx hb hXs hbl hbA hS (vp_in_nI (by omega) (by omega)) dL_law_369 ?_
    refine lv_aload_n hx hb dL_law_370 rfl (lv_at hl 1 rfl) ?_
    refine lv_iload hx hb dL_law_371 (lv_at hl 5 rfl) ?_
    refine lv_iconst (v := 3) hx hb dL_law_373 (by decide) ?_
    refine lv_iadd hx hb dL_law_374 ?_
    refine lv_eqi (z := nI (i + 3)) (nI_add i 3) ?_
    refine va_sld hx hb hXs hbl hbA hS (vp_in_nI (by omega) (by omega)) dL_law_375 ?_
    have pq := perm_b (cOut g o (vp_updL out 0 res.toInt64)) (cMo g am mo) (wBR g ad tx is wa' st' hi')
    refine aft_p (st1 := [.int res]) (ws' := wLaw g ad am o tx is wa' st' hi' mo' (vp_updL out 0 res.toInt64)) rfl pq (perm_b (cOut g o (vp_updL out 0 res.toInt64)) (cMo g am mo') (wBR g ad tx is wa' st' hi')).symm (runV (As := [.int (xs (nI (i + 1)).toNatClampNeg), .int (xs (nI (i + 2)).toNatClampNeg), .int (xs (nI (i + 3)).toNatClampNeg)]) (rest := []) ⟨hx, hb, hml, hown, hts⟩ (kX6_put l g am h6) (cwV 3 hts gL_law_X6_put rfl rfl rfl hdX6_put ⟨Nat.le_of_ble_eq_true rfl, Nat.le_of_ble_eq_true rfl⟩) hK hN (hP.perm pq).left (hD.perm pq).left (va_recv hK hP (ci := 6) (q0 := 1) rfl rfl) rfl hl.1 rfl (Nat.le_of_ble_eq_true rfl) dL_law_376 ⟨hro.1, hro.2⟩) hP hD hS hA (fun H locs hP hD hS => ?_)
    refine lv_istore (lv' := [(6, .int res), (5, .int 0), (0, .ref b), (1, .ref (ad 0 0)), (2, .ref (am 0)), (3, .ref o), (4, .int (nI i))]) hx hb dL_law_379 hl (by decide) rfl (fun ls hl => ?_)
    refine lv_aload_n hx hb dL_law_381 rfl (lv_at hl 4 rfl) ?_
    have pq := perm_b (cOut g o (vp_updL out 0 res.toInt64)) (cMo g am mo') (wBR g ad tx is wa' st' hi')
    refine aft_p (st1 := [.int (Mo_thrown mo')]) (ws' := wLaw g ad am o tx is wa' st' hi' mo' (vp_updL out 0 res.toInt64)) rfl pq (perm_b (cOut g o (vp_updL out 0 res.toInt64)) (cMo g am mo') (wBR g ad tx is wa' st' hi')).symm (runV (As := []) (rest := []) ⟨hx, hb, hml, hown, hts⟩ (kX6_thrown l g am (res := Mo_thrown mo') rfl) (cwV 0 hts gL_law_X6_thrown rfl rfl rfl hdX6_thrown ⟨Nat.le_of_ble_eq_true rfl, Nat.le_of_ble_eq_true rfl⟩) hK hN (hP.perm pq).left (hD.perm pq).left (va_recv hK hP (ci := 6) (q0 := 1) rfl rfl) rfl hl.1 rfl (Nat.le_of_ble_eq_true rfl) dL_law_382 ⟨hro.1, hro.2⟩) hP hD hS hA (fun H locs hP hD hS => ?_)
    refine lv_iload hx hb dL_law_385 (lv_at hl 1 rfl) ?_
    refine lv_icmp_eq (tgt := 392) hx hb dL_law_387 (by decide) (fun _ => ?_) (fun c9 => absurd h7 c9)
    refine lv_iload hx hb dL_law_392 (lv_at hl 1 rfl) ?_
    refine lv_if_ne (tgt := 409) hx hb dL_law_394 (by decide) (fun c9 => absurd rfl c9) (fun _ => ?_)
    refine lv_aload_n hx hb dL_law_397 rfl (lv_at hl 5 rfl) ?_
    refine lv_iconst (v := 0) hx hb dL_law_398 (by decide) ?_
    refine va_lald hx hb hK hP 0 2 rfl rfl (inb_in (i := 0) (n := 1) (by decide)) dL_law_399 ?_
    refine lv_eql (z := res.toInt64) rfl ?_
    refine lv_iload hx hb dL_law_400 (lv_at hl 0 rfl) ?_
    refine lv_i2l (v := res.toInt64) hx hb dL_law_402 rfl ?_
    refine W.lcmp hx hb dL_law_403 ?_
    refine lv_if_eq (tgt := 409) hx hb dL_law_404 (by decide) (fun _ => ?_) (fun c9 => absurd (cmp_self _) c9)
    refine lv_goto (tgt := 1382) hx hb dL_law_409 (by decide) ?_
    exact next _ _ _ _ _ _ _ _ _ _ hJ' hP hD hS (lv_sub hl [2, 3, 4, 5, 6] rfl)
  · refine lv_aload_n hx hb dL_law_332 rfl (lv_at hl 1 rfl) ?_
    refine lv_aload_n hx hb dL_law_333 rfl (lv_at hl 0 rfl) ?_
    refine lv_iload hx hb dL_law_334 (lv_at hl 4 rfl) ?_
    refine lv_iconst (v := 1) hx hb dL_law_336 (by decide) ?_
    refine lv_iadd hx hb dL_law_337 ?_
    refine lv_eqi (z := nI (i + 1)) (nI_add i 1) ?_
    refine va_sld hx hb hXs hbl hbA hS (vp_in_nI (by omega) (by omega)) dL_law_338 ?_
    refine lv_aload_n hx hb dL_law_339 rfl (lv_at hl 0 rfl) ?_
    refine lv_iload hx hb dL_law_340 (lv_at hl 4 rfl) ?_
    refine lv_iconst (v := 2) hx hb dL_law_342 (by decide) ?_
    refine lv_iadd hx hb dL_law_343 ?_
    refine lv_eqi (z := nI (i + 2)) (nI_add i 2) ?_
    refine va_sld hx hb hXs hbl hbA hS (vp_in_nI (by omega) (by omega)) dL_law_344 ?_
    refine lv_aload_n hx hb dL_law_345 rfl (lv_at hl 0 rfl) ?_
    refine lv_iload hx hb dL_law_346 (lv_at hl 4 rfl) ?_
    refine lv_iconst (v := 3) hx hb dL_law_348 (by decide) ?_
    refine lv_iadd hx hb dL_law_349 ?_
    refine lv_eqi (z := nI (i + 3)) (nI_add i 3) ?_
    refine va_sld hx hb hXs hbl hbA hS (vp_in_nI (by omega) (by omega)) dL_law_350 ?_
    refine lv_aload_n hx hb dL_law_351 rfl (lv_at hl 3 rfl) ?_
    have pq := perm_a (cOut g o out) (cMo g am mo) (wBR g ad tx is wa st hi)
    refine aftm_p (st1 := [.int 1]) (ws' := wLaw g ad am o tx is wa st hi mo out) rfl pq (perm_a (cOut g o out) (cMo g am mo) (wBR g ad tx is wa st hi)).symm (runL (As := [.ref (ad 0 0), .int (xs (nI (i + 1)).toNatClampNeg), .int (xs (nI (i + 2)).toNatClampNeg), .int (xs (nI (i + 3)).toNatClampNeg), .ref o]) (rest := []) ⟨hx, hb, hml, hown, hts⟩ (wL_put_1 l hst g ad o (out := out) h5) (vx_cwSW 5 hts gL_law_L_put rfl rfl rfl hdL_put ⟨Nat.le_of_ble_eq_true rfl, Nat.le_of_ble_eq_true rfl⟩) hK hN hX hZ (hP.perm pq).left (hD.perm pq).left hS hA rfl hl.1 rfl (Nat.le_of_ble_eq_true rfl) dL_law_352 hro) hP hD hS hA (fun H locs hP hD hS => ?_)
    refine lv_istore (lv' := [(5, .int 1), (0, .ref b), (1, .ref (ad 0 0)), (2, .ref (am 0)), (3, .ref o), (4, .int (nI i))]) hx hb dL_law_355 hl (by decide) rfl (fun ls hl => ?_)
    refine lv_aload_n hx hb dL_law_357 rfl (lv_at hl 3 rfl) ?_
    refine lv_aload_n hx hb dL_law_358 rfl (lv_at hl 1 rfl) ?_
    refine lv_iload hx hb dL_law_359 (lv_at hl 5 rfl) ?_
    refine lv_iconst (v := 1) hx hb dL_law_361 (by decide) ?_
    refine lv_iadd hx hb dL_law_362 ?_
    refine lv_eqi (z := nI (i + 1)) (nI_add i 1) ?_
    refine va_sld hx hb hXs hbl hbA hS (vp_in_nI (by omega) (by omega)) dL_law_363 ?_
    refine lv_aload_n hx hb dL_law_364 rfl (lv_at hl 1 rfl) ?_
    refine lv_iload hx hb dL_law_365 (lv_at hl 5 rfl) ?_
    refine lv_iconst (v := 2) hx hb dL_law_367 (by decide) ?_
    refine lv_iadd hx hb dL_law_368 ?_
    refine lv_eqi (z := nI (i + 2)) (nI_add i 2) ?_
    refine va_sld hx hb hXs hbl hbA hS (vp_in_nI (by omega) (by omega)) dL_law_369 ?_
    refine lv_aload_n hx hb dL_law_370 rfl (lv_at hl 1 rfl) ?_
    refine lv_iload hx hb dL_law_371 (lv_at hl 5 rfl) ?_
    refine lv_iconst (v := 3) hx hb dL_law_373 (by decide) ?_
    refine lv_iadd hx hb dL_law_374 ?_
    refine lv_eqi (z := nI (i + 3)) (nI_add i 3) ?_
    refine va_sld hx hb hXs hbl hbA hS (vp_in_nI (by omega) (by omega)) dL_law_375 ?_
    have pq := perm_b (cOut g o out) (cMo g am mo) (wBR g ad tx is wa st hi)
    refine aft_p (st1 := [.int b9]) (ws' := wLaw g ad am o tx is wa st hi mo' out) rfl pq (perm_b (cOut g o out) (cMo g am mo') (wBR g ad tx is wa st hi)).symm (runV (As := [.int (xs (nI (i + 1)).toNatClampNeg), .int (xs (nI (i + 2)).toNatClampNeg), .int (xs (nI (i + 3)).toNatClampNeg)]) (rest := []) ⟨hx, hb, hml, hown, hts⟩ (kX6_put l g am h6) (cwV 3 hts gL_law_X6_put rfl rfl rfl hdX6_put ⟨Nat.le_of_ble_eq_true rfl, Nat.le_of_ble_eq_true rfl⟩) hK hN (hP.perm pq).left (hD.perm pq).left (va_recv hK hP (ci := 6) (q0 := 1) rfl rfl) rfl hl.1 rfl (Nat.le_of_ble_eq_true rfl) dL_law_376 ⟨hro.1, hro.2⟩) hP hD hS hA (fun H locs hP hD hS => ?_)
    refine lv_istore (lv' := [(6, .int b9), (5, .int 1), (0, .ref b), (1, .ref (ad 0 0)), (2, .ref (am 0)), (3, .ref o), (4, .int (nI i))]) hx hb dL_law_379 hl (by decide) rfl (fun ls hl => ?_)
    refine lv_aload_n hx hb dL_law_381 rfl (lv_at hl 4 rfl) ?_
    have pq := perm_b (cOut g o out) (cMo g am mo') (wBR g ad tx is wa st hi)
    refine aft_p (st1 := [.int (Mo_thrown mo')]) (ws' := wLaw g ad am o tx is wa st hi mo' out) rfl pq (perm_b (cOut g o out) (cMo g am mo') (wBR g ad tx is wa st hi)).symm (runV (As := []) (rest := []) ⟨hx, hb, hml, hown, hts⟩ (kX6_thrown l g am (res := Mo_thrown mo') rfl) (cwV 0 hts gL_law_X6_thrown rfl rfl rfl hdX6_thrown ⟨Nat.le_of_ble_eq_true rfl, Nat.le_of_ble_eq_true rfl⟩) hK hN (hP.perm pq).left (hD.perm pq).left (va_recv hK hP (ci := 6) (q0 := 1) rfl rfl) rfl hl.1 rfl (Nat.le_of_ble_eq_true rfl) dL_law_382 ⟨hro.1, hro.2⟩) hP hD hS hA (fun H locs hP hD hS => ?_)
    refine lv_iload hx hb dL_law_385 (lv_at hl 1 rfl) ?_
    refine lv_icmp_eq (tgt := 392) hx hb dL_law_387 (by decide) (fun _ => ?_) (fun c9 => absurd h7 c9)
    refine lv_iload hx hb dL_law_392 (lv_at hl 1 rfl) ?_
    refine lv_if_ne (tgt := 409) hx hb dL_law_394 (by decide) (fun _ => ?_) (fun c9 => absurd c9 (by decide))
    refine lv_goto (tgt := 1382) hx hb dL_law_409 (by decide) ?_
    exact next _ _ _ _ _ _ _ _ _ _ hJ' hP hD hS (lv_sub hl [2, 3, 4, 5, 6] rfl)
  · refine lv_aload_n hx hb dL_law_332 rfl (lv_at hl 1 rfl) ?_
    refine lv_aload_n hx hb dL_law_333 rfl (lv_at hl 0 rfl) ?_
    refine lv_iload hx hb dL_law_334 (lv_at hl 4 rfl) ?_
    refine lv_iconst (v := 1) hx hb dL_law_336 (by decide) ?_
    refine lv_iadd hx hb dL_law_337 ?_
    refine lv_eqi (z := nI (i + 1)) (nI_add i 1) ?_
    refine va_sld hx hb hXs hbl hbA hS (vp_in_nI (by omega) (by omega)) dL_law_338 ?_
    refine lv_aload_n hx hb dL_law_339 rfl (lv_at hl 0 rfl) ?_
    refine lv_iload hx hb dL_law_340 (lv_at hl 4 rfl) ?_
    refine lv_iconst (v := 2) hx hb dL_law_342 (by decide) ?_
    refine lv_iadd hx hb dL_law_343 ?_
    refine lv_eqi (z := nI (i + 2)) (nI_add i 2) ?_
    refine va_sld hx hb hXs hbl hbA hS (vp_in_nI (by omega) (by omega)) dL_law_344 ?_
    refine lv_aload_n hx hb dL_law_345 rfl (lv_at hl 0 rfl) ?_
    refine lv_iload hx hb dL_law_346 (lv_at hl 4 rfl) ?_
    refine lv_iconst (v := 3) hx hb dL_law_348 (by decide) ?_
    refine lv_iadd hx hb dL_law_349 ?_
    refine lv_eqi (z := nI (i + 3)) (nI_add i 3) ?_
    refine va_sld hx hb hXs hbl hbA hS (vp_in_nI (by omega) (by omega)) dL_law_350 ?_
    refine lv_aload_n hx hb dL_law_351 rfl (lv_at hl 3 rfl) ?_
    have pq := perm_a (cOut g o out) (cMo g am mo) (wBR g ad tx is wa st hi)
    refine aftm_p (st1 := [.int 2]) (ws' := wLaw g ad am o tx is wa st hi mo out) rfl pq (perm_a (cOut g o out) (cMo g am mo) (wBR g ad tx is wa st hi)).symm (runL (As := [.ref (ad 0 0), .int (xs (nI (i + 1)).toNatClampNeg), .int (xs (nI (i + 2)).toNatClampNeg), .int (xs (nI (i + 3)).toNatClampNeg), .ref o]) (rest := []) ⟨hx, hb, hml, hown, hts⟩ (wL_put_2 l hst g ad o (out := out) h5) (vx_cwSW 5 hts gL_law_L_put rfl rfl rfl hdL_put ⟨Nat.le_of_ble_eq_true rfl, Nat.le_of_ble_eq_true rfl⟩) hK hN hX hZ (hP.perm pq).left (hD.perm pq).left hS hA rfl hl.1 rfl (Nat.le_of_ble_eq_true rfl) dL_law_352 hro) hP hD hS hA (fun H locs hP hD hS => ?_)
    refine lv_istore (lv' := [(5, .int 2), (0, .ref b), (1, .ref (ad 0 0)), (2, .ref (am 0)), (3, .ref o), (4, .int (nI i))]) hx hb dL_law_355 hl (by decide) rfl (fun ls hl => ?_)
    refine lv_aload_n hx hb dL_law_357 rfl (lv_at hl 3 rfl) ?_
    refine lv_aload_n hx hb dL_law_358 rfl (lv_at hl 1 rfl) ?_
    refine lv_iload hx hb dL_law_359 (lv_at hl 5 rfl) ?_
    refine lv_iconst (v := 1) hx hb dL_law_361 (by decide) ?_
    refine lv_iadd hx hb dL_law_362 ?_
    refine lv_eqi (z := nI (i + 1)) (nI_add i 1) ?_
    refine va_sld hx hb hXs hbl hbA hS (vp_in_nI (by omega) (by omega)) dL_law_363 ?_
    refine lv_aload_n hx hb dL_law_364 rfl (lv_at hl 1 rfl) ?_
    refine lv_iload hx hb dL_law_365 (lv_at hl 5 rfl) ?_
    refine lv_iconst (v := 2) hx hb dL_law_367 (by decide) ?_
    refine lv_iadd hx hb dL_law_368 ?_
    refine lv_eqi (z := nI (i + 2)) (nI_add i 2) ?_
    refine va_sld hx hb hXs hbl hbA hS (vp_in_nI (by omega) (by omega)) dL_law_369 ?_
    refine lv_aload_n hx hb dL_law_370 rfl (lv_at hl 1 rfl) ?_
    refine lv_iload hx hb dL_law_371 (lv_at hl 5 rfl) ?_
    refine lv_iconst (v := 3) hx hb dL_law_373 (by decide) ?_
    refine lv_iadd hx hb dL_law_374 ?_
    refine lv_eqi (z := nI (i + 3)) (nI_add i 3) ?_
    refine va_sld hx hb hXs hbl hbA hS (vp_in_nI (by omega) (by omega)) dL_law_375 ?_
    have pq := perm_b (cOut g o out) (cMo g am mo) (wBR g ad tx is wa st hi)
    refine aft_p (st1 := [.int b9]) (ws' := wLaw g ad am o tx is wa st hi mo' out) rfl pq (perm_b (cOut g o out) (cMo g am mo') (wBR g ad tx is wa st hi)).symm (runV (As := [.int (xs (nI (i + 1)).toNatClampNeg), .int (xs (nI (i + 2)).toNatClampNeg), .int (xs (nI (i + 3)).toNatClampNeg)]) (rest := []) ⟨hx, hb, hml, hown, hts⟩ (kX6_put l g am h6) (cwV 3 hts gL_law_X6_put rfl rfl rfl hdX6_put ⟨Nat.le_of_ble_eq_true rfl, Nat.le_of_ble_eq_true rfl⟩) hK hN (hP.perm pq).left (hD.perm pq).left (va_recv hK hP (ci := 6) (q0 := 1) rfl rfl) rfl hl.1 rfl (Nat.le_of_ble_eq_true rfl) dL_law_376 ⟨hro.1, hro.2⟩) hP hD hS hA (fun H locs hP hD hS => ?_)
    refine lv_istore (lv' := [(6, .int b9), (5, .int 2), (0, .ref b), (1, .ref (ad 0 0)), (2, .ref (am 0)), (3, .ref o), (4, .int (nI i))]) hx hb dL_law_379 hl (by decide) rfl (fun ls hl => ?_)
    refine lv_aload_n hx hb dL_law_381 rfl (lv_at hl 4 rfl) ?_
    have pq := perm_b (cOut g o out) (cMo g am mo') (wBR g ad tx is wa st hi)
    refine aft_p (st1 := [.int (Mo_thrown mo')]) (ws' := wLaw g ad am o tx is wa st hi mo' out) rfl pq (perm_b (cOut g o out) (cMo g am mo') (wBR g ad tx is wa st hi)).symm (runV (As := []) (rest := []) ⟨hx, hb, hml, hown, hts⟩ (kX6_thrown l g am (res := Mo_thrown mo') rfl) (cwV 0 hts gL_law_X6_thrown rfl rfl rfl hdX6_thrown ⟨Nat.le_of_ble_eq_true rfl, Nat.le_of_ble_eq_true rfl⟩) hK hN (hP.perm pq).left (hD.perm pq).left (va_recv hK hP (ci := 6) (q0 := 1) rfl rfl) rfl hl.1 rfl (Nat.le_of_ble_eq_true rfl) dL_law_382 ⟨hro.1, hro.2⟩) hP hD hS hA (fun H locs hP hD hS => ?_)
    refine lv_iload hx hb dL_law_385 (lv_at hl 1 rfl) ?_
    refine lv_icmp_eq (tgt := 392) hx hb dL_law_387 (by decide) (fun _ => ?_) (fun c9 => absurd h7 c9)
    refine lv_iload hx hb dL_law_392 (lv_at hl 1 rfl) ?_
    refine lv_if_ne (tgt := 409) hx hb dL_law_394 (by decide) (fun _ => ?_) (fun c9 => absurd c9 (by decide))
    refine lv_goto (tgt := 1382) hx hb dL_law_409 (by decide) ?_
    exact next _ _ _ _ _ _ _ _ _ _ hJ' hP hD hS (lv_sub hl [2, 3, 4, 5, 6] rfl)
  · refine lv_aload_n hx hb dL_law_332 rfl (lv_at hl 1 rfl) ?_
    refine lv_aload_n hx hb dL_law_333 rfl (lv_at hl 0 rfl) ?_
    refine lv_iload hx hb dL_law_334 (lv_at hl 4 rfl) ?_
    refine lv_iconst (v := 1) hx hb dL_law_336 (by decide) ?_
    refine lv_iadd hx hb dL_law_337 ?_
    refine lv_eqi (z := nI (i + 1)) (nI_add i 1) ?_
    refine va_sld hx hb hXs hbl hbA hS (vp_in_nI (by omega) (by omega)) dL_law_338 ?_
    refine lv_aload_n hx hb dL_law_339 rfl (lv_at hl 0 rfl) ?_
    refine lv_iload hx hb dL_law_340 (lv_at hl 4 rfl) ?_
    refine lv_iconst (v := 2) hx hb dL_law_342 (by decide) ?_
    refine lv_iadd hx hb dL_law_343 ?_
    refine lv_eqi (z := nI (i + 2)) (nI_add i 2) ?_
    refine va_sld hx hb hXs hbl hbA hS (vp_in_nI (by omega) (by omega)) dL_law_344 ?_
    refine lv_aload_n hx hb dL_law_345 rfl (lv_at hl 0 rfl) ?_
    refine lv_iload hx hb dL_law_346 (lv_at hl 4 rfl) ?_
    refine lv_iconst (v := 3) hx hb dL_law_348 (by decide) ?_
    refine lv_iadd hx hb dL_law_349 ?_
    refine lv_eqi (z := nI (i + 3)) (nI_add i 3) ?_
    refine va_sld hx hb hXs hbl hbA hS (vp_in_nI (by omega) (by omega)) dL_law_350 ?_
    refine lv_aload_n hx hb dL_law_351 rfl (lv_at hl 3 rfl) ?_
    have pq := perm_a (cOut g o out) (cMo g am mo) (wBR g ad tx is wa st hi)
    refine aftm_p (st1 := [.int 3]) (ws' := wLaw g ad am o tx is wa st hi mo out) rfl pq (perm_a (cOut g o out) (cMo g am mo) (wBR g ad tx is wa st hi)).symm (runL (As := [.ref (ad 0 0), .int (xs (nI (i + 1)).toNatClampNeg), .int (xs (nI (i + 2)).toNatClampNeg), .int (xs (nI (i + 3)).toNatClampNeg), .ref o]) (rest := []) ⟨hx, hb, hml, hown, hts⟩ (wL_put_3 l hst g ad o (out := out) h5) (vx_cwSW 5 hts gL_law_L_put rfl rfl rfl hdL_put ⟨Nat.le_of_ble_eq_true rfl, Nat.le_of_ble_eq_true rfl⟩) hK hN hX hZ (hP.perm pq).left (hD.perm pq).left hS hA rfl hl.1 rfl (Nat.le_of_ble_eq_true rfl) dL_law_352 hro) hP hD hS hA (fun H locs hP hD hS => ?_)
    refine lv_istore (lv' := [(5, .int 3), (0, .ref b), (1, .ref (ad 0 0)), (2, .ref (am 0)), (3, .ref o), (4, .int (nI i))]) hx hb dL_law_355 hl (by decide) rfl (fun ls hl => ?_)
    refine lv_aload_n hx hb dL_law_357 rfl (lv_at hl 3 rfl) ?_
    refine lv_aload_n hx hb dL_law_358 rfl (lv_at hl 1 rfl) ?_
    refine lv_iload hx hb dL_law_359 (lv_at hl 5 rfl) ?_
    refine lv_iconst (v := 1) hx hb dL_law_361 (by decide) ?_
    refine lv_iadd hx hb dL_law_362 ?_
    refine lv_eqi (z := nI (i + 1)) (nI_add i 1) ?_
    refine va_sld hx hb hXs hbl hbA hS (vp_in_nI (by omega) (by omega)) dL_law_363 ?_
    refine lv_aload_n hx hb dL_law_364 rfl (lv_at hl 1 rfl) ?_
    refine lv_iload hx hb dL_law_365 (lv_at hl 5 rfl) ?_
    refine lv_iconst (v := 2) hx hb dL_law_367 (by decide) ?_
    refine lv_iadd hx hb dL_law_368 ?_
    refine lv_eqi (z := nI (i + 2)) (nI_add i 2) ?_
    refine va_sld hx hb hXs hbl hbA hS (vp_in_nI (by omega) (by omega)) dL_law_369 ?_
    refine lv_aload_n hx hb dL_law_370 rfl (lv_at hl 1 rfl) ?_
    refine lv_iload hx hb dL_law_371 (lv_at hl 5 rfl) ?_
    refine lv_iconst (v := 3) hx hb dL_law_373 (by decide) ?_
    refine lv_iadd hx hb dL_law_374 ?_
    refine lv_eqi (z := nI (i + 3)) (nI_add i 3) ?_
    refine va_sld hx hb hXs hbl hbA hS (vp_in_nI (by omega) (by omega)) dL_law_375 ?_
    have pq := perm_b (cOut g o out) (cMo g am mo) (wBR g ad tx is wa st hi)
    refine aft_p (st1 := [.int b9]) (ws' := wLaw g ad am o tx is wa st hi mo' out) rfl pq (perm_b (cOut g o out) (cMo g am mo') (wBR g ad tx is wa st hi)).symm (runV (As := [.int (xs (nI (i + 1)).toNatClampNeg), .int (xs (nI (i + 2)).toNatClampNeg), .int (xs (nI (i + 3)).toNatClampNeg)]) (rest := []) ⟨hx, hb, hml, hown, hts⟩ (kX6_put l g am h6) (cwV 3 hts gL_law_X6_put rfl rfl rfl hdX6_put ⟨Nat.le_of_ble_eq_true rfl, Nat.le_of_ble_eq_true rfl⟩) hK hN (hP.perm pq).left (hD.perm pq).left (va_recv hK hP (ci := 6) (q0 := 1) rfl rfl) rfl hl.1 rfl (Nat.le_of_ble_eq_true rfl) dL_law_376 ⟨hro.1, hro.2⟩) hP hD hS hA (fun H locs hP hD hS => ?_)
    refine lv_istore (lv' := [(6, .int b9), (5, .int 3), (0, .ref b), (1, .ref (ad 0 0)), (2, .ref (am 0)), (3, .ref o), (4, .int (nI i))]) hx hb dL_law_379 hl (by decide) rfl (fun ls hl => ?_)
    refine lv_aload_n hx hb dL_law_381 rfl (lv_at hl 4 rfl) ?_
    have pq := perm_b (cOut g o out) (cMo g am mo') (wBR g ad tx is wa st hi)
    refine aft_p (st1 := [.int (Mo_thrown mo')]) (ws' := wLaw g ad am o tx is wa st hi mo' out) rfl pq (perm_b (cOut g o out) (cMo g am mo') (wBR g ad tx is wa st hi)).symm (runV (As := []) (rest := []) ⟨hx, hb, hml, hown, hts⟩ (kX6_thrown l g am (res := Mo_thrown mo') rfl) (cwV 0 hts gL_law_X6_thrown rfl rfl rfl hdX6_thrown ⟨Nat.le_of_ble_eq_true rfl, Nat.le_of_ble_eq_true rfl⟩) hK hN (hP.perm pq).left (hD.perm pq).left (va_recv hK hP (ci := 6) (q0 := 1) rfl rfl) rfl hl.1 rfl (Nat.le_of_ble_eq_true rfl) dL_law_382 ⟨hro.1, hro.2⟩) hP hD hS hA (fun H locs hP hD hS => ?_)
    refine lv_iload hx hb dL_law_385 (lv_at hl 1 rfl) ?_
    refine lv_icmp_eq (tgt := 392) hx hb dL_law_387 (by decide) (fun _ => ?_) (fun c9 => absurd h7 c9)
    refine lv_iload hx hb dL_law_392 (lv_at hl 1 rfl) ?_
    refine lv_if_ne (tgt := 409) hx hb dL_law_394 (by decide) (fun _ => ?_) (fun c9 => absurd c9 (by decide))
    refine lv_goto (tgt := 1382) hx hb dL_law_409 (by decide) ?_
    exact next _ _ _ _ _ _ _ _ _ _ hJ' hP hD hS (lv_sub hl [2, 3, 4, 5, 6] rfl)
set_option maxRecDepth 100000 in
set_option maxHeartbeats 8000000 in
theorem law_climb {p : Program} {l : Launch} {e : Env} {s : State} {m : MethodId} {args : Array Value} {below : List Frame} {meth : Method} {c : Code} {b L : Nat} {xs : Nat → Int32} {g : GG} {A : Nat → Prop} {Q : State → Prop} (hst : l.stackTraces = false) (LC : LCx p s m args c b L xs g A) {J : Nat → Tx → Is → Wa → St → Hi → Mo → Prop} (ad : Nat → Nat → Nat) (am : Nat → Nat) (o i j : Nat) {tx : Tx} {is : Is} {wa : Wa} {st : St} {hi : Hi} {mo : Mo} {out : Nat → Int64} {H : Heap} {locs : List Loc} {ls : Array Slot} (cells slots : Nat) (hL : L ≤ 2048) (hiL : i + 4 ≤ L) (hj : j < 512) (hro : cells + 1 ≤ 607796 ∧ slots + 6 ≤ 7272716) (hJ : J j tx is wa st hi mo) (hP : va_P g.1 vwCl (wLaw g ad am o tx is wa st hi mo out) H) (hD : va_D A (wLaw g ad am o tx is wa st hi mo out)) (hS : va_S A s.heap H locs) (hl : lv_has ls 9 [(0, .ref b), (1, .ref (ad 0 0)), (2, .ref (am 0)), (3, .ref o), (4, .int (nI i))]) (hop : Op_climb J) (next : ∀ (tx : Tx) (is : Is) (wa : Wa) (st : St) (hi : Hi) (mo : Mo) (out : Nat → Int64) (H : Heap) (locs : List Loc) (ls : Array Slot), J (j + 1) tx is wa st hi mo → va_P g.1 vwCl (wLaw g ad am o tx is wa st hi mo out) H → va_D A (wLaw g ad am o tx is wa st hi mo out) → va_S A s.heap H locs → lv_has ls 9 [(0, .ref b), (1, .ref (ad 0 0)), (2, .ref (am 0)), (3, .ref o), (4, .int (nI i))] → W p l e room_1 s m args below meth c H locs (cells + 1) (slots + 6) Q (F0 m 1382 ls [])) : W p l e room_1 s m args below meth c H locs cells slots Q (F0 m 412 ls []) := by
  obtain ⟨hx, hb, hml, hown, hts, hK, hN, hX, hA, hXs, hbl, hbA, hZ⟩ := LC
  rcases hop j tx is wa st hi mo (xs (nI (i + 1)).toNatClampNeg) (xs (nI (i + 2)).toNatClampNeg) hj hJ with ⟨res, st', hi', mo', h5, h6, h7, hJ'⟩ | ⟨b9, mo', h5, h6, h7, hJ'⟩ | ⟨b9, mo', h5, h6, h7, hJ'⟩
  · refine lv_aload_n hx hb dL_law_412 rfl (lv_at hl 1 rfl) ?_
    refine lv_aload_n hx hb dL_law_413 rfl (lv_at hl 0 rfl) ?_
    refine lv_iload hx hb dL_law_414 (lv_at hl 4 rfl) ?_
    refine lv_iconst (v := 1) hx hb dL_law_416 (by decide) ?_
    refine lv_iadd hx hb dL_law_417 ?_
    refine lv_eqi (z := nI (i + 1)) (nI_add i 1) ?_
    refine va_sld hx hb hXs hbl hbA hS (vp_in_nI (by omega) (by omega)) dL_law_418 ?_
    refine lv_aload_n hx hb dL_law_419 rfl (lv_at hl 0 rfl) ?_
    refine lv_iload hx hb dL_law_420 (lv_at hl 4 rfl) ?_
    refine lv_iconst (v := 2) hx hb dL_law_422 (by decide) ?_
    refine lv_iadd hx hb dL_law_423 ?_
    refine lv_eqi (z := nI (i + 2)) (nI_add i 2) ?_
    refine va_sld hx hb hXs hbl hbA hS (vp_in_nI (by omega) (by omega)) dL_law_424 ?_
    refine lv_aload_n hx hb dL_law_425 rfl (lv_at hl 3 rfl) ?_
    have pq := perm_a (cOut g o out) (cMo g am mo) (wBR g ad tx is wa st hi)
    refine aftm_p (st1 := [.int 0]) (ws' := wLaw g ad am o tx is wa st' hi' mo (vp_updL out 0 res.toInt64)) rfl pq (perm_a (cOut g o (vp_updL out 0 res.toInt64)) (cMo g am mo) (wBR g ad tx is wa st' hi')).symm (runL (As := [.ref (ad 0 0), .int (xs (nI (i + 1)).toNatClampNeg), .int (xs (nI (i + 2)).toNatClampNeg), .ref o]) (rest := []) ⟨hx, hb, hml, hown, hts⟩ (wL_climb l hst g ad o (out := out) h5) (vx_cwSW 4 hts gL_law_L_climb rfl rfl rfl hdL_climb ⟨Nat.le_of_ble_eq_true rfl, Nat.le_of_ble_eq_true rfl⟩) hK hN hX hZ (hP.perm pq).left (hD.perm pq).left hS hA rfl hl.1 rfl (Nat.le_of_ble_eq_true rfl) dL_law_426 hro) hP hD hS hA (fun H locs hP hD hS => ?_)
    refine lv_istore (lv' := [(5, .int 0), (0, .ref b), (1, .ref (ad 0 0)), (2, .ref (am 0)), (3, .ref o), (4, .int (nI i))]) hx hb dL_law_429 hl (by decide) rfl (fun ls hl => ?_)
    refine lv_aload_n hx hb dL_law_431 rfl (lv_at hl 3 rfl) ?_
    refine lv_aload_n hx hb dL_law_432 rfl (lv_at hl 1 rfl) ?_
    refine lv_iload hx hb dL_law_433 (lv_at hl 5 rfl) ?_
    refine lv_iconst (v := 1) hx hb dL_law_435 (by decide) ?_
    refine lv_iadd hx hb dL_law_436 ?_
    refine lv_eqi (z := nI (i + 1)) (nI_add i 1) ?_
    refine va_sld hx hb hXs hbl hbA hS (vp_in_nI (by omega) (by omega)) dL_law_437 ?_
    refine lv_aload_n hx hb dL_law_438 rfl (lv_at hl 1 rfl) ?_
    refine lv_iload hx hb dL_law_439 (lv_at hl 5 rfl) ?_
    refine lv_iconst (v := 2) hx hb dL_law_441 (by decide) ?_
    refine lv_iadd hx hb dL_law_442 ?_
    refine lv_eqi (z := nI (i + 2)) (nI_add i 2) ?_
    refine va_sld hx hb hXs hbl hbA hS (vp_in_nI (by omega) (by omega)) dL_law_443 ?_
    have pq := perm_b (cOut g o (vp_updL out 0 res.toInt64)) (cMo g am mo) (wBR g ad tx is wa st' hi')
    refine aft_p (st1 := [.int res]) (ws' := wLaw g ad am o tx is wa st' hi' mo' (vp_updL out 0 res.toInt64)) rfl pq (perm_b (cOut g o (vp_updL out 0 res.toInt64)) (cMo g am mo') (wBR g ad tx is wa st' hi')).symm (runV (As := [.int (xs (nI (i + 1)).toNatClampNeg), .int (xs (nI (i + 2)).toNatClampNeg)]) (rest := []) ⟨hx, hb, hml, hown, hts⟩ (kX6_climb l g am h6) (cwV 2 hts gL_law_X6_climb rfl rfl rfl hdX6_climb ⟨Nat.le_of_ble_eq_true rfl, Nat.le_of_ble_eq_true rfl⟩) hK hN (hP.perm pq).left (hD.perm pq).left (va_recv hK hP (ci := 6) (q0 := 1) rfl rfl) rfl hl.1 rfl (Nat.le_of_ble_eq_true rfl) dL_law_444 ⟨hro.1, hro.2⟩) hP hD hS hA (fun H locs hP hD hS => ?_)
    refine lv_istore (lv' := [(6, .int res), (5, .int 0), (0, .ref b), (1, .ref (ad 0 0)), (2, .ref (am 0)), (3, .ref o), (4, .int (nI i))]) hx hb dL_law_447 hl (by decide) rfl (fun ls hl => ?_)
    refine lv_aload_n hx hb dL_law_449 rfl (lv_at hl 4 rfl) ?_
    have pq := perm_b (cOut g o (vp_updL out 0 res.toInt64)) (cMo g am mo') (wBR g ad tx is wa st' hi')
    refine aft_p (st1 := [.int (Mo_thrown mo')]) (ws' := wLaw g ad am o tx is wa st' hi' mo' (vp_updL out 0 res.toInt64)) rfl pq (perm_b (cOut g o (vp_updL out 0 res.toInt64)) (cMo g am mo') (wBR g ad tx is wa st' hi')).symm (runV (As := []) (rest := []) ⟨hx, hb, hml, hown, hts⟩ (kX6_thrown l g am (res := Mo_thrown mo') rfl) (cwV 0 hts gL_law_X6_thrown rfl rfl rfl hdX6_thrown ⟨Nat.le_of_ble_eq_true rfl, Nat.le_of_ble_eq_true rfl⟩) hK hN (hP.perm pq).left (hD.perm pq).left (va_recv hK hP (ci := 6) (q0 := 1) rfl rfl) rfl hl.1 rfl (Nat.le_of_ble_eq_true rfl) dL_law_450 ⟨hro.1, hro.2⟩) hP hD hS hA (fun H locs hP hD hS => ?_)
    refine lv_iload hx hb dL_law_453 (lv_at hl 1 rfl) ?_
    refine lv_icmp_eq (tgt := 460) hx hb dL_law_455 (by decide) (fun _ => ?_) (fun c9 => absurd h7 c9)
    refine lv_iload hx hb dL_law_460 (lv_at hl 1 rfl) ?_
    refine lv_if_ne (tgt := 477) hx hb dL_law_462 (by decide) (fun c9 => absurd rfl c9) (fun _ => ?_)
    refine lv_aload_n hx hb dL_law_465 rfl (lv_at hl 5 rfl) ?_
    refine lv_iconst (v := 0) hx hb dL_law_466 (by decide) ?_
    refine va_lald hx hb hK hP 0 2 rfl rfl (inb_in (i := 0) (n := 1) (by decide)) dL_law_467 ?_
    refine lv_eql (z := res.toInt64) rfl ?_
    refine lv_iload hx hb dL_law_468 (lv_at hl 0 rfl) ?_
    refine lv_i2l (v := res.toInt64) hx hb dL_law_470 rfl ?_
    refine W.lcmp hx hb dL_law_471 ?_
    refine lv_if_eq (tgt := 477) hx hb dL_law_472 (by decide) (fun _ => ?_) (fun c9 => absurd (cmp_self _) c9)
    refine lv_goto (tgt := 1382) hx hb dL_law_477 (by decide) ?_
    exact next _ _ _ _ _ _ _ _ _ _ hJ' hP hD hS (lv_sub hl [2, 3, 4, 5, 6] rfl)
  · refine lv_aload_n hx hb dL_law_412 rfl (lv_at hl 1 rfl) ?_
    refine lv_aload_n hx hb dL_law_413 rfl (lv_at hl 0 rfl) ?_
    refine lv_iload hx hb dL_law_414 (lv_at hl 4 rfl) ?_
    refine lv_iconst (v := 1) hx hb dL_law_416 (by decide) ?_
    refine lv_iadd hx hb dL_law_417 ?_
    refine lv_eqi (z := nI (i + 1)) (nI_add i 1) ?_
    refine va_sld hx hb hXs hbl hbA hS (vp_in_nI (by omega) (by omega)) dL_law_418 ?_
    refine lv_aload_n hx hb dL_law_419 rfl (lv_at hl 0 rfl) ?_
    refine lv_iload hx hb dL_law_420 (lv_at hl 4 rfl) ?_
    refine lv_iconst (v := 2) hx hb dL_law_422 (by decide) ?_
    refine lv_iadd hx hb dL_law_423 ?_
    refine lv_eqi (z := nI (i + 2)) (nI_add i 2) ?_
    refine va_sld hx hb hXs hbl hbA hS (vp_in_nI (by omega) (by omega)) dL_law_424 ?_
    refine lv_aload_n hx hb dL_law_425 rfl (lv_at hl 3 rfl) ?_
    have pq := perm_a (cOut g o out) (cMo g am mo) (wBR g ad tx is wa st hi)
    refine aftm_p (st1 := [.int 1]) (ws' := wLaw g ad am o tx is wa st hi mo out) rfl pq (perm_a (cOut g o out) (cMo g am mo) (wBR g ad tx is wa st hi)).symm (runL (As := [.ref (ad 0 0), .int (xs (nI (i + 1)).toNatClampNeg), .int (xs (nI (i + 2)).toNatClampNeg), .ref o]) (rest := []) ⟨hx, hb, hml, hown, hts⟩ (wL_climb_1 l hst g ad o (out := out) h5) (vx_cwSW 4 hts gL_law_L_climb rfl rfl rfl hdL_climb ⟨Nat.le_of_ble_eq_true rfl, Nat.le_of_ble_eq_true rfl⟩) hK hN hX hZ (hP.perm pq).left (hD.perm pq).left hS hA rfl hl.1 rfl (Nat.le_of_ble_eq_true rfl) dL_law_426 hro) hP hD hS hA (fun H locs hP hD hS => ?_)
    refine lv_istore (lv' := [(5, .int 1), (0, .ref b), (1, .ref (ad 0 0)), (2, .ref (am 0)), (3, .ref o), (4, .int (nI i))]) hx hb dL_law_429 hl (by decide) rfl (fun ls hl => ?_)
    refine lv_aload_n hx hb dL_law_431 rfl (lv_at hl 3 rfl) ?_
    refine lv_aload_n hx hb dL_law_432 rfl (lv_at hl 1 rfl) ?_
    refine lv_iload hx hb dL_law_433 (lv_at hl 5 rfl) ?_
    refine lv_iconst (v := 1) hx hb dL_law_435 (by decide) ?_
    refine lv_iadd hx hb dL_law_436 ?_
    refine lv_eqi (z := nI (i + 1)) (nI_add i 1) ?_
    refine va_sld hx hb hXs hbl hbA hS (vp_in_nI (by omega) (by omega)) dL_law_437 ?_
    refine lv_aload_n hx hb dL_law_438 rfl (lv_at hl 1 rfl) ?_
    refine lv_iload hx hb dL_law_439 (lv_at hl 5 rfl) ?_
    refine lv_iconst (v := 2) hx hb dL_law_441 (by decide) ?_
    refine lv_iadd hx hb dL_law_442 ?_
    refine lv_eqi (z := nI (i + 2)) (nI_add i 2) ?_
    refine va_sld hx hb hXs hbl hbA hS (vp_in_nI (by omega) (by omega)) dL_law_443 ?_
    have pq := perm_b (cOut g o out) (cMo g am mo) (wBR g ad tx is wa st hi)
    refine aft_p (st1 := [.int b9]) (ws' := wLaw g ad am o tx is wa st hi mo' out) rfl pq (perm_b (cOut g o out) (cMo g am mo') (wBR g ad tx is wa st hi)).symm (runV (As := [.int (xs (nI (i + 1)).toNatClampNeg), .int (xs (nI (i + 2)).toNatClampNeg)]) (rest := []) ⟨hx, hb, hml, hown, hts⟩ (kX6_climb l g am h6) (cwV 2 hts gL_law_X6_climb rfl rfl rfl hdX6_climb ⟨Nat.le_of_ble_eq_true rfl, Nat.le_of_ble_eq_true rfl⟩) hK hN (hP.perm pq).left (hD.perm pq).left (va_recv hK hP (ci := 6) (q0 := 1) rfl rfl) rfl hl.1 rfl (Nat.le_of_ble_eq_true rfl) dL_law_444 ⟨hro.1, hro.2⟩) hP hD hS hA (fun H locs hP hD hS => ?_)
    refine lv_istore (lv' := [(6, .int b9), (5, .int 1), (0, .ref b), (1, .ref (ad 0 0)), (2, .ref (am 0)), (3, .ref o), (4, .int (nI i))]) hx hb dL_law_447 hl (by decide) rfl (fun ls hl => ?_)
    refine lv_aload_n hx hb dL_law_449 rfl (lv_at hl 4 rfl) ?_
    have pq := perm_b (cOut g o out) (cMo g am mo') (wBR g ad tx is wa st hi)
    refine aft_p (st1 := [.int (Mo_thrown mo')]) (ws' := wLaw g ad am o tx is wa st hi mo' out) rfl pq (perm_b (cOut g o out) (cMo g am mo') (wBR g ad tx is wa st hi)).symm (runV (As := []) (rest := []) ⟨hx, hb, hml, hown, hts⟩ (kX6_thrown l g am (res := Mo_thrown mo') rfl) (cwV 0 hts gL_law_X6_thrown rfl rfl rfl hdX6_thrown ⟨Nat.le_of_ble_eq_true rfl, Nat.le_of_ble_eq_true rfl⟩) hK hN (hP.perm pq).left (hD.perm pq).left (va_recv hK hP (ci := 6) (q0 := 1) rfl rfl) rfl hl.1 rfl (Nat.le_of_ble_eq_true rfl) dL_law_450 ⟨hro.1, hro.2⟩) hP hD hS hA (fun H locs hP hD hS => ?_)
    refine lv_iload hx hb dL_law_453 (lv_at hl 1 rfl) ?_
    refine lv_icmp_eq (tgt := 460) hx hb dL_law_455 (by decide) (fun _ => ?_) (fun c9 => absurd h7 c9)
    refine lv_iload hx hb dL_law_460 (lv_at hl 1 rfl) ?_
    refine lv_if_ne (tgt := 477) hx hb dL_law_462 (by decide) (fun _ => ?_) (fun c9 => absurd c9 (by decide))
    refine lv_goto (tgt := 1382) hx hb dL_law_477 (by decide) ?_
    exact next _ _ _ _ _ _ _ _ _ _ hJ' hP hD hS (lv_sub hl [2, 3, 4, 5, 6] rfl)
  · refine lv_aload_n hx hb dL_law_412 rfl (lv_at hl 1 rfl) ?_
    refine lv_aload_n hx hb dL_law_413 rfl (lv_at hl 0 rfl) ?_
    refine lv_iload hx hb dL_law_414 (lv_at hl 4 rfl) ?_
    refine lv_iconst (v := 1) hx hb dL_law_416 (by decide) ?_
    refine lv_iadd hx hb dL_law_417 ?_
    refine lv_eqi (z := nI (i + 1)) (nI_add i 1) ?_
    refine va_sld hx hb hXs hbl hbA hS (vp_in_nI (by omega) (by omega)) dL_law_418 ?_
    refine lv_aload_n hx hb dL_law_419 rfl (lv_at hl 0 rfl) ?_
    refine lv_iload hx hb dL_law_420 (lv_at hl 4 rfl) ?_
    refine lv_iconst (v := 2) hx hb dL_law_422 (by decide) ?_
    refine lv_iadd hx hb dL_law_423 ?_
    refine lv_eqi (z := nI (i + 2)) (nI_add i 2) ?_
    refine va_sld hx hb hXs hbl hbA hS (vp_in_nI (by omega) (by omega)) dL_law_424 ?_
    refine lv_aload_n hx hb dL_law_425 rfl (lv_at hl 3 rfl) ?_
    have pq := perm_a (cOut g o out) (cMo g am mo) (wBR g ad tx is wa st hi)
    refine aftm_p (st1 := [.int 2]) (ws' := wLaw g ad am o tx is wa st hi mo out) rfl pq (perm_a (cOut g o out) (cMo g am mo) (wBR g ad tx is wa st hi)).symm (runL (As := [.ref (ad 0 0), .int (xs (nI (i + 1)).toNatClampNeg), .int (xs (nI (i + 2)).toNatClampNeg), .ref o]) (rest := []) ⟨hx, hb, hml, hown, hts⟩ (wL_climb_3 l hst g ad o (out := out) h5) (vx_cwSW 4 hts gL_law_L_climb rfl rfl rfl hdL_climb ⟨Nat.le_of_ble_eq_true rfl, Nat.le_of_ble_eq_true rfl⟩) hK hN hX hZ (hP.perm pq).left (hD.perm pq).left hS hA rfl hl.1 rfl (Nat.le_of_ble_eq_true rfl) dL_law_426 hro) hP hD hS hA (fun H locs hP hD hS => ?_)
    refine lv_istore (lv' := [(5, .int 2), (0, .ref b), (1, .ref (ad 0 0)), (2, .ref (am 0)), (3, .ref o), (4, .int (nI i))]) hx hb dL_law_429 hl (by decide) rfl (fun ls hl => ?_)
    refine lv_aload_n hx hb dL_law_431 rfl (lv_at hl 3 rfl) ?_
    refine lv_aload_n hx hb dL_law_432 rfl (lv_at hl 1 rfl) ?_
    refine lv_iload hx hb dL_law_433 (lv_at hl 5 rfl) ?_
    refine lv_iconst (v := 1) hx hb dL_law_435 (by decide) ?_
    refine lv_iadd hx hb dL_law_436 ?_
    refine lv_eqi (z := nI (i + 1)) (nI_add i 1) ?_
    refine va_sld hx hb hXs hbl hbA hS (vp_in_nI (by omega) (by omega)) dL_law_437 ?_
    refine lv_aload_n hx hb dL_law_438 rfl (lv_at hl 1 rfl) ?_
    refine lv_iload hx hb dL_law_439 (lv_at hl 5 rfl) ?_
    refine lv_iconst (v := 2) hx hb dL_law_441 (by decide) ?_
    refine lv_iadd hx hb dL_law_442 ?_
    refine lv_eqi (z := nI (i + 2)) (nI_add i 2) ?_
    refine va_sld hx hb hXs hbl hbA hS (vp_in_nI (by omega) (by omega)) dL_law_443 ?_
    have pq := perm_b (cOut g o out) (cMo g am mo) (wBR g ad tx is wa st hi)
    refine aft_p (st1 := [.int b9]) (ws' := wLaw g ad am o tx is wa st hi mo' out) rfl pq (perm_b (cOut g o out) (cMo g am mo') (wBR g ad tx is wa st hi)).symm (runV (As := [.int (xs (nI (i + 1)).toNatClampNeg), .int (xs (nI (i + 2)).toNatClampNeg)]) (rest := []) ⟨hx, hb, hml, hown, hts⟩ (kX6_climb l g am h6) (cwV 2 hts gL_law_X6_climb rfl rfl rfl hdX6_climb ⟨Nat.le_of_ble_eq_true rfl, Nat.le_of_ble_eq_true rfl⟩) hK hN (hP.perm pq).left (hD.perm pq).left (va_recv hK hP (ci := 6) (q0 := 1) rfl rfl) rfl hl.1 rfl (Nat.le_of_ble_eq_true rfl) dL_law_444 ⟨hro.1, hro.2⟩) hP hD hS hA (fun H locs hP hD hS => ?_)
    refine lv_istore (lv' := [(6, .int b9), (5, .int 2), (0, .ref b), (1, .ref (ad 0 0)), (2, .ref (am 0)), (3, .ref o), (4, .int (nI i))]) hx hb dL_law_447 hl (by decide) rfl (fun ls hl => ?_)
    refine lv_aload_n hx hb dL_law_449 rfl (lv_at hl 4 rfl) ?_
    have pq := perm_b (cOut g o out) (cMo g am mo') (wBR g ad tx is wa st hi)
    refine aft_p (st1 := [.int (Mo_thrown mo')]) (ws' := wLaw g ad am o tx is wa st hi mo' out) rfl pq (perm_b (cOut g o out) (cMo g am mo') (wBR g ad tx is wa st hi)).symm (runV (As := []) (rest := []) ⟨hx, hb, hml, hown, hts⟩ (kX6_thrown l g am (res := Mo_thrown mo') rfl) (cwV 0 hts gL_law_X6_thrown rfl rfl rfl hdX6_thrown ⟨Nat.le_of_ble_eq_true rfl, Nat.le_of_ble_eq_true rfl⟩) hK hN (hP.perm pq).left (hD.perm pq).left (va_recv hK hP (ci := 6) (q0 := 1) rfl rfl) rfl hl.1 rfl (Nat.le_of_ble_eq_true rfl) dL_law_450 ⟨hro.1, hro.2⟩) hP hD hS hA (fun H locs hP hD hS => ?_)
    refine lv_iload hx hb dL_law_453 (lv_at hl 1 rfl) ?_
    refine lv_icmp_eq (tgt := 460) hx hb dL_law_455 (by decide) (fun _ => ?_) (fun c9 => absurd h7 c9)
    refine lv_iload hx hb dL_law_460 (lv_at hl 1 rfl) ?_
    refine lv_if_ne (tgt := 477) hx hb dL_law_462 (by decide) (fun _ => ?_) (fun c9 => absurd c9 (by decide))
    refine lv_goto (tgt := 1382) hx hb dL_law_477 (by decide) ?_
    exact next _ _ _ _ _ _ _ _ _ _ hJ' hP hD hS (lv_sub hl [2, 3, 4, 5, 6] rfl)
set_option maxRecDepth 100000 in
set_option maxHeartbeats 8000000 in
theorem law_turn {p : Program} {l : Launch} {e : Env} {s : State} {m : MethodId} {args : Array Value} {below : List Frame} {meth : Method} {c : Code} {b L : Nat} {xs : Nat → Int32} {g : GG} {A : Nat → Prop} {Q : State → Prop} (hst : l.stackTraces = false) (LC : LCx p s m args c b L xs g A) {J : Nat → Tx → Is → Wa → St → Hi → Mo → Prop} (ad : Nat → Nat → Nat) (am : Nat → Nat) (o i j : Nat) {tx : Tx} {is : Is} {wa : Wa} {st : St} {hi : Hi} {mo : Mo} {out : Nat → Int64} {H : Heap} {locs : List Loc} {ls : Array Slot} (cells slots : Nat) (hL : L ≤ 2048) (hiL : i + 4 ≤ L) (hj : j < 512) (hro : cells + 1 ≤ 607796 ∧ slots + 6 ≤ 7272716) (hJ : J j tx is wa st hi mo) (hP : va_P g.1 vwCl (wLaw g ad am o tx is wa st hi mo out) H) (hD : va_D A (wLaw g ad am o tx is wa st hi mo out)) (hS : va_S A s.heap H locs) (hl : lv_has ls 9 [(0, .ref b), (1, .ref (ad 0 0)), (2, .ref (am 0)), (3, .ref o), (4, .int (nI i))]) (hop : Op_turn J) (next : ∀ (tx : Tx) (is : Is) (wa : Wa) (st : St) (hi : Hi) (mo : Mo) (out : Nat → Int64) (H : Heap) (locs : List Loc) (ls : Array Slot), J (j + 1) tx is wa st hi mo → va_P g.1 vwCl (wLaw g ad am o tx is wa st hi mo out) H → va_D A (wLaw g ad am o tx is wa st hi mo out) → va_S A s.heap H locs → lv_has ls 9 [(0, .ref b), (1, .ref (ad 0 0)), (2, .ref (am 0)), (3, .ref o), (4, .int (nI i))] → W p l e room_1 s m args below meth c H locs (cells + 1) (slots + 6) Q (F0 m 1382 ls [])) : W p l e room_1 s m args below meth c H locs cells slots Q (F0 m 480 ls []) := by
  obtain ⟨hx, hb, hml, hown, hts, hK, hN, hX, hA, hXs, hbl, hbA, hZ⟩ := LC
  obtain ⟨res, st', hi', mo', h5, h6, hJ'⟩ := hop j tx is wa st hi mo hj hJ
  refine lv_aload_n hx hb dL_law_480 rfl (lv_at hl 1 rfl) ?_
  have pq := perm_c (cOut g o out) (cMo g am mo) (wBR g ad tx is wa st hi)
  refine aft_p (st1 := [.int res]) (ws' := wLaw g ad am o tx is wa st' hi' mo out) rfl pq (perm_c (cOut g o out) (cMo g am mo) (wBR g ad tx is wa st' hi')).symm (runV (As := []) (rest := []) ⟨hx, hb, hml, hown, hts⟩ (kX5_turn l g ad h5) (cwV 0 hts gL_law_X5_turn rfl rfl rfl hdX5_turn ⟨Nat.le_of_ble_eq_true rfl, Nat.le_of_ble_eq_true rfl⟩) hK hN (hP.perm pq).left (hD.perm pq).left (va_recv hK hP (ci := 5) (q0 := 7) rfl rfl) rfl hl.1 rfl (Nat.le_of_ble_eq_true rfl) dL_law_481 ⟨by have := hro.1; show cells ≤ 607796; omega, by have := hro.2; show slots ≤ 7272716; omega⟩) hP hD hS hA (fun H locs hP hD hS => ?_)
  refine lv_aload_n hx hb dL_law_484 rfl (lv_at hl 2 rfl) ?_
  have pq := perm_b (cOut g o out) (cMo g am mo) (wBR g ad tx is wa st' hi')
  refine aft_p (st1 := [.int res, .int res]) (ws' := wLaw g ad am o tx is wa st' hi' mo' out) rfl pq (perm_b (cOut g o out) (cMo g am mo') (wBR g ad tx is wa st' hi')).symm (runV (As := []) (rest := [.int res]) ⟨hx, hb, hml, hown, hts⟩ (kX6_turn l g am h6) (cwV 0 hts gL_law_X6_turn rfl rfl rfl hdX6_turn ⟨Nat.le_of_ble_eq_true rfl, Nat.le_of_ble_eq_true rfl⟩) hK hN (hP.perm pq).left (hD.perm pq).left (va_recv hK hP (ci := 6) (q0 := 1) rfl rfl) rfl hl.1 rfl (Nat.le_of_ble_eq_true rfl) dL_law_485 ⟨by have := hro.1; show cells ≤ 607796; omega, by have := hro.2; show slots ≤ 7272716; omega⟩) hP hD hS hA (fun H locs hP hD hS => ?_)
  refine lv_icmp_eq (tgt := 1382) hx hb dL_law_488 (by decide) (fun _ => ?_) (fun c9 => absurd rfl c9)
  refine W.widen (k := cells + 1) (n := slots + 6) (Nat.le_add_right _ _) (Nat.le_add_right _ _) ?_
  exact next _ _ _ _ _ _ _ _ _ _ hJ' hP hD hS (lv_sub hl [0, 1, 2, 3, 4] rfl)
set_option maxRecDepth 100000 in
set_option maxHeartbeats 8000000 in
theorem law_leave {p : Program} {l : Launch} {e : Env} {s : State} {m : MethodId} {args : Array Value} {below : List Frame} {meth : Method} {c : Code} {b L : Nat} {xs : Nat → Int32} {g : GG} {A : Nat → Prop} {Q : State → Prop} (hst : l.stackTraces = false) (LC : LCx p s m args c b L xs g A) {J : Nat → Tx → Is → Wa → St → Hi → Mo → Prop} (ad : Nat → Nat → Nat) (am : Nat → Nat) (o i j : Nat) {tx : Tx} {is : Is} {wa : Wa} {st : St} {hi : Hi} {mo : Mo} {out : Nat → Int64} {H : Heap} {locs : List Loc} {ls : Array Slot} (cells slots : Nat) (hL : L ≤ 2048) (hiL : i + 4 ≤ L) (hj : j < 512) (hro : cells + 1 ≤ 607796 ∧ slots + 6 ≤ 7272716) (hJ : J j tx is wa st hi mo) (hP : va_P g.1 vwCl (wLaw g ad am o tx is wa st hi mo out) H) (hD : va_D A (wLaw g ad am o tx is wa st hi mo out)) (hS : va_S A s.heap H locs) (hl : lv_has ls 9 [(0, .ref b), (1, .ref (ad 0 0)), (2, .ref (am 0)), (3, .ref o), (4, .int (nI i))]) (hop : Op_leave J) (next : ∀ (tx : Tx) (is : Is) (wa : Wa) (st : St) (hi : Hi) (mo : Mo) (out : Nat → Int64) (H : Heap) (locs : List Loc) (ls : Array Slot), J (j + 1) tx is wa st hi mo → va_P g.1 vwCl (wLaw g ad am o tx is wa st hi mo out) H → va_D A (wLaw g ad am o tx is wa st hi mo out) → va_S A s.heap H locs → lv_has ls 9 [(0, .ref b), (1, .ref (ad 0 0)), (2, .ref (am 0)), (3, .ref o), (4, .int (nI i))] → W p l e room_1 s m args below meth c H locs (cells + 1) (slots + 6) Q (F0 m 1382 ls [])) : W p l e room_1 s m args below meth c H locs cells slots Q (F0 m 493 ls []) := by
  obtain ⟨hx, hb, hml, hown, hts, hK, hN, hX, hA, hXs, hbl, hbA, hZ⟩ := LC
  rcases hop j tx is wa st hi mo (xs (nI (i + 1)).toNatClampNeg) hj hJ with ⟨res, st', hi', mo', h5, h6, h7, hJ'⟩ | ⟨b9, mo', h5, h6, h7, hJ'⟩ | ⟨b9, mo', h5, h6, h7, hJ'⟩
  · refine lv_aload_n hx hb dL_law_493 rfl (lv_at hl 1 rfl) ?_
    refine lv_aload_n hx hb dL_law_494 rfl (lv_at hl 0 rfl) ?_
    refine lv_iload hx hb dL_law_495 (lv_at hl 4 rfl) ?_
    refine lv_iconst (v := 1) hx hb dL_law_497 (by decide) ?_
    refine lv_iadd hx hb dL_law_498 ?_
    refine lv_eqi (z := nI (i + 1)) (nI_add i 1) ?_
    refine va_sld hx hb hXs hbl hbA hS (vp_in_nI (by omega) (by omega)) dL_law_499 ?_
    refine lv_aload_n hx hb dL_law_500 rfl (lv_at hl 3 rfl) ?_
    have pq := perm_a (cOut g o out) (cMo g am mo) (wBR g ad tx is wa st hi)
    refine aftm_p (st1 := [.int 0]) (ws' := wLaw g ad am o tx is wa st' hi' mo (vp_updL out 0 res.toInt64)) rfl pq (perm_a (cOut g o (vp_updL out 0 res.toInt64)) (cMo g am mo) (wBR g ad tx is wa st' hi')).symm (runL (As := [.ref (ad 0 0), .int (xs (nI (i + 1)).toNatClampNeg), .ref o]) (rest := []) ⟨hx, hb, hml, hown, hts⟩ (wL_leave l hst g ad o (out := out) h5) (vx_cwSW 3 hts gL_law_L_leave rfl rfl rfl hdL_leave ⟨Nat.le_of_ble_eq_true rfl, Nat.le_of_ble_eq_true rfl⟩) hK hN hX hZ (hP.perm pq).left (hD.perm pq).left hS hA rfl hl.1 rfl (Nat.le_of_ble_eq_true rfl) dL_law_501 hro) hP hD hS hA (fun H locs hP hD hS => ?_)
    refine lv_istore (lv' := [(5, .int 0), (0, .ref b), (1, .ref (ad 0 0)), (2, .ref (am 0)), (3, .ref o), (4, .int (nI i))]) hx hb dL_law_504 hl (by decide) rfl (fun ls hl => ?_)
    refine lv_aload_n hx hb dL_law_506 rfl (lv_at hl 3 rfl) ?_
    refine lv_aload_n hx hb dL_law_507 rfl (lv_at hl 1 rfl) ?_
    refine lv_iload hx hb dL_law_508 (lv_at hl 5 rfl) ?_
    refine lv_iconst (v := 1) hx hb dL_law_510 (by decide) ?_
    refine lv_iadd hx hb dL_law_511 ?_
    refine lv_eqi (z := nI (i + 1)) (nI_add i 1) ?_
    refine va_sld hx hb hXs hbl hbA hS (vp_in_nI (by omega) (by omega)) dL_law_512 ?_
    have pq := perm_b (cOut g o (vp_updL out 0 res.toInt64)) (cMo g am mo) (wBR g ad tx is wa st' hi')
    refine aft_p (st1 := [.int res]) (ws' := wLaw g ad am o tx is wa st' hi' mo' (vp_updL out 0 res.toInt64)) rfl pq (perm_b (cOut g o (vp_updL out 0 res.toInt64)) (cMo g am mo') (wBR g ad tx is wa st' hi')).symm (runV (As := [.int (xs (nI (i + 1)).toNatClampNeg)]) (rest := []) ⟨hx, hb, hml, hown, hts⟩ (kX6_leave l g am h6) (cwV 1 hts gL_law_X6_leave rfl rfl rfl hdX6_leave ⟨Nat.le_of_ble_eq_true rfl, Nat.le_of_ble_eq_true rfl⟩) hK hN (hP.perm pq).left (hD.perm pq).left (va_recv hK hP (ci := 6) (q0 := 1) rfl rfl) rfl hl.1 rfl (Nat.le_of_ble_eq_true rfl) dL_law_513 ⟨hro.1, hro.2⟩) hP hD hS hA (fun H locs hP hD hS => ?_)
    refine lv_istore (lv' := [(6, .int res), (5, .int 0), (0, .ref b), (1, .ref (ad 0 0)), (2, .ref (am 0)), (3, .ref o), (4, .int (nI i))]) hx hb dL_law_516 hl (by decide) rfl (fun ls hl => ?_)
    refine lv_aload_n hx hb dL_law_518 rfl (lv_at hl 4 rfl) ?_
    have pq := perm_b (cOut g o (vp_updL out 0 res.toInt64)) (cMo g am mo') (wBR g ad tx is wa st' hi')
    refine aft_p (st1 := [.int (Mo_thrown mo')]) (ws' := wLaw g ad am o tx is wa st' hi' mo' (vp_updL out 0 res.toInt64)) rfl pq (perm_b (cOut g o (vp_updL out 0 res.toInt64)) (cMo g am mo') (wBR g ad tx is wa st' hi')).symm (runV (As := []) (rest := []) ⟨hx, hb, hml, hown, hts⟩ (kX6_thrown l g am (res := Mo_thrown mo') rfl) (cwV 0 hts gL_law_X6_thrown rfl rfl rfl hdX6_thrown ⟨Nat.le_of_ble_eq_true rfl, Nat.le_of_ble_eq_true rfl⟩) hK hN (hP.perm pq).left (hD.perm pq).left (va_recv hK hP (ci := 6) (q0 := 1) rfl rfl) rfl hl.1 rfl (Nat.le_of_ble_eq_true rfl) dL_law_519 ⟨hro.1, hro.2⟩) hP hD hS hA (fun H locs hP hD hS => ?_)
    refine lv_iload hx hb dL_law_522 (lv_at hl 1 rfl) ?_
    refine lv_icmp_eq (tgt := 529) hx hb dL_law_524 (by decide) (fun _ => ?_) (fun c9 => absurd h7 c9)
    refine lv_iload hx hb dL_law_529 (lv_at hl 1 rfl) ?_
    refine lv_if_ne (tgt := 546) hx hb dL_law_531 (by decide) (fun c9 => absurd rfl c9) (fun _ => ?_)
    refine lv_aload_n hx hb dL_law_534 rfl (lv_at hl 5 rfl) ?_
    refine lv_iconst (v := 0) hx hb dL_law_535 (by decide) ?_
    refine va_lald hx hb hK hP 0 2 rfl rfl (inb_in (i := 0) (n := 1) (by decide)) dL_law_536 ?_
    refine lv_eql (z := res.toInt64) rfl ?_
    refine lv_iload hx hb dL_law_537 (lv_at hl 0 rfl) ?_
    refine lv_i2l (v := res.toInt64) hx hb dL_law_539 rfl ?_
    refine W.lcmp hx hb dL_law_540 ?_
    refine lv_if_eq (tgt := 546) hx hb dL_law_541 (by decide) (fun _ => ?_) (fun c9 => absurd (cmp_self _) c9)
    refine lv_goto (tgt := 1382) hx hb dL_law_546 (by decide) ?_
    exact next _ _ _ _ _ _ _ _ _ _ hJ' hP hD hS (lv_sub hl [2, 3, 4, 5, 6] rfl)
  · refine lv_aload_n hx hb dL_law_493 rfl (lv_at hl 1 rfl) ?_
    refine lv_aload_n hx hb dL_law_494 rfl (lv_at hl 0 rfl) ?_
    refine lv_iload hx hb dL_law_495 (lv_at hl 4 rfl) ?_
    refine lv_iconst (v := 1) hx hb dL_law_497 (by decide) ?_
    refine lv_iadd hx hb dL_law_498 ?_
    refine lv_eqi (z := nI (i + 1)) (nI_add i 1) ?_
    refine va_sld hx hb hXs hbl hbA hS (vp_in_nI (by omega) (by omega)) dL_law_499 ?_
    refine lv_aload_n hx hb dL_law_500 rfl (lv_at hl 3 rfl) ?_
    have pq := perm_a (cOut g o out) (cMo g am mo) (wBR g ad tx is wa st hi)
    refine aftm_p (st1 := [.int 1]) (ws' := wLaw g ad am o tx is wa st hi mo out) rfl pq (perm_a (cOut g o out) (cMo g am mo) (wBR g ad tx is wa st hi)).symm (runL (As := [.ref (ad 0 0), .int (xs (nI (i + 1)).toNatClampNeg), .ref o]) (rest := []) ⟨hx, hb, hml, hown, hts⟩ (wL_leave_1 l hst g ad o (out := out) h5) (vx_cwSW 3 hts gL_law_L_leave rfl rfl rfl hdL_leave ⟨Nat.le_of_ble_eq_true rfl, Nat.le_of_ble_eq_true rfl⟩) hK hN hX hZ (hP.perm pq).left (hD.perm pq).left hS hA rfl hl.1 rfl (Nat.le_of_ble_eq_true rfl) dL_law_501 hro) hP hD hS hA (fun H locs hP hD hS => ?_)
    refine lv_istore (lv' := [(5, .int 1), (0, .ref b), (1, .ref (ad 0 0)), (2, .ref (am 0)), (3, .ref o), (4, .int (nI i))]) hx hb dL_law_504 hl (by decide) rfl (fun ls hl => ?_)
    refine lv_aload_n hx hb dL_law_506 rfl (lv_at hl 3 rfl) ?_
    refine lv_aload_n hx hb dL_law_507 rfl (lv_at hl 1 rfl) ?_
    refine lv_iload hx hb dL_law_508 (lv_at hl 5 rfl) ?_
    refine lv_iconst (v := 1) hx hb dL_law_510 (by decide) ?_
    refine lv_iadd hx hb dL_law_511 ?_
    refine lv_eqi (z := nI (i + 1)) (nI_add i 1) ?_
    refine va_sld hx hb hXs hbl hbA hS (vp_in_nI (by omega) (by omega)) dL_law_512 ?_
    have pq := perm_b (cOut g o out) (cMo g am mo) (wBR g ad tx is wa st hi)
    refine aft_p (st1 := [.int b9]) (ws' := wLaw g ad am o tx is wa st hi mo' out) rfl pq (perm_b (cOut g o out) (cMo g am mo') (wBR g ad tx is wa st hi)).symm (runV (As := [.int (xs (nI (i + 1)).toNatClampNeg)]) (rest := []) ⟨hx, hb, hml, hown, hts⟩ (kX6_leave l g am h6) (cwV 1 hts gL_law_X6_leave rfl rfl rfl hdX6_leave ⟨Nat.le_of_ble_eq_true rfl, Nat.le_of_ble_eq_true rfl⟩) hK hN (hP.perm pq).left (hD.perm pq).left (va_recv hK hP (ci := 6) (q0 := 1) rfl rfl) rfl hl.1 rfl (Nat.le_of_ble_eq_true rfl) dL_law_513 ⟨hro.1, hro.2⟩) hP hD hS hA (fun H locs hP hD hS => ?_)
    refine lv_istore (lv' := [(6, .int b9), (5, .int 1), (0, .ref b), (1, .ref (ad 0 0)), (2, .ref (am 0)), (3, .ref o), (4, .int (nI i))]) hx hb dL_law_516 hl (by decide) rfl (fun ls hl => ?_)
    refine lv_aload_n hx hb dL_law_518 rfl (lv_at hl 4 rfl) ?_
    have pq := perm_b (cOut g o out) (cMo g am mo') (wBR g ad tx is wa st hi)
    refine aft_p (st1 := [.int (Mo_thrown mo')]) (ws' := wLaw g ad am o tx is wa st hi mo' out) rfl pq (perm_b (cOut g o out) (cMo g am mo') (wBR g ad tx is wa st hi)).symm (runV (As := []) (rest := []) ⟨hx, hb, hml, hown, hts⟩ (kX6_thrown l g am (res := Mo_thrown mo') rfl) (cwV 0 hts gL_law_X6_thrown rfl rfl rfl hdX6_thrown ⟨Nat.le_of_ble_eq_true rfl, Nat.le_of_ble_eq_true rfl⟩) hK hN (hP.perm pq).left (hD.perm pq).left (va_recv hK hP (ci := 6) (q0 := 1) rfl rfl) rfl hl.1 rfl (Nat.le_of_ble_eq_true rfl) dL_law_519 ⟨hro.1, hro.2⟩) hP hD hS hA (fun H locs hP hD hS => ?_)
    refine lv_iload hx hb dL_law_522 (lv_at hl 1 rfl) ?_
    refine lv_icmp_eq (tgt := 529) hx hb dL_law_524 (by decide) (fun _ => ?_) (fun c9 => absurd h7 c9)
    refine lv_iload hx hb dL_law_529 (lv_at hl 1 rfl) ?_
    refine lv_if_ne (tgt := 546) hx hb dL_law_531 (by decide) (fun _ => ?_) (fun c9 => absurd c9 (by decide))
    refine lv_goto (tgt := 1382) hx hb dL_law_546 (by decide) ?_
    exact next _ _ _ _ _ _ _ _ _ _ hJ' hP hD hS (lv_sub hl [2, 3, 4, 5, 6] rfl)
  · refine lv_aload_n hx hb dL_law_493 rfl (lv_at hl 1 rfl) ?_
    refine lv_aload_n hx hb dL_law_494 rfl (lv_at hl 0 rfl) ?_
    refine lv_iload hx hb dL_law_495 (lv_at hl 4 rfl) ?_
    refine lv_iconst (v := 1) hx hb dL_law_497 (by decide) ?_
    refine lv_iadd hx hb dL_law_498 ?_
    refine lv_eqi (z := nI (i + 1)) (nI_add i 1) ?_
    refine va_sld hx hb hXs hbl hbA hS (vp_in_nI (by omega) (by omega)) dL_law_499 ?_
    refine lv_aload_n hx hb dL_law_500 rfl (lv_at hl 3 rfl) ?_
    have pq := perm_a (cOut g o out) (cMo g am mo) (wBR g ad tx is wa st hi)
    refine aftm_p (st1 := [.int 2]) (ws' := wLaw g ad am o tx is wa st hi mo out) rfl pq (perm_a (cOut g o out) (cMo g am mo) (wBR g ad tx is wa st hi)).symm (runL (As := [.ref (ad 0 0), .int (xs (nI (i + 1)).toNatClampNeg), .ref o]) (rest := []) ⟨hx, hb, hml, hown, hts⟩ (wL_leave_3 l hst g ad o (out := out) h5) (vx_cwSW 3 hts gL_law_L_leave rfl rfl rfl hdL_leave ⟨Nat.le_of_ble_eq_true rfl, Nat.le_of_ble_eq_true rfl⟩) hK hN hX hZ (hP.perm pq).left (hD.perm pq).left hS hA rfl hl.1 rfl (Nat.le_of_ble_eq_true rfl) dL_law_501 hro) hP hD hS hA (fun H locs hP hD hS => ?_)
    refine lv_istore (lv' := [(5, .int 2), (0, .ref b), (1, .ref (ad 0 0)), (2, .ref (am 0)), (3, .ref o), (4, .int (nI i))]) hx hb dL_law_504 hl (by decide) rfl (fun ls hl => ?_)
    refine lv_aload_n hx hb dL_law_506 rfl (lv_at hl 3 rfl) ?_
    refine lv_aload_n hx hb dL_law_507 rfl (lv_at hl 1 rfl) ?_
    refine lv_iload hx hb dL_law_508 (lv_at hl 5 rfl) ?_
    refine lv_iconst (v := 1) hx hb dL_law_510 (by decide) ?_
    refine lv_iadd hx hb dL_law_511 ?_
    refine lv_eqi (z := nI (i + 1)) (nI_add i 1) ?_
    refine va_sld hx hb hXs hbl hbA hS (vp_in_nI (by omega) (by omega)) dL_law_512 ?_
    have pq := perm_b (cOut g o out) (cMo g am mo) (wBR g ad tx is wa st hi)
    refine aft_p (st1 := [.int b9]) (ws' := wLaw g ad am o tx is wa st hi mo' out) rfl pq (perm_b (cOut g o out) (cMo g am mo') (wBR g ad tx is wa st hi)).symm (runV (As := [.int (xs (nI (i + 1)).toNatClampNeg)]) (rest := []) ⟨hx, hb, hml, hown, hts⟩ (kX6_leave l g am h6) (cwV 1 hts gL_law_X6_leave rfl rfl rfl hdX6_leave ⟨Nat.le_of_ble_eq_true rfl, Nat.le_of_ble_eq_true rfl⟩) hK hN (hP.perm pq).left (hD.perm pq).left (va_recv hK hP (ci := 6) (q0 := 1) rfl rfl) rfl hl.1 rfl (Nat.le_of_ble_eq_true rfl) dL_law_513 ⟨hro.1, hro.2⟩) hP hD hS hA (fun H locs hP hD hS => ?_)
    refine lv_istore (lv' := [(6, .int b9), (5, .int 2), (0, .ref b), (1, .ref (ad 0 0)), (2, .ref (am 0)), (3, .ref o), (4, .int (nI i))]) hx hb dL_law_516 hl (by decide) rfl (fun ls hl => ?_)
    refine lv_aload_n hx hb dL_law_518 rfl (lv_at hl 4 rfl) ?_
    have pq := perm_b (cOut g o out) (cMo g am mo') (wBR g ad tx is wa st hi)
    refine aft_p (st1 := [.int (Mo_thrown mo')]) (ws' := wLaw g ad am o tx is wa st hi mo' out) rfl pq (perm_b (cOut g o out) (cMo g am mo') (wBR g ad tx is wa st hi)).symm (runV (As := []) (rest := []) ⟨hx, hb, hml, hown, hts⟩ (kX6_thrown l g am (res := Mo_thrown mo') rfl) (cwV 0 hts gL_law_X6_thrown rfl rfl rfl hdX6_thrown ⟨Nat.le_of_ble_eq_true rfl, Nat.le_of_ble_eq_true rfl⟩) hK hN (hP.perm pq).left (hD.perm pq).left (va_recv hK hP (ci := 6) (q0 := 1) rfl rfl) rfl hl.1 rfl (Nat.le_of_ble_eq_true rfl) dL_law_519 ⟨hro.1, hro.2⟩) hP hD hS hA (fun H locs hP hD hS => ?_)
    refine lv_iload hx hb dL_law_522 (lv_at hl 1 rfl) ?_
    refine lv_icmp_eq (tgt := 529) hx hb dL_law_524 (by decide) (fun _ => ?_) (fun c9 => absurd h7 c9)
    refine lv_iload hx hb dL_law_529 (lv_at hl 1 rfl) ?_
    refine lv_if_ne (tgt := 546) hx hb dL_law_531 (by decide) (fun _ => ?_) (fun c9 => absurd c9 (by decide))
    refine lv_goto (tgt := 1382) hx hb dL_law_546 (by decide) ?_
    exact next _ _ _ _ _ _ _ _ _ _ hJ' hP hD hS (lv_sub hl [2, 3, 4, 5, 6] rfl)
set_option maxRecDepth 100000 in
set_option maxHeartbeats 8000000 in
theorem law_append {p : Program} {l : Launch} {e : Env} {s : State} {m : MethodId} {args : Array Value} {below : List Frame} {meth : Method} {c : Code} {b L : Nat} {xs : Nat → Int32} {g : GG} {A : Nat → Prop} {Q : State → Prop} (hst : l.stackTraces = false) (LC : LCx p s m args c b L xs g A) {J : Nat → Tx → Is → Wa → St → Hi → Mo → Prop} (ad : Nat → Nat → Nat) (am : Nat → Nat) (o i j : Nat) {tx : Tx} {is : Is} {wa : Wa} {st : St} {hi : Hi} {mo : Mo} {out : Nat → Int64} {H : Heap} {locs : List Loc} {ls : Array Slot} (cells slots : Nat) (hL : L ≤ 2048) (hiL : i + 4 ≤ L) (hj : j < 512) (hro : cells + 1 ≤ 607796 ∧ slots + 6 ≤ 7272716) (hJ : J j tx is wa st hi mo) (hP : va_P g.1 vwCl (wLaw g ad am o tx is wa st hi mo out) H) (hD : va_D A (wLaw g ad am o tx is wa st hi mo out)) (hS : va_S A s.heap H locs) (hl : lv_has ls 9 [(0, .ref b), (1, .ref (ad 0 0)), (2, .ref (am 0)), (3, .ref o), (4, .int (nI i))]) (hop : Op_append J) (next : ∀ (tx : Tx) (is : Is) (wa : Wa) (st : St) (hi : Hi) (mo : Mo) (out : Nat → Int64) (H : Heap) (locs : List Loc) (ls : Array Slot), J (j + 1) tx is wa st hi mo → va_P g.1 vwCl (wLaw g ad am o tx is wa st hi mo out) H → va_D A (wLaw g ad am o tx is wa st hi mo out) → va_S A s.heap H locs → lv_has ls 9 [(0, .ref b), (1, .ref (ad 0 0)), (2, .ref (am 0)), (3, .ref o), (4, .int (nI i))] → W p l e room_1 s m args below meth c H locs (cells + 1) (slots + 6) Q (F0 m 1382 ls [])) : W p l e room_1 s m args below meth c H locs cells slots Q (F0 m 549 ls []) := by
  obtain ⟨hx, hb, hml, hown, hts, hK, hN, hX, hA, hXs, hbl, hbA, hZ⟩ := LC
  rcases hop j tx is wa st hi mo (xs (nI (i + 1)).toNatClampNeg) hj hJ with ⟨res, tx', mo', h5, h6, h7, hJ'⟩ | ⟨b9, mo', h5, h6, h7, hJ'⟩ | ⟨b9, mo', h5, h6, h7, hJ'⟩
  · refine lv_aload_n hx hb dL_law_549 rfl (lv_at hl 1 rfl) ?_
    refine lv_aload_n hx hb dL_law_550 rfl (lv_at hl 0 rfl) ?_
    refine lv_iload hx hb dL_law_551 (lv_at hl 4 rfl) ?_
    refine lv_iconst (v := 1) hx hb dL_law_553 (by decide) ?_
    refine lv_iadd hx hb dL_law_554 ?_
    refine lv_eqi (z := nI (i + 1)) (nI_add i 1) ?_
    refine va_sld hx hb hXs hbl hbA hS (vp_in_nI (by omega) (by omega)) dL_law_555 ?_
    refine lv_aload_n hx hb dL_law_556 rfl (lv_at hl 3 rfl) ?_
    have pq := perm_a (cOut g o out) (cMo g am mo) (wBR g ad tx is wa st hi)
    refine aftm_p (st1 := [.int 0]) (ws' := wLaw g ad am o tx' is wa st hi mo (vp_updL out 0 res.toInt64)) rfl pq (perm_a (cOut g o (vp_updL out 0 res.toInt64)) (cMo g am mo) (wBR g ad tx' is wa st hi)).symm (runL (As := [.ref (ad 0 0), .int (xs (nI (i + 1)).toNatClampNeg), .ref o]) (rest := []) ⟨hx, hb, hml, hown, hts⟩ (wL_append l hst g ad o (out := out) h5) (vx_cwSW 3 hts gL_law_L_append rfl rfl rfl hdL_append ⟨Nat.le_of_ble_eq_true rfl, Nat.le_of_ble_eq_true rfl⟩) hK hN hX hZ (hP.perm pq).left (hD.perm pq).left hS hA rfl hl.1 rfl (Nat.le_of_ble_eq_true rfl) dL_law_557 hro) hP hD hS hA (fun H locs hP hD hS => ?_)
    refine lv_istore (lv' := [(5, .int 0), (0, .ref b), (1, .ref (ad 0 0)), (2, .ref (am 0)), (3, .ref o), (4, .int (nI i))]) hx hb dL_law_560 hl (by decide) rfl (fun ls hl => ?_)
    refine lv_aload_n hx hb dL_law_562 rfl (lv_at hl 3 rfl) ?_
    refine lv_aload_n hx hb dL_law_563 rfl (lv_at hl 1 rfl) ?_
    refine lv_iload hx hb dL_law_564 (lv_at hl 5 rfl) ?_
    refine lv_iconst (v := 1) hx hb dL_law_566 (by decide) ?_
    refine lv_iadd hx hb dL_law_567 ?_
    refine lv_eqi (z := nI (i + 1)) (nI_add i 1) ?_
    refine va_sld hx hb hXs hbl hbA hS (vp_in_nI (by omega) (by omega)) dL_law_568 ?_
    have pq := perm_b (cOut g o (vp_updL out 0 res.toInt64)) (cMo g am mo) (wBR g ad tx' is wa st hi)
    refine aft_p (st1 := [.int res]) (ws' := wLaw g ad am o tx' is wa st hi mo' (vp_updL out 0 res.toInt64)) rfl pq (perm_b (cOut g o (vp_updL out 0 res.toInt64)) (cMo g am mo') (wBR g ad tx' is wa st hi)).symm (runV (As := [.int (xs (nI (i + 1)).toNatClampNeg)]) (rest := []) ⟨hx, hb, hml, hown, hts⟩ (kX6_append l g am h6) (cwV 1 hts gL_law_X6_append rfl rfl rfl hdX6_append ⟨Nat.le_of_ble_eq_true rfl, Nat.le_of_ble_eq_true rfl⟩) hK hN (hP.perm pq).left (hD.perm pq).left (va_recv hK hP (ci := 6) (q0 := 1) rfl rfl) rfl hl.1 rfl (Nat.le_of_ble_eq_true rfl) dL_law_569 ⟨hro.1, hro.2⟩) hP hD hS hA (fun H locs hP hD hS => ?_)
    refine lv_istore (lv' := [(6, .int res), (5, .int 0), (0, .ref b), (1, .ref (ad 0 0)), (2, .ref (am 0)), (3, .ref o), (4, .int (nI i))]) hx hb dL_law_572 hl (by decide) rfl (fun ls hl => ?_)
    refine lv_aload_n hx hb dL_law_574 rfl (lv_at hl 4 rfl) ?_
    have pq := perm_b (cOut g o (vp_updL out 0 res.toInt64)) (cMo g am mo') (wBR g ad tx' is wa st hi)
    refine aft_p (st1 := [.int (Mo_thrown mo')]) (ws' := wLaw g ad am o tx' is wa st hi mo' (vp_updL out 0 res.toInt64)) rfl pq (perm_b (cOut g o (vp_updL out 0 res.toInt64)) (cMo g am mo') (wBR g ad tx' is wa st hi)).symm (runV (As := []) (rest := []) ⟨hx, hb, hml, hown, hts⟩ (kX6_thrown l g am (res := Mo_thrown mo') rfl) (cwV 0 hts gL_law_X6_thrown rfl rfl rfl hdX6_thrown ⟨Nat.le_of_ble_eq_true rfl, Nat.le_of_ble_eq_true rfl⟩) hK hN (hP.perm pq).left (hD.perm pq).left (va_recv hK hP (ci := 6) (q0 := 1) rfl rfl) rfl hl.1 rfl (Nat.le_of_ble_eq_true rfl) dL_law_575 ⟨hro.1, hro.2⟩) hP hD hS hA (fun H locs hP hD hS => ?_)
    refine lv_iload hx hb dL_law_578 (lv_at hl 1 rfl) ?_
    refine lv_icmp_eq (tgt := 585) hx hb dL_law_580 (by decide) (fun _ => ?_) (fun c9 => absurd h7 c9)
    refine lv_iload hx hb dL_law_585 (lv_at hl 1 rfl) ?_
    refine lv_if_ne (tgt := 602) hx hb dL_law_587 (by decide) (fun c9 => absurd rfl c9) (fun _ => ?_)
    refine lv_aload_n hx hb dL_law_590 rfl (lv_at hl 5 rfl) ?_
    refine lv_iconst (v := 0) hx hb dL_law_591 (by decide) ?_
    refine va_lald hx hb hK hP 0 2 rfl rfl (inb_in (i := 0) (n := 1) (by decide)) dL_law_592 ?_
    refine lv_eql (z := res.toInt64) rfl ?_
    refine lv_iload hx hb dL_law_593 (lv_at hl 0 rfl) ?_
    refine lv_i2l (v := res.toInt64) hx hb dL_law_595 rfl ?_
    refine W.lcmp hx hb dL_law_596 ?_
    refine lv_if_eq (tgt := 602) hx hb dL_law_597 (by decide) (fun _ => ?_) (fun c9 => absurd (cmp_self _) c9)
    refine lv_goto (tgt := 1382) hx hb dL_law_602 (by decide) ?_
    exact next _ _ _ _ _ _ _ _ _ _ hJ' hP hD hS (lv_sub hl [2, 3, 4, 5, 6] rfl)
  · refine lv_aload_n hx hb dL_law_549 rfl (lv_at hl 1 rfl) ?_
    refine lv_aload_n hx hb dL_law_550 rfl (lv_at hl 0 rfl) ?_
    refine lv_iload hx hb dL_law_551 (lv_at hl 4 rfl) ?_
    refine lv_iconst (v := 1) hx hb dL_law_553 (by decide) ?_
    refine lv_iadd hx hb dL_law_554 ?_
    refine lv_eqi (z := nI (i + 1)) (nI_add i 1) ?_
    refine va_sld hx hb hXs hbl hbA hS (vp_in_nI (by omega) (by omega)) dL_law_555 ?_
    refine lv_aload_n hx hb dL_law_556 rfl (lv_at hl 3 rfl) ?_
    have pq := perm_a (cOut g o out) (cMo g am mo) (wBR g ad tx is wa st hi)
    refine aftm_p (st1 := [.int 1]) (ws' := wLaw g ad am o tx is wa st hi mo out) rfl pq (perm_a (cOut g o out) (cMo g am mo) (wBR g ad tx is wa st hi)).symm (runL (As := [.ref (ad 0 0), .int (xs (nI (i + 1)).toNatClampNeg), .ref o]) (rest := []) ⟨hx, hb, hml, hown, hts⟩ (wL_append_2 l hst g ad o (out := out) h5) (vx_cwSW 3 hts gL_law_L_append rfl rfl rfl hdL_append ⟨Nat.le_of_ble_eq_true rfl, Nat.le_of_ble_eq_true rfl⟩) hK hN hX hZ (hP.perm pq).left (hD.perm pq).left hS hA rfl hl.1 rfl (Nat.le_of_ble_eq_true rfl) dL_law_557 hro) hP hD hS hA (fun H locs hP hD hS => ?_)
    refine lv_istore (lv' := [(5, .int 1), (0, .ref b), (1, .ref (ad 0 0)), (2, .ref (am 0)), (3, .ref o), (4, .int (nI i))]) hx hb dL_law_560 hl (by decide) rfl (fun ls hl => ?_)
    refine lv_aload_n hx hb dL_law_562 rfl (lv_at hl 3 rfl) ?_
    refine lv_aload_n hx hb dL_law_563 rfl (lv_at hl 1 rfl) ?_
    refine lv_iload hx hb dL_law_564 (lv_at hl 5 rfl) ?_
    refine lv_iconst (v := 1) hx hb dL_law_566 (by decide) ?_
    refine lv_iadd hx hb dL_law_567 ?_
    refine lv_eqi (z := nI (i + 1)) (nI_add i 1) ?_
    refine va_sld hx hb hXs hbl hbA hS (vp_in_nI (by omega) (by omega)) dL_law_568 ?_
    have pq := perm_b (cOut g o out) (cMo g am mo) (wBR g ad tx is wa st hi)
    refine aft_p (st1 := [.int b9]) (ws' := wLaw g ad am o tx is wa st hi mo' out) rfl pq (perm_b (cOut g o out) (cMo g am mo') (wBR g ad tx is wa st hi)).symm (runV (As := [.int (xs (nI (i + 1)).toNatClampNeg)]) (rest := []) ⟨hx, hb, hml, hown, hts⟩ (kX6_append l g am h6) (cwV 1 hts gL_law_X6_append rfl rfl rfl hdX6_append ⟨Nat.le_of_ble_eq_true rfl, Nat.le_of_ble_eq_true rfl⟩) hK hN (hP.perm pq).left (hD.perm pq).left (va_recv hK hP (ci := 6) (q0 := 1) rfl rfl) rfl hl.1 rfl (Nat.le_of_ble_eq_true rfl) dL_law_569 ⟨hro.1, hro.2⟩) hP hD hS hA (fun H locs hP hD hS => ?_)
    refine lv_istore (lv' := [(6, .int b9), (5, .int 1), (0, .ref b), (1, .ref (ad 0 0)), (2, .ref (am 0)), (3, .ref o), (4, .int (nI i))]) hx hb dL_law_572 hl (by decide) rfl (fun ls hl => ?_)
    refine lv_aload_n hx hb dL_law_574 rfl (lv_at hl 4 rfl) ?_
    have pq := perm_b (cOut g o out) (cMo g am mo') (wBR g ad tx is wa st hi)
    refine aft_p (st1 := [.int (Mo_thrown mo')]) (ws' := wLaw g ad am o tx is wa st hi mo' out) rfl pq (perm_b (cOut g o out) (cMo g am mo') (wBR g ad tx is wa st hi)).symm (runV (As := []) (rest := []) ⟨hx, hb, hml, hown, hts⟩ (kX6_thrown l g am (res := Mo_thrown mo') rfl) (cwV 0 hts gL_law_X6_thrown rfl rfl rfl hdX6_thrown ⟨Nat.le_of_ble_eq_true rfl, Nat.le_of_ble_eq_true rfl⟩) hK hN (hP.perm pq).left (hD.perm pq).left (va_recv hK hP (ci := 6) (q0 := 1) rfl rfl) rfl hl.1 rfl (Nat.le_of_ble_eq_true rfl) dL_law_575 ⟨hro.1, hro.2⟩) hP hD hS hA (fun H locs hP hD hS => ?_)
    refine lv_iload hx hb dL_law_578 (lv_at hl 1 rfl) ?_
    refine lv_icmp_eq (tgt := 585) hx hb dL_law_580 (by decide) (fun _ => ?_) (fun c9 => absurd h7 c9)
    refine lv_iload hx hb dL_law_585 (lv_at hl 1 rfl) ?_
    refine lv_if_ne (tgt := 602) hx hb dL_law_587 (by decide) (fun _ => ?_) (fun c9 => absurd c9 (by decide))
    refine lv_goto (tgt := 1382) hx hb dL_law_602 (by decide) ?_
    exact next _ _ _ _ _ _ _ _ _ _ hJ' hP hD hS (lv_sub hl [2, 3, 4, 5, 6] rfl)
  · refine lv_aload_n hx hb dL_law_549 rfl (lv_at hl 1 rfl) ?_
    refine lv_aload_n hx hb dL_law_550 rfl (lv_at hl 0 rfl) ?_
    refine lv_iload hx hb dL_law_551 (lv_at hl 4 rfl) ?_
    refine lv_iconst (v := 1) hx hb dL_law_553 (by decide) ?_
    refine lv_iadd hx hb dL_law_554 ?_
    refine lv_eqi (z := nI (i + 1)) (nI_add i 1) ?_
    refine va_sld hx hb hXs hbl hbA hS (vp_in_nI (by omega) (by omega)) dL_law_555 ?_
    refine lv_aload_n hx hb dL_law_556 rfl (lv_at hl 3 rfl) ?_
    have pq := perm_a (cOut g o out) (cMo g am mo) (wBR g ad tx is wa st hi)
    refine aftm_p (st1 := [.int 2]) (ws' := wLaw g ad am o tx is wa st hi mo out) rfl pq (perm_a (cOut g o out) (cMo g am mo) (wBR g ad tx is wa st hi)).symm (runL (As := [.ref (ad 0 0), .int (xs (nI (i + 1)).toNatClampNeg), .ref o]) (rest := []) ⟨hx, hb, hml, hown, hts⟩ (wL_append_3 l hst g ad o (out := out) h5) (vx_cwSW 3 hts gL_law_L_append rfl rfl rfl hdL_append ⟨Nat.le_of_ble_eq_true rfl, Nat.le_of_ble_eq_true rfl⟩) hK hN hX hZ (hP.perm pq).left (hD.perm pq).left hS hA rfl hl.1 rfl (Nat.le_of_ble_eq_true rfl) dL_law_557 hro) hP hD hS hA (fun H locs hP hD hS => ?_)
    refine lv_istore (lv' := [(5, .int 2), (0, .ref b), (1, .ref (ad 0 0)), (2, .ref (am 0)), (3, .ref o), (4, .int (nI i))]) hx hb dL_law_560 hl (by decide) rfl (fun ls hl => ?_)
    refine lv_aload_n hx hb dL_law_562 rfl (lv_at hl 3 rfl) ?_
    refine lv_aload_n hx hb dL_law_563 rfl (lv_at hl 1 rfl) ?_
    refine lv_iload hx hb dL_law_564 (lv_at hl 5 rfl) ?_
    refine lv_iconst (v := 1) hx hb dL_law_566 (by decide) ?_
    refine lv_iadd hx hb dL_law_567 ?_
    refine lv_eqi (z := nI (i + 1)) (nI_add i 1) ?_
    refine va_sld hx hb hXs hbl hbA hS (vp_in_nI (by omega) (by omega)) dL_law_568 ?_
    have pq := perm_b (cOut g o out) (cMo g am mo) (wBR g ad tx is wa st hi)
    refine aft_p (st1 := [.int b9]) (ws' := wLaw g ad am o tx is wa st hi mo' out) rfl pq (perm_b (cOut g o out) (cMo g am mo') (wBR g ad tx is wa st hi)).symm (runV (As := [.int (xs (nI (i + 1)).toNatClampNeg)]) (rest := []) ⟨hx, hb, hml, hown, hts⟩ (kX6_append l g am h6) (cwV 1 hts gL_law_X6_append rfl rfl rfl hdX6_append ⟨Nat.le_of_ble_eq_true rfl, Nat.le_of_ble_eq_true rfl⟩) hK hN (hP.perm pq).left (hD.perm pq).left (va_recv hK hP (ci := 6) (q0 := 1) rfl rfl) rfl hl.1 rfl (Nat.le_of_ble_eq_true rfl) dL_law_569 ⟨hro.1, hro.2⟩) hP hD hS hA (fun H locs hP hD hS => ?_)
    refine lv_istore (lv' := [(6, .int b9), (5, .int 2), (0, .ref b), (1, .ref (ad 0 0)), (2, .ref (am 0)), (3, .ref o), (4, .int (nI i))]) hx hb dL_law_572 hl (by decide) rfl (fun ls hl => ?_)
    refine lv_aload_n hx hb dL_law_574 rfl (lv_at hl 4 rfl) ?_
    have pq := perm_b (cOut g o out) (cMo g am mo') (wBR g ad tx is wa st hi)
    refine aft_p (st1 := [.int (Mo_thrown mo')]) (ws' := wLaw g ad am o tx is wa st hi mo' out) rfl pq (perm_b (cOut g o out) (cMo g am mo') (wBR g ad tx is wa st hi)).symm (runV (As := []) (rest := []) ⟨hx, hb, hml, hown, hts⟩ (kX6_thrown l g am (res := Mo_thrown mo') rfl) (cwV 0 hts gL_law_X6_thrown rfl rfl rfl hdX6_thrown ⟨Nat.le_of_ble_eq_true rfl, Nat.le_of_ble_eq_true rfl⟩) hK hN (hP.perm pq).left (hD.perm pq).left (va_recv hK hP (ci := 6) (q0 := 1) rfl rfl) rfl hl.1 rfl (Nat.le_of_ble_eq_true rfl) dL_law_575 ⟨hro.1, hro.2⟩) hP hD hS hA (fun H locs hP hD hS => ?_)
    refine lv_iload hx hb dL_law_578 (lv_at hl 1 rfl) ?_
    refine lv_icmp_eq (tgt := 585) hx hb dL_law_580 (by decide) (fun _ => ?_) (fun c9 => absurd h7 c9)
    refine lv_iload hx hb dL_law_585 (lv_at hl 1 rfl) ?_
    refine lv_if_ne (tgt := 602) hx hb dL_law_587 (by decide) (fun _ => ?_) (fun c9 => absurd c9 (by decide))
    refine lv_goto (tgt := 1382) hx hb dL_law_602 (by decide) ?_
    exact next _ _ _ _ _ _ _ _ _ _ hJ' hP hD hS (lv_sub hl [2, 3, 4, 5, 6] rfl)
set_option maxRecDepth 100000 in
set_option maxHeartbeats 8000000 in
theorem law_clearBuffer {p : Program} {l : Launch} {e : Env} {s : State} {m : MethodId} {args : Array Value} {below : List Frame} {meth : Method} {c : Code} {b L : Nat} {xs : Nat → Int32} {g : GG} {A : Nat → Prop} {Q : State → Prop} (hst : l.stackTraces = false) (LC : LCx p s m args c b L xs g A) {J : Nat → Tx → Is → Wa → St → Hi → Mo → Prop} (ad : Nat → Nat → Nat) (am : Nat → Nat) (o i j : Nat) {tx : Tx} {is : Is} {wa : Wa} {st : St} {hi : Hi} {mo : Mo} {out : Nat → Int64} {H : Heap} {locs : List Loc} {ls : Array Slot} (cells slots : Nat) (hL : L ≤ 2048) (hiL : i + 4 ≤ L) (hj : j < 512) (hro : cells + 1 ≤ 607796 ∧ slots + 6 ≤ 7272716) (hJ : J j tx is wa st hi mo) (hP : va_P g.1 vwCl (wLaw g ad am o tx is wa st hi mo out) H) (hD : va_D A (wLaw g ad am o tx is wa st hi mo out)) (hS : va_S A s.heap H locs) (hl : lv_has ls 9 [(0, .ref b), (1, .ref (ad 0 0)), (2, .ref (am 0)), (3, .ref o), (4, .int (nI i))]) (hop : Op_clearBuffer J) (next : ∀ (tx : Tx) (is : Is) (wa : Wa) (st : St) (hi : Hi) (mo : Mo) (out : Nat → Int64) (H : Heap) (locs : List Loc) (ls : Array Slot), J (j + 1) tx is wa st hi mo → va_P g.1 vwCl (wLaw g ad am o tx is wa st hi mo out) H → va_D A (wLaw g ad am o tx is wa st hi mo out) → va_S A s.heap H locs → lv_has ls 9 [(0, .ref b), (1, .ref (ad 0 0)), (2, .ref (am 0)), (3, .ref o), (4, .int (nI i))] → W p l e room_1 s m args below meth c H locs (cells + 1) (slots + 6) Q (F0 m 1382 ls [])) : W p l e room_1 s m args below meth c H locs cells slots Q (F0 m 605 ls []) := by
  obtain ⟨hx, hb, hml, hown, hts, hK, hN, hX, hA, hXs, hbl, hbA, hZ⟩ := LC
  obtain ⟨res, tx', mo', h5, h6, hJ'⟩ := hop j tx is wa st hi mo hj hJ
  refine lv_aload_n hx hb dL_law_605 rfl (lv_at hl 1 rfl) ?_
  have pq := perm_c (cOut g o out) (cMo g am mo) (wBR g ad tx is wa st hi)
  refine aft_p (st1 := [.int res]) (ws' := wLaw g ad am o tx' is wa st hi mo out) rfl pq (perm_c (cOut g o out) (cMo g am mo) (wBR g ad tx' is wa st hi)).symm (runV (As := []) (rest := []) ⟨hx, hb, hml, hown, hts⟩ (kX5_clearBuffer l g ad h5) (cwV 0 hts gL_law_X5_clearBuffer rfl rfl rfl hdX5_clearBuffer ⟨Nat.le_of_ble_eq_true rfl, Nat.le_of_ble_eq_true rfl⟩) hK hN (hP.perm pq).left (hD.perm pq).left (va_recv hK hP (ci := 5) (q0 := 7) rfl rfl) rfl hl.1 rfl (Nat.le_of_ble_eq_true rfl) dL_law_606 ⟨by have := hro.1; show cells ≤ 607796; omega, by have := hro.2; show slots ≤ 7272716; omega⟩) hP hD hS hA (fun H locs hP hD hS => ?_)
  refine lv_aload_n hx hb dL_law_609 rfl (lv_at hl 2 rfl) ?_
  have pq := perm_b (cOut g o out) (cMo g am mo) (wBR g ad tx' is wa st hi)
  refine aft_p (st1 := [.int res, .int res]) (ws' := wLaw g ad am o tx' is wa st hi mo' out) rfl pq (perm_b (cOut g o out) (cMo g am mo') (wBR g ad tx' is wa st hi)).symm (runV (As := []) (rest := [.int res]) ⟨hx, hb, hml, hown, hts⟩ (kX6_clearBuffer l g am h6) (cwV 0 hts gL_law_X6_clearBuffer rfl rfl rfl hdX6_clearBuffer ⟨Nat.le_of_ble_eq_true rfl, Nat.le_of_ble_eq_true rfl⟩) hK hN (hP.perm pq).left (hD.perm pq).left (va_recv hK hP (ci := 6) (q0 := 1) rfl rfl) rfl hl.1 rfl (Nat.le_of_ble_eq_true rfl) dL_law_610 ⟨by have := hro.1; show cells ≤ 607796; omega, by have := hro.2; show slots ≤ 7272716; omega⟩) hP hD hS hA (fun H locs hP hD hS => ?_)
  refine lv_icmp_eq (tgt := 1382) hx hb dL_law_613 (by decide) (fun _ => ?_) (fun c9 => absurd rfl c9)
  refine W.widen (k := cells + 1) (n := slots + 6) (Nat.le_add_right _ _) (Nat.le_add_right _ _) ?_
  exact next _ _ _ _ _ _ _ _ _ _ hJ' hP hD hS (lv_sub hl [0, 1, 2, 3, 4] rfl)
set_option maxRecDepth 100000 in
set_option maxHeartbeats 8000000 in
theorem law_firstError {p : Program} {l : Launch} {e : Env} {s : State} {m : MethodId} {args : Array Value} {below : List Frame} {meth : Method} {c : Code} {b L : Nat} {xs : Nat → Int32} {g : GG} {A : Nat → Prop} {Q : State → Prop} (hst : l.stackTraces = false) (LC : LCx p s m args c b L xs g A) {J : Nat → Tx → Is → Wa → St → Hi → Mo → Prop} (ad : Nat → Nat → Nat) (am : Nat → Nat) (o i j : Nat) {tx : Tx} {is : Is} {wa : Wa} {st : St} {hi : Hi} {mo : Mo} {out : Nat → Int64} {H : Heap} {locs : List Loc} {ls : Array Slot} (cells slots : Nat) (hL : L ≤ 2048) (hiL : i + 4 ≤ L) (hj : j < 512) (hro : cells + 1 ≤ 607796 ∧ slots + 6 ≤ 7272716) (hJ : J j tx is wa st hi mo) (hP : va_P g.1 vwCl (wLaw g ad am o tx is wa st hi mo out) H) (hD : va_D A (wLaw g ad am o tx is wa st hi mo out)) (hS : va_S A s.heap H locs) (hl : lv_has ls 9 [(0, .ref b), (1, .ref (ad 0 0)), (2, .ref (am 0)), (3, .ref o), (4, .int (nI i))]) (hop : Op_firstError J) (next : ∀ (tx : Tx) (is : Is) (wa : Wa) (st : St) (hi : Hi) (mo : Mo) (out : Nat → Int64) (H : Heap) (locs : List Loc) (ls : Array Slot), J (j + 1) tx is wa st hi mo → va_P g.1 vwCl (wLaw g ad am o tx is wa st hi mo out) H → va_D A (wLaw g ad am o tx is wa st hi mo out) → va_S A s.heap H locs → lv_has ls 9 [(0, .ref b), (1, .ref (ad 0 0)), (2, .ref (am 0)), (3, .ref o), (4, .int (nI i))] → W p l e room_1 s m args below meth c H locs (cells + 1) (slots + 6) Q (F0 m 1382 ls [])) : W p l e room_1 s m args below meth c H locs cells slots Q (F0 m 618 ls []) := by
  obtain ⟨hx, hb, hml, hown, hts, hK, hN, hX, hA, hXs, hbl, hbA, hZ⟩ := LC
  rcases hop j tx is wa st hi mo (xs (nI (i + 1)).toNatClampNeg) hj hJ with ⟨res, mo', h5, h6, h7, hJ'⟩ | ⟨b9, mo', h5, h6, h7, hJ'⟩
  · refine lv_aload_n hx hb dL_law_618 rfl (lv_at hl 1 rfl) ?_
    refine lv_aload_n hx hb dL_law_619 rfl (lv_at hl 0 rfl) ?_
    refine lv_iload hx hb dL_law_620 (lv_at hl 4 rfl) ?_
    refine lv_iconst (v := 1) hx hb dL_law_622 (by decide) ?_
    refine lv_iadd hx hb dL_law_623 ?_
    refine lv_eqi (z := nI (i + 1)) (nI_add i 1) ?_
    refine va_sld hx hb hXs hbl hbA hS (vp_in_nI (by omega) (by omega)) dL_law_624 ?_
    refine lv_aload_n hx hb dL_law_625 rfl (lv_at hl 3 rfl) ?_
    have pq := perm_a (cOut g o out) (cMo g am mo) (wBR g ad tx is wa st hi)
    refine aftm_p (st1 := [.int 0]) (ws' := wLaw g ad am o tx is wa st hi mo (vp_updL out 0 res.toInt64)) rfl pq (perm_a (cOut g o (vp_updL out 0 res.toInt64)) (cMo g am mo) (wBR g ad tx is wa st hi)).symm (runL (As := [.ref (ad 0 0), .int (xs (nI (i + 1)).toNatClampNeg), .ref o]) (rest := []) ⟨hx, hb, hml, hown, hts⟩ (wL_firstError l hst g ad o (out := out) h5) (vx_cwSW 3 hts gL_law_L_firstError rfl rfl rfl hdL_firstError ⟨Nat.le_of_ble_eq_true rfl, Nat.le_of_ble_eq_true rfl⟩) hK hN hX hZ (hP.perm pq).left (hD.perm pq).left hS hA rfl hl.1 rfl (Nat.le_of_ble_eq_true rfl) dL_law_626 hro) hP hD hS hA (fun H locs hP hD hS => ?_)
    refine lv_istore (lv' := [(5, .int 0), (0, .ref b), (1, .ref (ad 0 0)), (2, .ref (am 0)), (3, .ref o), (4, .int (nI i))]) hx hb dL_law_629 hl (by decide) rfl (fun ls hl => ?_)
    refine lv_aload_n hx hb dL_law_631 rfl (lv_at hl 3 rfl) ?_
    refine lv_aload_n hx hb dL_law_632 rfl (lv_at hl 1 rfl) ?_
    refine lv_iload hx hb dL_law_633 (lv_at hl 5 rfl) ?_
    refine lv_iconst (v := 1) hx hb dL_law_635 (by decide) ?_
    refine lv_iadd hx hb dL_law_636 ?_
    refine lv_eqi (z := nI (i + 1)) (nI_add i 1) ?_
    refine va_sld hx hb hXs hbl hbA hS (vp_in_nI (by omega) (by omega)) dL_law_637 ?_
    have pq := perm_b (cOut g o (vp_updL out 0 res.toInt64)) (cMo g am mo) (wBR g ad tx is wa st hi)
    refine aft_p (st1 := [.int res]) (ws' := wLaw g ad am o tx is wa st hi mo' (vp_updL out 0 res.toInt64)) rfl pq (perm_b (cOut g o (vp_updL out 0 res.toInt64)) (cMo g am mo') (wBR g ad tx is wa st hi)).symm (runV (As := [.int (xs (nI (i + 1)).toNatClampNeg)]) (rest := []) ⟨hx, hb, hml, hown, hts⟩ (kX6_firstError l g am h6) (cwV 1 hts gL_law_X6_firstError rfl rfl rfl hdX6_firstError ⟨Nat.le_of_ble_eq_true rfl, Nat.le_of_ble_eq_true rfl⟩) hK hN (hP.perm pq).left (hD.perm pq).left (va_recv hK hP (ci := 6) (q0 := 1) rfl rfl) rfl hl.1 rfl (Nat.le_of_ble_eq_true rfl) dL_law_638 ⟨hro.1, hro.2⟩) hP hD hS hA (fun H locs hP hD hS => ?_)
    refine lv_istore (lv' := [(6, .int res), (5, .int 0), (0, .ref b), (1, .ref (ad 0 0)), (2, .ref (am 0)), (3, .ref o), (4, .int (nI i))]) hx hb dL_law_641 hl (by decide) rfl (fun ls hl => ?_)
    refine lv_aload_n hx hb dL_law_643 rfl (lv_at hl 4 rfl) ?_
    have pq := perm_b (cOut g o (vp_updL out 0 res.toInt64)) (cMo g am mo') (wBR g ad tx is wa st hi)
    refine aft_p (st1 := [.int (Mo_thrown mo')]) (ws' := wLaw g ad am o tx is wa st hi mo' (vp_updL out 0 res.toInt64)) rfl pq (perm_b (cOut g o (vp_updL out 0 res.toInt64)) (cMo g am mo') (wBR g ad tx is wa st hi)).symm (runV (As := []) (rest := []) ⟨hx, hb, hml, hown, hts⟩ (kX6_thrown l g am (res := Mo_thrown mo') rfl) (cwV 0 hts gL_law_X6_thrown rfl rfl rfl hdX6_thrown ⟨Nat.le_of_ble_eq_true rfl, Nat.le_of_ble_eq_true rfl⟩) hK hN (hP.perm pq).left (hD.perm pq).left (va_recv hK hP (ci := 6) (q0 := 1) rfl rfl) rfl hl.1 rfl (Nat.le_of_ble_eq_true rfl) dL_law_644 ⟨hro.1, hro.2⟩) hP hD hS hA (fun H locs hP hD hS => ?_)
    refine lv_iload hx hb dL_law_647 (lv_at hl 1 rfl) ?_
    refine lv_icmp_eq (tgt := 654) hx hb dL_law_649 (by decide) (fun _ => ?_) (fun c9 => absurd h7 c9)
    refine lv_iload hx hb dL_law_654 (lv_at hl 1 rfl) ?_
    refine lv_if_ne (tgt := 671) hx hb dL_law_656 (by decide) (fun c9 => absurd rfl c9) (fun _ => ?_)
    refine lv_aload_n hx hb dL_law_659 rfl (lv_at hl 5 rfl) ?_
    refine lv_iconst (v := 0) hx hb dL_law_660 (by decide) ?_
    refine va_lald hx hb hK hP 0 2 rfl rfl (inb_in (i := 0) (n := 1) (by decide)) dL_law_661 ?_
    refine lv_eql (z := res.toInt64) rfl ?_
    refine lv_iload hx hb dL_law_662 (lv_at hl 0 rfl) ?_
    refine lv_i2l (v := res.toInt64) hx hb dL_law_664 rfl ?_
    refine W.lcmp hx hb dL_law_665 ?_
    refine lv_if_eq (tgt := 671) hx hb dL_law_666 (by decide) (fun _ => ?_) (fun c9 => absurd (cmp_self _) c9)
    refine lv_goto (tgt := 1382) hx hb dL_law_671 (by decide) ?_
    exact next _ _ _ _ _ _ _ _ _ _ hJ' hP hD hS (lv_sub hl [2, 3, 4, 5, 6] rfl)
  · refine lv_aload_n hx hb dL_law_618 rfl (lv_at hl 1 rfl) ?_
    refine lv_aload_n hx hb dL_law_619 rfl (lv_at hl 0 rfl) ?_
    refine lv_iload hx hb dL_law_620 (lv_at hl 4 rfl) ?_
    refine lv_iconst (v := 1) hx hb dL_law_622 (by decide) ?_
    refine lv_iadd hx hb dL_law_623 ?_
    refine lv_eqi (z := nI (i + 1)) (nI_add i 1) ?_
    refine va_sld hx hb hXs hbl hbA hS (vp_in_nI (by omega) (by omega)) dL_law_624 ?_
    refine lv_aload_n hx hb dL_law_625 rfl (lv_at hl 3 rfl) ?_
    have pq := perm_a (cOut g o out) (cMo g am mo) (wBR g ad tx is wa st hi)
    refine aftm_p (st1 := [.int 1]) (ws' := wLaw g ad am o tx is wa st hi mo out) rfl pq (perm_a (cOut g o out) (cMo g am mo) (wBR g ad tx is wa st hi)).symm (runL (As := [.ref (ad 0 0), .int (xs (nI (i + 1)).toNatClampNeg), .ref o]) (rest := []) ⟨hx, hb, hml, hown, hts⟩ (wL_firstError_2 l hst g ad o (out := out) h5) (vx_cwSW 3 hts gL_law_L_firstError rfl rfl rfl hdL_firstError ⟨Nat.le_of_ble_eq_true rfl, Nat.le_of_ble_eq_true rfl⟩) hK hN hX hZ (hP.perm pq).left (hD.perm pq).left hS hA rfl hl.1 rfl (Nat.le_of_ble_eq_true rfl) dL_law_626 hro) hP hD hS hA (fun H locs hP hD hS => ?_)
    refine lv_istore (lv' := [(5, .int 1), (0, .ref b), (1, .ref (ad 0 0)), (2, .ref (am 0)), (3, .ref o), (4, .int (nI i))]) hx hb dL_law_629 hl (by decide) rfl (fun ls hl => ?_)
    refine lv_aload_n hx hb dL_law_631 rfl (lv_at hl 3 rfl) ?_
    refine lv_aload_n hx hb dL_law_632 rfl (lv_at hl 1 rfl) ?_
    refine lv_iload hx hb dL_law_633 (lv_at hl 5 rfl) ?_
    refine lv_iconst (v := 1) hx hb dL_law_635 (by decide) ?_
    refine lv_iadd hx hb dL_law_636 ?_
    refine lv_eqi (z := nI (i + 1)) (nI_add i 1) ?_
    refine va_sld hx hb hXs hbl hbA hS (vp_in_nI (by omega) (by omega)) dL_law_637 ?_
    have pq := perm_b (cOut g o out) (cMo g am mo) (wBR g ad tx is wa st hi)
    refine aft_p (st1 := [.int b9]) (ws' := wLaw g ad am o tx is wa st hi mo' out) rfl pq (perm_b (cOut g o out) (cMo g am mo') (wBR g ad tx is wa st hi)).symm (runV (As := [.int (xs (nI (i + 1)).toNatClampNeg)]) (rest := []) ⟨hx, hb, hml, hown, hts⟩ (kX6_firstError l g am h6) (cwV 1 hts gL_law_X6_firstError rfl rfl rfl hdX6_firstError ⟨Nat.le_of_ble_eq_true rfl, Nat.le_of_ble_eq_true rfl⟩) hK hN (hP.perm pq).left (hD.perm pq).left (va_recv hK hP (ci := 6) (q0 := 1) rfl rfl) rfl hl.1 rfl (Nat.le_of_ble_eq_true rfl) dL_law_638 ⟨hro.1, hro.2⟩) hP hD hS hA (fun H locs hP hD hS => ?_)
    refine lv_istore (lv' := [(6, .int b9), (5, .int 1), (0, .ref b), (1, .ref (ad 0 0)), (2, .ref (am 0)), (3, .ref o), (4, .int (nI i))]) hx hb dL_law_641 hl (by decide) rfl (fun ls hl => ?_)
    refine lv_aload_n hx hb dL_law_643 rfl (lv_at hl 4 rfl) ?_
    have pq := perm_b (cOut g o out) (cMo g am mo') (wBR g ad tx is wa st hi)
    refine aft_p (st1 := [.int (Mo_thrown mo')]) (ws' := wLaw g ad am o tx is wa st hi mo' out) rfl pq (perm_b (cOut g o out) (cMo g am mo') (wBR g ad tx is wa st hi)).symm (runV (As := []) (rest := []) ⟨hx, hb, hml, hown, hts⟩ (kX6_thrown l g am (res := Mo_thrown mo') rfl) (cwV 0 hts gL_law_X6_thrown rfl rfl rfl hdX6_thrown ⟨Nat.le_of_ble_eq_true rfl, Nat.le_of_ble_eq_true rfl⟩) hK hN (hP.perm pq).left (hD.perm pq).left (va_recv hK hP (ci := 6) (q0 := 1) rfl rfl) rfl hl.1 rfl (Nat.le_of_ble_eq_true rfl) dL_law_644 ⟨hro.1, hro.2⟩) hP hD hS hA (fun H locs hP hD hS => ?_)
    refine lv_iload hx hb dL_law_647 (lv_at hl 1 rfl) ?_
    refine lv_icmp_eq (tgt := 654) hx hb dL_law_649 (by decide) (fun _ => ?_) (fun c9 => absurd h7 c9)
    refine lv_iload hx hb dL_law_654 (lv_at hl 1 rfl) ?_
    refine lv_if_ne (tgt := 671) hx hb dL_law_656 (by decide) (fun _ => ?_) (fun c9 => absurd c9 (by decide))
    refine lv_goto (tgt := 1382) hx hb dL_law_671 (by decide) ?_
    exact next _ _ _ _ _ _ _ _ _ _ hJ' hP hD hS (lv_sub hl [2, 3, 4, 5, 6] rfl)
set_option maxRecDepth 100000 in
set_option maxHeartbeats 8000000 in
theorem law_play {p : Program} {l : Launch} {e : Env} {s : State} {m : MethodId} {args : Array Value} {below : List Frame} {meth : Method} {c : Code} {b L : Nat} {xs : Nat → Int32} {g : GG} {A : Nat → Prop} {Q : State → Prop} (hst : l.stackTraces = false) (LC : LCx p s m args c b L xs g A) {J : Nat → Tx → Is → Wa → St → Hi → Mo → Prop} (ad : Nat → Nat → Nat) (am : Nat → Nat) (o i j : Nat) {tx : Tx} {is : Is} {wa : Wa} {st : St} {hi : Hi} {mo : Mo} {out : Nat → Int64} {H : Heap} {locs : List Loc} {ls : Array Slot} (cells slots : Nat) (hL : L ≤ 2048) (hiL : i + 4 ≤ L) (hj : j < 512) (hro : cells + 1 ≤ 607796 ∧ slots + 6 ≤ 7272716) (hJ : J j tx is wa st hi mo) (hP : va_P g.1 vwCl (wLaw g ad am o tx is wa st hi mo out) H) (hD : va_D A (wLaw g ad am o tx is wa st hi mo out)) (hS : va_S A s.heap H locs) (hl : lv_has ls 9 [(0, .ref b), (1, .ref (ad 0 0)), (2, .ref (am 0)), (3, .ref o), (4, .int (nI i))]) (hop : Op_play J) (next : ∀ (tx : Tx) (is : Is) (wa : Wa) (st : St) (hi : Hi) (mo : Mo) (out : Nat → Int64) (H : Heap) (locs : List Loc) (ls : Array Slot), J (j + 1) tx is wa st hi mo → va_P g.1 vwCl (wLaw g ad am o tx is wa st hi mo out) H → va_D A (wLaw g ad am o tx is wa st hi mo out) → va_S A s.heap H locs → lv_has ls 9 [(0, .ref b), (1, .ref (ad 0 0)), (2, .ref (am 0)), (3, .ref o), (4, .int (nI i))] → W p l e room_1 s m args below meth c H locs (cells + 1) (slots + 6) Q (F0 m 1382 ls [])) : W p l e room_1 s m args below meth c H locs cells slots Q (F0 m 674 ls []) := by
  obtain ⟨hx, hb, hml, hown, hts, hK, hN, hX, hA, hXs, hbl, hbA, hZ⟩ := LC
  rcases hop j tx is wa st hi mo hj hJ with ⟨res, tx', st', hi', mo', h5, h6, h7, hJ'⟩ | ⟨b9, mo', h5, h6, h7, hJ'⟩
  · refine lv_aload_n hx hb dL_law_674 rfl (lv_at hl 1 rfl) ?_
    refine lv_aload_n hx hb dL_law_675 rfl (lv_at hl 3 rfl) ?_
    have pq := perm_a (cOut g o out) (cMo g am mo) (wBR g ad tx is wa st hi)
    refine aftm_p (st1 := [.int 0]) (ws' := wLaw g ad am o tx' is wa st' hi' mo (vp_updL out 0 res.toInt64)) rfl pq (perm_a (cOut g o (vp_updL out 0 res.toInt64)) (cMo g am mo) (wBR g ad tx' is wa st' hi')).symm (runL (As := [.ref (ad 0 0), .ref o]) (rest := []) ⟨hx, hb, hml, hown, hts⟩ (wL_play l hst g ad o (out := out) h5) (vx_cwSW 2 hts gL_law_L_play rfl rfl rfl hdL_play ⟨Nat.le_of_ble_eq_true rfl, Nat.le_of_ble_eq_true rfl⟩) hK hN hX hZ (hP.perm pq).left (hD.perm pq).left hS hA rfl hl.1 rfl (Nat.le_of_ble_eq_true rfl) dL_law_676 hro) hP hD hS hA (fun H locs hP hD hS => ?_)
    refine lv_istore (lv' := [(5, .int 0), (0, .ref b), (1, .ref (ad 0 0)), (2, .ref (am 0)), (3, .ref o), (4, .int (nI i))]) hx hb dL_law_679 hl (by decide) rfl (fun ls hl => ?_)
    refine lv_aload_n hx hb dL_law_681 rfl (lv_at hl 3 rfl) ?_
    have pq := perm_b (cOut g o (vp_updL out 0 res.toInt64)) (cMo g am mo) (wBR g ad tx' is wa st' hi')
    refine aft_p (st1 := [.int res]) (ws' := wLaw g ad am o tx' is wa st' hi' mo' (vp_updL out 0 res.toInt64)) rfl pq (perm_b (cOut g o (vp_updL out 0 res.toInt64)) (cMo g am mo') (wBR g ad tx' is wa st' hi')).symm (runV (As := []) (rest := []) ⟨hx, hb, hml, hown, hts⟩ (kX6_play l g am h6) (cwV 0 hts gL_law_X6_play rfl rfl rfl hdX6_play ⟨Nat.le_of_ble_eq_true rfl, Nat.le_of_ble_eq_true rfl⟩) hK hN (hP.perm pq).left (hD.perm pq).left (va_recv hK hP (ci := 6) (q0 := 1) rfl rfl) rfl hl.1 rfl (Nat.le_of_ble_eq_true rfl) dL_law_682 ⟨hro.1, hro.2⟩) hP hD hS hA (fun H locs hP hD hS => ?_)
    refine lv_istore (lv' := [(6, .int res), (5, .int 0), (0, .ref b), (1, .ref (ad 0 0)), (2, .ref (am 0)), (3, .ref o), (4, .int (nI i))]) hx hb dL_law_685 hl (by decide) rfl (fun ls hl => ?_)
    refine lv_aload_n hx hb dL_law_687 rfl (lv_at hl 4 rfl) ?_
    have pq := perm_b (cOut g o (vp_updL out 0 res.toInt64)) (cMo g am mo') (wBR g ad tx' is wa st' hi')
    refine aft_p (st1 := [.int (Mo_thrown mo')]) (ws' := wLaw g ad am o tx' is wa st' hi' mo' (vp_updL out 0 res.toInt64)) rfl pq (perm_b (cOut g o (vp_updL out 0 res.toInt64)) (cMo g am mo') (wBR g ad tx' is wa st' hi')).symm (runV (As := []) (rest := []) ⟨hx, hb, hml, hown, hts⟩ (kX6_thrown l g am (res := Mo_thrown mo') rfl) (cwV 0 hts gL_law_X6_thrown rfl rfl rfl hdX6_thrown ⟨Nat.le_of_ble_eq_true rfl, Nat.le_of_ble_eq_true rfl⟩) hK hN (hP.perm pq).left (hD.perm pq).left (va_recv hK hP (ci := 6) (q0 := 1) rfl rfl) rfl hl.1 rfl (Nat.le_of_ble_eq_true rfl) dL_law_688 ⟨hro.1, hro.2⟩) hP hD hS hA (fun H locs hP hD hS => ?_)
    refine lv_iload hx hb dL_law_691 (lv_at hl 1 rfl) ?_
    refine lv_icmp_eq (tgt := 698) hx hb dL_law_693 (by decide) (fun _ => ?_) (fun c9 => absurd h7 c9)
    refine lv_iload hx hb dL_law_698 (lv_at hl 1 rfl) ?_
    refine lv_if_ne (tgt := 715) hx hb dL_law_700 (by decide) (fun c9 => absurd rfl c9) (fun _ => ?_)
    refine lv_aload_n hx hb dL_law_703 rfl (lv_at hl 5 rfl) ?_
    refine lv_iconst (v := 0) hx hb dL_law_704 (by decide) ?_
    refine va_lald hx hb hK hP 0 2 rfl rfl (inb_in (i := 0) (n := 1) (by decide)) dL_law_705 ?_
    refine lv_eql (z := res.toInt64) rfl ?_
    refine lv_iload hx hb dL_law_706 (lv_at hl 0 rfl) ?_
    refine lv_i2l (v := res.toInt64) hx hb dL_law_708 rfl ?_
    refine W.lcmp hx hb dL_law_709 ?_
    refine lv_if_eq (tgt := 715) hx hb dL_law_710 (by decide) (fun _ => ?_) (fun c9 => absurd (cmp_self _) c9)
    refine lv_goto (tgt := 1382) hx hb dL_law_715 (by decide) ?_
    exact next _ _ _ _ _ _ _ _ _ _ hJ' hP hD hS (lv_sub hl [2, 3, 4, 5, 6] rfl)
  · refine lv_aload_n hx hb dL_law_674 rfl (lv_at hl 1 rfl) ?_
    refine lv_aload_n hx hb dL_law_675 rfl (lv_at hl 3 rfl) ?_
    have pq := perm_a (cOut g o out) (cMo g am mo) (wBR g ad tx is wa st hi)
    refine aftm_p (st1 := [.int 1]) (ws' := wLaw g ad am o tx is wa st hi mo out) rfl pq (perm_a (cOut g o out) (cMo g am mo) (wBR g ad tx is wa st hi)).symm (runL (As := [.ref (ad 0 0), .ref o]) (rest := []) ⟨hx, hb, hml, hown, hts⟩ (wL_play_2 l hst g ad o (out := out) h5) (vx_cwSW 2 hts gL_law_L_play rfl rfl rfl hdL_play ⟨Nat.le_of_ble_eq_true rfl, Nat.le_of_ble_eq_true rfl⟩) hK hN hX hZ (hP.perm pq).left (hD.perm pq).left hS hA rfl hl.1 rfl (Nat.le_of_ble_eq_true rfl) dL_law_676 hro) hP hD hS hA (fun H locs hP hD hS => ?_)
    refine lv_istore (lv' := [(5, .int 1), (0, .ref b), (1, .ref (ad 0 0)), (2, .ref (am 0)), (3, .ref o), (4, .int (nI i))]) hx hb dL_law_679 hl (by decide) rfl (fun ls hl => ?_)
    refine lv_aload_n hx hb dL_law_681 rfl (lv_at hl 3 rfl) ?_
    have pq := perm_b (cOut g o out) (cMo g am mo) (wBR g ad tx is wa st hi)
    refine aft_p (st1 := [.int b9]) (ws' := wLaw g ad am o tx is wa st hi mo' out) rfl pq (perm_b (cOut g o out) (cMo g am mo') (wBR g ad tx is wa st hi)).symm (runV (As := []) (rest := []) ⟨hx, hb, hml, hown, hts⟩ (kX6_play l g am h6) (cwV 0 hts gL_law_X6_play rfl rfl rfl hdX6_play ⟨Nat.le_of_ble_eq_true rfl, Nat.le_of_ble_eq_true rfl⟩) hK hN (hP.perm pq).left (hD.perm pq).left (va_recv hK hP (ci := 6) (q0 := 1) rfl rfl) rfl hl.1 rfl (Nat.le_of_ble_eq_true rfl) dL_law_682 ⟨hro.1, hro.2⟩) hP hD hS hA (fun H locs hP hD hS => ?_)
    refine lv_istore (lv' := [(6, .int b9), (5, .int 1), (0, .ref b), (1, .ref (ad 0 0)), (2, .ref (am 0)), (3, .ref o), (4, .int (nI i))]) hx hb dL_law_685 hl (by decide) rfl (fun ls hl => ?_)
    refine lv_aload_n hx hb dL_law_687 rfl (lv_at hl 4 rfl) ?_
    have pq := perm_b (cOut g o out) (cMo g am mo') (wBR g ad tx is wa st hi)
    refine aft_p (st1 := [.int (Mo_thrown mo')]) (ws' := wLaw g ad am o tx is wa st hi mo' out) rfl pq (perm_b (cOut g o out) (cMo g am mo') (wBR g ad tx is wa st hi)).symm (runV (As := []) (rest := []) ⟨hx, hb, hml, hown, hts⟩ (kX6_thrown l g am (res := Mo_thrown mo') rfl) (cwV 0 hts gL_law_X6_thrown rfl rfl rfl hdX6_thrown ⟨Nat.le_of_ble_eq_true rfl, Nat.le_of_ble_eq_true rfl⟩) hK hN (hP.perm pq).left (hD.perm pq).left (va_recv hK hP (ci := 6) (q0 := 1) rfl rfl) rfl hl.1 rfl (Nat.le_of_ble_eq_true rfl) dL_law_688 ⟨hro.1, hro.2⟩) hP hD hS hA (fun H locs hP hD hS => ?_)
    refine lv_iload hx hb dL_law_691 (lv_at hl 1 rfl) ?_
    refine lv_icmp_eq (tgt := 698) hx hb dL_law_693 (by decide) (fun _ => ?_) (fun c9 => absurd h7 c9)
    refine lv_iload hx hb dL_law_698 (lv_at hl 1 rfl) ?_
    refine lv_if_ne (tgt := 715) hx hb dL_law_700 (by decide) (fun _ => ?_) (fun c9 => absurd c9 (by decide))
    refine lv_goto (tgt := 1382) hx hb dL_law_715 (by decide) ?_
    exact next _ _ _ _ _ _ _ _ _ _ hJ' hP hD hS (lv_sub hl [2, 3, 4, 5, 6] rfl)
set_option maxRecDepth 100000 in
set_option maxHeartbeats 8000000 in
theorem law_keep {p : Program} {l : Launch} {e : Env} {s : State} {m : MethodId} {args : Array Value} {below : List Frame} {meth : Method} {c : Code} {b L : Nat} {xs : Nat → Int32} {g : GG} {A : Nat → Prop} {Q : State → Prop} (hst : l.stackTraces = false) (LC : LCx p s m args c b L xs g A) {J : Nat → Tx → Is → Wa → St → Hi → Mo → Prop} (ad : Nat → Nat → Nat) (am : Nat → Nat) (o i j : Nat) {tx : Tx} {is : Is} {wa : Wa} {st : St} {hi : Hi} {mo : Mo} {out : Nat → Int64} {H : Heap} {locs : List Loc} {ls : Array Slot} (cells slots : Nat) (hL : L ≤ 2048) (hiL : i + 4 ≤ L) (hj : j < 512) (hro : cells + 1 ≤ 607796 ∧ slots + 6 ≤ 7272716) (hJ : J j tx is wa st hi mo) (hP : va_P g.1 vwCl (wLaw g ad am o tx is wa st hi mo out) H) (hD : va_D A (wLaw g ad am o tx is wa st hi mo out)) (hS : va_S A s.heap H locs) (hl : lv_has ls 9 [(0, .ref b), (1, .ref (ad 0 0)), (2, .ref (am 0)), (3, .ref o), (4, .int (nI i))]) (hop : Op_keep J) (next : ∀ (tx : Tx) (is : Is) (wa : Wa) (st : St) (hi : Hi) (mo : Mo) (out : Nat → Int64) (H : Heap) (locs : List Loc) (ls : Array Slot), J (j + 1) tx is wa st hi mo → va_P g.1 vwCl (wLaw g ad am o tx is wa st hi mo out) H → va_D A (wLaw g ad am o tx is wa st hi mo out) → va_S A s.heap H locs → lv_has ls 9 [(0, .ref b), (1, .ref (ad 0 0)), (2, .ref (am 0)), (3, .ref o), (4, .int (nI i))] → W p l e room_1 s m args below meth c H locs (cells + 1) (slots + 6) Q (F0 m 1382 ls [])) : W p l e room_1 s m args below meth c H locs cells slots Q (F0 m 718 ls []) := by
  obtain ⟨hx, hb, hml, hown, hts, hK, hN, hX, hA, hXs, hbl, hbA, hZ⟩ := LC
  obtain ⟨res, hi', mo', h5, h6, hJ'⟩ := hop j tx is wa st hi mo hj hJ
  refine lv_aload_n hx hb dL_law_718 rfl (lv_at hl 1 rfl) ?_
  have pq := perm_c (cOut g o out) (cMo g am mo) (wBR g ad tx is wa st hi)
  refine aft_p (st1 := [.int res]) (ws' := wLaw g ad am o tx is wa st hi' mo out) rfl pq (perm_c (cOut g o out) (cMo g am mo) (wBR g ad tx is wa st hi')).symm (runV (As := []) (rest := []) ⟨hx, hb, hml, hown, hts⟩ (kX5_keep l g ad h5) (cwV 0 hts gL_law_X5_keep rfl rfl rfl hdX5_keep ⟨Nat.le_of_ble_eq_true rfl, Nat.le_of_ble_eq_true rfl⟩) hK hN (hP.perm pq).left (hD.perm pq).left (va_recv hK hP (ci := 5) (q0 := 7) rfl rfl) rfl hl.1 rfl (Nat.le_of_ble_eq_true rfl) dL_law_719 ⟨by have := hro.1; show cells ≤ 607796; omega, by have := hro.2; show slots ≤ 7272716; omega⟩) hP hD hS hA (fun H locs hP hD hS => ?_)
  refine lv_aload_n hx hb dL_law_722 rfl (lv_at hl 2 rfl) ?_
  have pq := perm_b (cOut g o out) (cMo g am mo) (wBR g ad tx is wa st hi')
  refine aft_p (st1 := [.int res, .int res]) (ws' := wLaw g ad am o tx is wa st hi' mo' out) rfl pq (perm_b (cOut g o out) (cMo g am mo') (wBR g ad tx is wa st hi')).symm (runV (As := []) (rest := [.int res]) ⟨hx, hb, hml, hown, hts⟩ (kX6_keep l g am h6) (cwV 0 hts gL_law_X6_keep rfl rfl rfl hdX6_keep ⟨Nat.le_of_ble_eq_true rfl, Nat.le_of_ble_eq_true rfl⟩) hK hN (hP.perm pq).left (hD.perm pq).left (va_recv hK hP (ci := 6) (q0 := 1) rfl rfl) rfl hl.1 rfl (Nat.le_of_ble_eq_true rfl) dL_law_723 ⟨by have := hro.1; show cells ≤ 607796; omega, by have := hro.2; show slots ≤ 7272716; omega⟩) hP hD hS hA (fun H locs hP hD hS => ?_)
  refine lv_icmp_eq (tgt := 1382) hx hb dL_law_726 (by decide) (fun _ => ?_) (fun c9 => absurd rfl c9)
  refine W.widen (k := cells + 1) (n := slots + 6) (Nat.le_add_right _ _) (Nat.le_add_right _ _) ?_
  exact next _ _ _ _ _ _ _ _ _ _ hJ' hP hD hS (lv_sub hl [0, 1, 2, 3, 4] rfl)
set_option maxRecDepth 100000 in
set_option maxHeartbeats 8000000 in
theorem law_goBack {p : Program} {l : Launch} {e : Env} {s : State} {m : MethodId} {args : Array Value} {below : List Frame} {meth : Method} {c : Code} {b L : Nat} {xs : Nat → Int32} {g : GG} {A : Nat → Prop} {Q : State → Prop} (hst : l.stackTraces = false) (LC : LCx p s m args c b L xs g A) {J : Nat → Tx → Is → Wa → St → Hi → Mo → Prop} (ad : Nat → Nat → Nat) (am : Nat → Nat) (o i j : Nat) {tx : Tx} {is : Is} {wa : Wa} {st : St} {hi : Hi} {mo : Mo} {out : Nat → Int64} {H : Heap} {locs : List Loc} {ls : Array Slot} (cells slots : Nat) (hL : L ≤ 2048) (hiL : i + 4 ≤ L) (hj : j < 512) (hro : cells + 1 ≤ 607796 ∧ slots + 6 ≤ 7272716) (hJ : J j tx is wa st hi mo) (hP : va_P g.1 vwCl (wLaw g ad am o tx is wa st hi mo out) H) (hD : va_D A (wLaw g ad am o tx is wa st hi mo out)) (hS : va_S A s.heap H locs) (hl : lv_has ls 9 [(0, .ref b), (1, .ref (ad 0 0)), (2, .ref (am 0)), (3, .ref o), (4, .int (nI i))]) (hop : Op_goBack J) (next : ∀ (tx : Tx) (is : Is) (wa : Wa) (st : St) (hi : Hi) (mo : Mo) (out : Nat → Int64) (H : Heap) (locs : List Loc) (ls : Array Slot), J (j + 1) tx is wa st hi mo → va_P g.1 vwCl (wLaw g ad am o tx is wa st hi mo out) H → va_D A (wLaw g ad am o tx is wa st hi mo out) → va_S A s.heap H locs → lv_has ls 9 [(0, .ref b), (1, .ref (ad 0 0)), (2, .ref (am 0)), (3, .ref o), (4, .int (nI i))] → W p l e room_1 s m args below meth c H locs (cells + 1) (slots + 6) Q (F0 m 1382 ls [])) : W p l e room_1 s m args below meth c H locs cells slots Q (F0 m 731 ls []) := by
  obtain ⟨hx, hb, hml, hown, hts, hK, hN, hX, hA, hXs, hbl, hbA, hZ⟩ := LC
  rcases hop j tx is wa st hi mo hj hJ with ⟨res, st', hi', mo', h5, h6, h7, hJ'⟩ | ⟨b9, mo', h5, h6, h7, hJ'⟩
  · refine lv_aload_n hx hb dL_law_731 rfl (lv_at hl 1 rfl) ?_
    refine lv_aload_n hx hb dL_law_732 rfl (lv_at hl 3 rfl) ?_
    have pq := perm_a (cOut g o out) (cMo g am mo) (wBR g ad tx is wa st hi)
    refine aftm_p (st1 := [.int 0]) (ws' := wLaw g ad am o tx is wa st' hi' mo (vp_updL out 0 res.toInt64)) rfl pq (perm_a (cOut g o (vp_updL out 0 res.toInt64)) (cMo g am mo) (wBR g ad tx is wa st' hi')).symm (runL (As := [.ref (ad 0 0), .ref o]) (rest := []) ⟨hx, hb, hml, hown, hts⟩ (wL_goBack l hst g ad o (out := out) h5) (vx_cwSW 2 hts gL_law_L_goBack rfl rfl rfl hdL_goBack ⟨Nat.le_of_ble_eq_true rfl, Nat.le_of_ble_eq_true rfl⟩) hK hN hX hZ (hP.perm pq).left (hD.perm pq).left hS hA rfl hl.1 rfl (Nat.le_of_ble_eq_true rfl) dL_law_733 hro) hP hD hS hA (fun H locs hP hD hS => ?_)
    refine lv_istore (lv' := [(5, .int 0), (0, .ref b), (1, .ref (ad 0 0)), (2, .ref (am 0)), (3, .ref o), (4, .int (nI i))]) hx hb dL_law_736 hl (by decide) rfl (fun ls hl => ?_)
    refine lv_aload_n hx hb dL_law_738 rfl (lv_at hl 3 rfl) ?_
    have pq := perm_b (cOut g o (vp_updL out 0 res.toInt64)) (cMo g am mo) (wBR g ad tx is wa st' hi')
    refine aft_p (st1 := [.int res]) (ws' := wLaw g ad am o tx is wa st' hi' mo' (vp_updL out 0 res.toInt64)) rfl pq (perm_b (cOut g o (vp_updL out 0 res.toInt64)) (cMo g am mo') (wBR g ad tx is wa st' hi')).symm (runV (As := []) (rest := []) ⟨hx, hb, hml, hown, hts⟩ (kX6_goBack l g am h6) (cwV 0 hts gL_law_X6_goBack rfl rfl rfl hdX6_goBack ⟨Nat.le_of_ble_eq_true rfl, Nat.le_of_ble_eq_true rfl⟩) hK hN (hP.perm pq).left (hD.perm pq).left (va_recv hK hP (ci := 6) (q0 := 1) rfl rfl) rfl hl.1 rfl (Nat.le_of_ble_eq_true rfl) dL_law_739 ⟨hro.1, hro.2⟩) hP hD hS hA (fun H locs hP hD hS => ?_)
    refine lv_istore (lv' := [(6, .int res), (5, .int 0), (0, .ref b), (1, .ref (ad 0 0)), (2, .ref (am 0)), (3, .ref o), (4, .int (nI i))]) hx hb dL_law_742 hl (by decide) rfl (fun ls hl => ?_)
    refine lv_aload_n hx hb dL_law_744 rfl (lv_at hl 4 rfl) ?_
    have pq := perm_b (cOut g o (vp_updL out 0 res.toInt64)) (cMo g am mo') (wBR g ad tx is wa st' hi')
    refine aft_p (st1 := [.int (Mo_thrown mo')]) (ws' := wLaw g ad am o tx is wa st' hi' mo' (vp_updL out 0 res.toInt64)) rfl pq (perm_b (cOut g o (vp_updL out 0 res.toInt64)) (cMo g am mo') (wBR g ad tx is wa st' hi')).symm (runV (As := []) (rest := []) ⟨hx, hb, hml, hown, hts⟩ (kX6_thrown l g am (res := Mo_thrown mo') rfl) (cwV 0 hts gL_law_X6_thrown rfl rfl rfl hdX6_thrown ⟨Nat.le_of_ble_eq_true rfl, Nat.le_of_ble_eq_true rfl⟩) hK hN (hP.perm pq).left (hD.perm pq).left (va_recv hK hP (ci := 6) (q0 := 1) rfl rfl) rfl hl.1 rfl (Nat.le_of_ble_eq_true rfl) dL_law_745 ⟨hro.1, hro.2⟩) hP hD hS hA (fun H locs hP hD hS => ?_)
    refine lv_iload hx hb dL_law_748 (lv_at hl 1 rfl) ?_
    refine lv_icmp_eq (tgt := 755) hx hb dL_law_750 (by decide) (fun _ => ?_) (fun c9 => absurd h7 c9)
    refine lv_iload hx hb dL_law_755 (lv_at hl 1 rfl) ?_
    refine lv_if_ne (tgt := 772) hx hb dL_law_757 (by decide) (fun c9 => absurd rfl c9) (fun _ => ?_)
    refine lv_aload_n hx hb dL_law_760 rfl (lv_at hl 5 rfl) ?_
    refine lv_iconst (v := 0) hx hb dL_law_761 (by decide) ?_
    refine va_lald hx hb hK hP 0 2 rfl rfl (inb_in (i := 0) (n := 1) (by decide)) dL_law_762 ?_
    refine lv_eql (z := res.toInt64) rfl ?_
    refine lv_iload hx hb dL_law_763 (lv_at hl 0 rfl) ?_
    refine lv_i2l (v := res.toInt64) hx hb dL_law_765 rfl ?_
    refine W.lcmp hx hb dL_law_766 ?_
    refine lv_if_eq (tgt := 772) hx hb dL_law_767 (by decide) (fun _ => ?_) (fun c9 => absurd (cmp_self _) c9)
    refine lv_goto (tgt := 1382) hx hb dL_law_772 (by decide) ?_
    exact next _ _ _ _ _ _ _ _ _ _ hJ' hP hD hS (lv_sub hl [2, 3, 4, 5, 6] rfl)
  · refine lv_aload_n hx hb dL_law_731 rfl (lv_at hl 1 rfl) ?_
    refine lv_aload_n hx hb dL_law_732 rfl (lv_at hl 3 rfl) ?_
    have pq := perm_a (cOut g o out) (cMo g am mo) (wBR g ad tx is wa st hi)
    refine aftm_p (st1 := [.int 1]) (ws' := wLaw g ad am o tx is wa st hi mo out) rfl pq (perm_a (cOut g o out) (cMo g am mo) (wBR g ad tx is wa st hi)).symm (runL (As := [.ref (ad 0 0), .ref o]) (rest := []) ⟨hx, hb, hml, hown, hts⟩ (wL_goBack_3 l hst g ad o (out := out) h5) (vx_cwSW 2 hts gL_law_L_goBack rfl rfl rfl hdL_goBack ⟨Nat.le_of_ble_eq_true rfl, Nat.le_of_ble_eq_true rfl⟩) hK hN hX hZ (hP.perm pq).left (hD.perm pq).left hS hA rfl hl.1 rfl (Nat.le_of_ble_eq_true rfl) dL_law_733 hro) hP hD hS hA (fun H locs hP hD hS => ?_)
    refine lv_istore (lv' := [(5, .int 1), (0, .ref b), (1, .ref (ad 0 0)), (2, .ref (am 0)), (3, .ref o), (4, .int (nI i))]) hx hb dL_law_736 hl (by decide) rfl (fun ls hl => ?_)
    refine lv_aload_n hx hb dL_law_738 rfl (lv_at hl 3 rfl) ?_
    have pq := perm_b (cOut g o out) (cMo g am mo) (wBR g ad tx is wa st hi)
    refine aft_p (st1 := [.int b9]) (ws' := wLaw g ad am o tx is wa st hi mo' out) rfl pq (perm_b (cOut g o out) (cMo g am mo') (wBR g ad tx is wa st hi)).symm (runV (As := []) (rest := []) ⟨hx, hb, hml, hown, hts⟩ (kX6_goBack l g am h6) (cwV 0 hts gL_law_X6_goBack rfl rfl rfl hdX6_goBack ⟨Nat.le_of_ble_eq_true rfl, Nat.le_of_ble_eq_true rfl⟩) hK hN (hP.perm pq).left (hD.perm pq).left (va_recv hK hP (ci := 6) (q0 := 1) rfl rfl) rfl hl.1 rfl (Nat.le_of_ble_eq_true rfl) dL_law_739 ⟨hro.1, hro.2⟩) hP hD hS hA (fun H locs hP hD hS => ?_)
    refine lv_istore (lv' := [(6, .int b9), (5, .int 1), (0, .ref b), (1, .ref (ad 0 0)), (2, .ref (am 0)), (3, .ref o), (4, .int (nI i))]) hx hb dL_law_742 hl (by decide) rfl (fun ls hl => ?_)
    refine lv_aload_n hx hb dL_law_744 rfl (lv_at hl 4 rfl) ?_
    have pq := perm_b (cOut g o out) (cMo g am mo') (wBR g ad tx is wa st hi)
    refine aft_p (st1 := [.int (Mo_thrown mo')]) (ws' := wLaw g ad am o tx is wa st hi mo' out) rfl pq (perm_b (cOut g o out) (cMo g am mo') (wBR g ad tx is wa st hi)).symm (runV (As := []) (rest := []) ⟨hx, hb, hml, hown, hts⟩ (kX6_thrown l g am (res := Mo_thrown mo') rfl) (cwV 0 hts gL_law_X6_thrown rfl rfl rfl hdX6_thrown ⟨Nat.le_of_ble_eq_true rfl, Nat.le_of_ble_eq_true rfl⟩) hK hN (hP.perm pq).left (hD.perm pq).left (va_recv hK hP (ci := 6) (q0 := 1) rfl rfl) rfl hl.1 rfl (Nat.le_of_ble_eq_true rfl) dL_law_745 ⟨hro.1, hro.2⟩) hP hD hS hA (fun H locs hP hD hS => ?_)
    refine lv_iload hx hb dL_law_748 (lv_at hl 1 rfl) ?_
    refine lv_icmp_eq (tgt := 755) hx hb dL_law_750 (by decide) (fun _ => ?_) (fun c9 => absurd h7 c9)
    refine lv_iload hx hb dL_law_755 (lv_at hl 1 rfl) ?_
    refine lv_if_ne (tgt := 772) hx hb dL_law_757 (by decide) (fun _ => ?_) (fun c9 => absurd c9 (by decide))
    refine lv_goto (tgt := 1382) hx hb dL_law_772 (by decide) ?_
    exact next _ _ _ _ _ _ _ _ _ _ hJ' hP hD hS (lv_sub hl [2, 3, 4, 5, 6] rfl)
set_option maxRecDepth 100000 in
set_option maxHeartbeats 8000000 in
theorem law_undo {p : Program} {l : Launch} {e : Env} {s : State} {m : MethodId} {args : Array Value} {below : List Frame} {meth : Method} {c : Code} {b L : Nat} {xs : Nat → Int32} {g : GG} {A : Nat → Prop} {Q : State → Prop} (hst : l.stackTraces = false) (LC : LCx p s m args c b L xs g A) {J : Nat → Tx → Is → Wa → St → Hi → Mo → Prop} (ad : Nat → Nat → Nat) (am : Nat → Nat) (o i j : Nat) {tx : Tx} {is : Is} {wa : Wa} {st : St} {hi : Hi} {mo : Mo} {out : Nat → Int64} {H : Heap} {locs : List Loc} {ls : Array Slot} (cells slots : Nat) (hL : L ≤ 2048) (hiL : i + 4 ≤ L) (hj : j < 512) (hro : cells + 1 ≤ 607796 ∧ slots + 6 ≤ 7272716) (hJ : J j tx is wa st hi mo) (hP : va_P g.1 vwCl (wLaw g ad am o tx is wa st hi mo out) H) (hD : va_D A (wLaw g ad am o tx is wa st hi mo out)) (hS : va_S A s.heap H locs) (hl : lv_has ls 9 [(0, .ref b), (1, .ref (ad 0 0)), (2, .ref (am 0)), (3, .ref o), (4, .int (nI i))]) (hop : Op_undo J) (next : ∀ (tx : Tx) (is : Is) (wa : Wa) (st : St) (hi : Hi) (mo : Mo) (out : Nat → Int64) (H : Heap) (locs : List Loc) (ls : Array Slot), J (j + 1) tx is wa st hi mo → va_P g.1 vwCl (wLaw g ad am o tx is wa st hi mo out) H → va_D A (wLaw g ad am o tx is wa st hi mo out) → va_S A s.heap H locs → lv_has ls 9 [(0, .ref b), (1, .ref (ad 0 0)), (2, .ref (am 0)), (3, .ref o), (4, .int (nI i))] → W p l e room_1 s m args below meth c H locs (cells + 1) (slots + 6) Q (F0 m 1382 ls [])) : W p l e room_1 s m args below meth c H locs cells slots Q (F0 m 775 ls []) := by
  obtain ⟨hx, hb, hml, hown, hts, hK, hN, hX, hA, hXs, hbl, hbA, hZ⟩ := LC
  rcases hop j tx is wa st hi mo hj hJ with ⟨res, st', hi', mo', h5, h6, h7, hJ'⟩ | ⟨b9, mo', h5, h6, h7, hJ'⟩
  · refine lv_aload_n hx hb dL_law_775 rfl (lv_at hl 1 rfl) ?_
    refine lv_aload_n hx hb dL_law_776 rfl (lv_at hl 3 rfl) ?_
    have pq := perm_a (cOut g o out) (cMo g am mo) (wBR g ad tx is wa st hi)
    refine aftm_p (st1 := [.int 0]) (ws' := wLaw g ad am o tx is wa st' hi' mo (vp_updL out 0 res.toInt64)) rfl pq (perm_a (cOut g o (vp_updL out 0 res.toInt64)) (cMo g am mo) (wBR g ad tx is wa st' hi')).symm (runL (As := [.ref (ad 0 0), .ref o]) (rest := []) ⟨hx, hb, hml, hown, hts⟩ (wL_undo l hst g ad o (out := out) h5) (vx_cwSW 2 hts gL_law_L_undo rfl rfl rfl hdL_undo ⟨Nat.le_of_ble_eq_true rfl, Nat.le_of_ble_eq_true rfl⟩) hK hN hX hZ (hP.perm pq).left (hD.perm pq).left hS hA rfl hl.1 rfl (Nat.le_of_ble_eq_true rfl) dL_law_777 hro) hP hD hS hA (fun H locs hP hD hS => ?_)
    refine lv_istore (lv' := [(5, .int 0), (0, .ref b), (1, .ref (ad 0 0)), (2, .ref (am 0)), (3, .ref o), (4, .int (nI i))]) hx hb dL_law_780 hl (by decide) rfl (fun ls hl => ?_)
    refine lv_aload_n hx hb dL_law_782 rfl (lv_at hl 3 rfl) ?_
    have pq := perm_b (cOut g o (vp_updL out 0 res.toInt64)) (cMo g am mo) (wBR g ad tx is wa st' hi')
    refine aft_p (st1 := [.int res]) (ws' := wLaw g ad am o tx is wa st' hi' mo' (vp_updL out 0 res.toInt64)) rfl pq (perm_b (cOut g o (vp_updL out 0 res.toInt64)) (cMo g am mo') (wBR g ad tx is wa st' hi')).symm (runV (As := []) (rest := []) ⟨hx, hb, hml, hown, hts⟩ (kX6_undo l g am h6) (cwV 0 hts gL_law_X6_undo rfl rfl rfl hdX6_undo ⟨Nat.le_of_ble_eq_true rfl, Nat.le_of_ble_eq_true rfl⟩) hK hN (hP.perm pq).left (hD.perm pq).left (va_recv hK hP (ci := 6) (q0 := 1) rfl rfl) rfl hl.1 rfl (Nat.le_of_ble_eq_true rfl) dL_law_783 ⟨hro.1, hro.2⟩) hP hD hS hA (fun H locs hP hD hS => ?_)
    refine lv_istore (lv' := [(6, .int res), (5, .int 0), (0, .ref b), (1, .ref (ad 0 0)), (2, .ref (am 0)), (3, .ref o), (4, .int (nI i))]) hx hb dL_law_786 hl (by decide) rfl (fun ls hl => ?_)
    refine lv_aload_n hx hb dL_law_788 rfl (lv_at hl 4 rfl) ?_
    have pq := perm_b (cOut g o (vp_updL out 0 res.toInt64)) (cMo g am mo') (wBR g ad tx is wa st' hi')
    refine aft_p (st1 := [.int (Mo_thrown mo')]) (ws' := wLaw g ad am o tx is wa st' hi' mo' (vp_updL out 0 res.toInt64)) rfl pq (perm_b (cOut g o (vp_updL out 0 res.toInt64)) (cMo g am mo') (wBR g ad tx is wa st' hi')).symm (runV (As := []) (rest := []) ⟨hx, hb, hml, hown, hts⟩ (kX6_thrown l g am (res := Mo_thrown mo') rfl) (cwV 0 hts gL_law_X6_thrown rfl rfl rfl hdX6_thrown ⟨Nat.le_of_ble_eq_true rfl, Nat.le_of_ble_eq_true rfl⟩) hK hN (hP.perm pq).left (hD.perm pq).left (va_recv hK hP (ci := 6) (q0 := 1) rfl rfl) rfl hl.1 rfl (Nat.le_of_ble_eq_true rfl) dL_law_789 ⟨hro.1, hro.2⟩) hP hD hS hA (fun H locs hP hD hS => ?_)
    refine lv_iload hx hb dL_law_792 (lv_at hl 1 rfl) ?_
    refine lv_icmp_eq (tgt := 799) hx hb dL_law_794 (by decide) (fun _ => ?_) (fun c9 => absurd h7 c9)
    refine lv_iload hx hb dL_law_799 (lv_at hl 1 rfl) ?_
    refine lv_if_ne (tgt := 816) hx hb dL_law_801 (by decide) (fun c9 => absurd rfl c9) (fun _ => ?_)
    refine lv_aload_n hx hb dL_law_804 rfl (lv_at hl 5 rfl) ?_
    refine lv_iconst (v := 0) hx hb dL_law_805 (by decide) ?_
    refine va_lald hx hb hK hP 0 2 rfl rfl (inb_in (i := 0) (n := 1) (by decide)) dL_law_806 ?_
    refine lv_eql (z := res.toInt64) rfl ?_
    refine lv_iload hx hb dL_law_807 (lv_at hl 0 rfl) ?_
    refine lv_i2l (v := res.toInt64) hx hb dL_law_809 rfl ?_
    refine W.lcmp hx hb dL_law_810 ?_
    refine lv_if_eq (tgt := 816) hx hb dL_law_811 (by decide) (fun _ => ?_) (fun c9 => absurd (cmp_self _) c9)
    refine lv_goto (tgt := 1382) hx hb dL_law_816 (by decide) ?_
    exact next _ _ _ _ _ _ _ _ _ _ hJ' hP hD hS (lv_sub hl [2, 3, 4, 5, 6] rfl)
  · refine lv_aload_n hx hb dL_law_775 rfl (lv_at hl 1 rfl) ?_
    refine lv_aload_n hx hb dL_law_776 rfl (lv_at hl 3 rfl) ?_
    have pq := perm_a (cOut g o out) (cMo g am mo) (wBR g ad tx is wa st hi)
    refine aftm_p (st1 := [.int 1]) (ws' := wLaw g ad am o tx is wa st hi mo out) rfl pq (perm_a (cOut g o out) (cMo g am mo) (wBR g ad tx is wa st hi)).symm (runL (As := [.ref (ad 0 0), .ref o]) (rest := []) ⟨hx, hb, hml, hown, hts⟩ (wL_undo_3 l hst g ad o (out := out) h5) (vx_cwSW 2 hts gL_law_L_undo rfl rfl rfl hdL_undo ⟨Nat.le_of_ble_eq_true rfl, Nat.le_of_ble_eq_true rfl⟩) hK hN hX hZ (hP.perm pq).left (hD.perm pq).left hS hA rfl hl.1 rfl (Nat.le_of_ble_eq_true rfl) dL_law_777 hro) hP hD hS hA (fun H locs hP hD hS => ?_)
    refine lv_istore (lv' := [(5, .int 1), (0, .ref b), (1, .ref (ad 0 0)), (2, .ref (am 0)), (3, .ref o), (4, .int (nI i))]) hx hb dL_law_780 hl (by decide) rfl (fun ls hl => ?_)
    refine lv_aload_n hx hb dL_law_782 rfl (lv_at hl 3 rfl) ?_
    have pq := perm_b (cOut g o out) (cMo g am mo) (wBR g ad tx is wa st hi)
    refine aft_p (st1 := [.int b9]) (ws' := wLaw g ad am o tx is wa st hi mo' out) rfl pq (perm_b (cOut g o out) (cMo g am mo') (wBR g ad tx is wa st hi)).symm (runV (As := []) (rest := []) ⟨hx, hb, hml, hown, hts⟩ (kX6_undo l g am h6) (cwV 0 hts gL_law_X6_undo rfl rfl rfl hdX6_undo ⟨Nat.le_of_ble_eq_true rfl, Nat.le_of_ble_eq_true rfl⟩) hK hN (hP.perm pq).left (hD.perm pq).left (va_recv hK hP (ci := 6) (q0 := 1) rfl rfl) rfl hl.1 rfl (Nat.le_of_ble_eq_true rfl) dL_law_783 ⟨hro.1, hro.2⟩) hP hD hS hA (fun H locs hP hD hS => ?_)
    refine lv_istore (lv' := [(6, .int b9), (5, .int 1), (0, .ref b), (1, .ref (ad 0 0)), (2, .ref (am 0)), (3, .ref o), (4, .int (nI i))]) hx hb dL_law_786 hl (by decide) rfl (fun ls hl => ?_)
    refine lv_aload_n hx hb dL_law_788 rfl (lv_at hl 4 rfl) ?_
    have pq := perm_b (cOut g o out) (cMo g am mo') (wBR g ad tx is wa st hi)
    refine aft_p (st1 := [.int (Mo_thrown mo')]) (ws' := wLaw g ad am o tx is wa st hi mo' out) rfl pq (perm_b (cOut g o out) (cMo g am mo') (wBR g ad tx is wa st hi)).symm (runV (As := []) (rest := []) ⟨hx, hb, hml, hown, hts⟩ (kX6_thrown l g am (res := Mo_thrown mo') rfl) (cwV 0 hts gL_law_X6_thrown rfl rfl rfl hdX6_thrown ⟨Nat.le_of_ble_eq_true rfl, Nat.le_of_ble_eq_true rfl⟩) hK hN (hP.perm pq).left (hD.perm pq).left (va_recv hK hP (ci := 6) (q0 := 1) rfl rfl) rfl hl.1 rfl (Nat.le_of_ble_eq_true rfl) dL_law_789 ⟨hro.1, hro.2⟩) hP hD hS hA (fun H locs hP hD hS => ?_)
    refine lv_iload hx hb dL_law_792 (lv_at hl 1 rfl) ?_
    refine lv_icmp_eq (tgt := 799) hx hb dL_law_794 (by decide) (fun _ => ?_) (fun c9 => absurd h7 c9)
    refine lv_iload hx hb dL_law_799 (lv_at hl 1 rfl) ?_
    refine lv_if_ne (tgt := 816) hx hb dL_law_801 (by decide) (fun _ => ?_) (fun c9 => absurd c9 (by decide))
    refine lv_goto (tgt := 1382) hx hb dL_law_816 (by decide) ?_
    exact next _ _ _ _ _ _ _ _ _ _ hJ' hP hD hS (lv_sub hl [2, 3, 4, 5, 6] rfl)
set_option maxRecDepth 100000 in
set_option maxHeartbeats 8000000 in
theorem law_word {p : Program} {l : Launch} {e : Env} {s : State} {m : MethodId} {args : Array Value} {below : List Frame} {meth : Method} {c : Code} {b L : Nat} {xs : Nat → Int32} {g : GG} {A : Nat → Prop} {Q : State → Prop} (hst : l.stackTraces = false) (LC : LCx p s m args c b L xs g A) {J : Nat → Tx → Is → Wa → St → Hi → Mo → Prop} (ad : Nat → Nat → Nat) (am : Nat → Nat) (o i j : Nat) {tx : Tx} {is : Is} {wa : Wa} {st : St} {hi : Hi} {mo : Mo} {out : Nat → Int64} {H : Heap} {locs : List Loc} {ls : Array Slot} (cells slots : Nat) (hL : L ≤ 2048) (hiL : i + 4 ≤ L) (hj : j < 512) (hro : cells + 1 ≤ 607796 ∧ slots + 6 ≤ 7272716) (hJ : J j tx is wa st hi mo) (hP : va_P g.1 vwCl (wLaw g ad am o tx is wa st hi mo out) H) (hD : va_D A (wLaw g ad am o tx is wa st hi mo out)) (hS : va_S A s.heap H locs) (hl : lv_has ls 9 [(0, .ref b), (1, .ref (ad 0 0)), (2, .ref (am 0)), (3, .ref o), (4, .int (nI i))]) (hop : Op_word J) (next : ∀ (tx : Tx) (is : Is) (wa : Wa) (st : St) (hi : Hi) (mo : Mo) (out : Nat → Int64) (H : Heap) (locs : List Loc) (ls : Array Slot), J (j + 1) tx is wa st hi mo → va_P g.1 vwCl (wLaw g ad am o tx is wa st hi mo out) H → va_D A (wLaw g ad am o tx is wa st hi mo out) → va_S A s.heap H locs → lv_has ls 9 [(0, .ref b), (1, .ref (ad 0 0)), (2, .ref (am 0)), (3, .ref o), (4, .int (nI i))] → W p l e room_1 s m args below meth c H locs (cells + 1) (slots + 6) Q (F0 m 1382 ls [])) : W p l e room_1 s m args below meth c H locs cells slots Q (F0 m 819 ls []) := by
  obtain ⟨hx, hb, hml, hown, hts, hK, hN, hX, hA, hXs, hbl, hbA, hZ⟩ := LC
  rcases hop j tx is wa st hi mo (xs (nI (i + 1)).toNatClampNeg) (xs (nI (i + 2)).toNatClampNeg) hj hJ with ⟨res, mo', h5, h6, h7, hJ'⟩ | ⟨b9, mo', h5, h6, h7, hJ'⟩ | ⟨b9, mo', h5, h6, h7, hJ'⟩
  · refine lv_aload_n hx hb dL_law_819 rfl (lv_at hl 1 rfl) ?_
    refine lv_aload_n hx hb dL_law_820 rfl (lv_at hl 0 rfl) ?_
    refine lv_iload hx hb dL_law_821 (lv_at hl 4 rfl) ?_
    refine lv_iconst (v := 1) hx hb dL_law_823 (by decide) ?_
    refine lv_iadd hx hb dL_law_824 ?_
    refine lv_eqi (z := nI (i + 1)) (nI_add i 1) ?_
    refine va_sld hx hb hXs hbl hbA hS (vp_in_nI (by omega) (by omega)) dL_law_825 ?_
    refine lv_aload_n hx hb dL_law_826 rfl (lv_at hl 0 rfl) ?_
    refine lv_iload hx hb dL_law_827 (lv_at hl 4 rfl) ?_
    refine lv_iconst (v := 2) hx hb dL_law_829 (by decide) ?_
    refine lv_iadd hx hb dL_law_830 ?_
    refine lv_eqi (z := nI (i + 2)) (nI_add i 2) ?_
    refine va_sld hx hb hXs hbl hbA hS (vp_in_nI (by omega) (by omega)) dL_law_831 ?_
    refine lv_aload_n hx hb dL_law_832 rfl (lv_at hl 3 rfl) ?_
    have pq := perm_a (cOut g o out) (cMo g am mo) (wBR g ad tx is wa st hi)
    refine aftm_p (st1 := [.int 0]) (ws' := wLaw g ad am o tx is wa st hi mo (vp_updL out 0 res.toInt64)) rfl pq (perm_a (cOut g o (vp_updL out 0 res.toInt64)) (cMo g am mo) (wBR g ad tx is wa st hi)).symm (runL (As := [.ref (ad 0 0), .int (xs (nI (i + 1)).toNatClampNeg), .int (xs (nI (i + 2)).toNatClampNeg), .ref o]) (rest := []) ⟨hx, hb, hml, hown, hts⟩ (wL_word l hst g ad o (out := out) h5) (vx_cwSW 4 hts gL_law_L_word rfl rfl rfl hdL_word ⟨Nat.le_of_ble_eq_true rfl, Nat.le_of_ble_eq_true rfl⟩) hK hN hX hZ (hP.perm pq).left (hD.perm pq).left hS hA rfl hl.1 rfl (Nat.le_of_ble_eq_true rfl) dL_law_833 hro) hP hD hS hA (fun H locs hP hD hS => ?_)
    refine lv_istore (lv' := [(5, .int 0), (0, .ref b), (1, .ref (ad 0 0)), (2, .ref (am 0)), (3, .ref o), (4, .int (nI i))]) hx hb dL_law_836 hl (by decide) rfl (fun ls hl => ?_)
    refine lv_aload_n hx hb dL_law_838 rfl (lv_at hl 3 rfl) ?_
    refine lv_aload_n hx hb dL_law_839 rfl (lv_at hl 1 rfl) ?_
    refine lv_iload hx hb dL_law_840 (lv_at hl 5 rfl) ?_
    refine lv_iconst (v := 1) hx hb dL_law_842 (by decide) ?_
    refine lv_iadd hx hb dL_law_843 ?_
    refine lv_eqi (z := nI (i + 1)) (nI_add i 1) ?_
    refine va_sld hx hb hXs hbl hbA hS (vp_in_nI (by omega) (by omega)) dL_law_844 ?_
    refine lv_aload_n hx hb dL_law_845 rfl (lv_at hl 1 rfl) ?_
    refine lv_iload hx hb dL_law_846 (lv_at hl 5 rfl) ?_
    refine lv_iconst (v := 2) hx hb dL_law_848 (by decide) ?_
    refine lv_iadd hx hb dL_law_849 ?_
    refine lv_eqi (z := nI (i + 2)) (nI_add i 2) ?_
    refine va_sld hx hb hXs hbl hbA hS (vp_in_nI (by omega) (by omega)) dL_law_850 ?_
    have pq := perm_b (cOut g o (vp_updL out 0 res.toInt64)) (cMo g am mo) (wBR g ad tx is wa st hi)
    refine aft_p (st1 := [.int res]) (ws' := wLaw g ad am o tx is wa st hi mo' (vp_updL out 0 res.toInt64)) rfl pq (perm_b (cOut g o (vp_updL out 0 res.toInt64)) (cMo g am mo') (wBR g ad tx is wa st hi)).symm (runV (As := [.int (xs (nI (i + 1)).toNatClampNeg), .int (xs (nI (i + 2)).toNatClampNeg)]) (rest := []) ⟨hx, hb, hml, hown, hts⟩ (kX6_word l g am h6) (cwV 2 hts gL_law_X6_word rfl rfl rfl hdX6_word ⟨Nat.le_of_ble_eq_true rfl, Nat.le_of_ble_eq_true rfl⟩) hK hN (hP.perm pq).left (hD.perm pq).left (va_recv hK hP (ci := 6) (q0 := 1) rfl rfl) rfl hl.1 rfl (Nat.le_of_ble_eq_true rfl) dL_law_851 ⟨hro.1, hro.2⟩) hP hD hS hA (fun H locs hP hD hS => ?_)
    refine lv_istore (lv' := [(6, .int res), (5, .int 0), (0, .ref b), (1, .ref (ad 0 0)), (2, .ref (am 0)), (3, .ref o), (4, .int (nI i))]) hx hb dL_law_854 hl (by decide) rfl (fun ls hl => ?_)
    refine lv_aload_n hx hb dL_law_856 rfl (lv_at hl 4 rfl) ?_
    have pq := perm_b (cOut g o (vp_updL out 0 res.toInt64)) (cMo g am mo') (wBR g ad tx is wa st hi)
    refine aft_p (st1 := [.int (Mo_thrown mo')]) (ws' := wLaw g ad am o tx is wa st hi mo' (vp_updL out 0 res.toInt64)) rfl pq (perm_b (cOut g o (vp_updL out 0 res.toInt64)) (cMo g am mo') (wBR g ad tx is wa st hi)).symm (runV (As := []) (rest := []) ⟨hx, hb, hml, hown, hts⟩ (kX6_thrown l g am (res := Mo_thrown mo') rfl) (cwV 0 hts gL_law_X6_thrown rfl rfl rfl hdX6_thrown ⟨Nat.le_of_ble_eq_true rfl, Nat.le_of_ble_eq_true rfl⟩) hK hN (hP.perm pq).left (hD.perm pq).left (va_recv hK hP (ci := 6) (q0 := 1) rfl rfl) rfl hl.1 rfl (Nat.le_of_ble_eq_true rfl) dL_law_857 ⟨hro.1, hro.2⟩) hP hD hS hA (fun H locs hP hD hS => ?_)
    refine lv_iload hx hb dL_law_860 (lv_at hl 1 rfl) ?_
    refine lv_icmp_eq (tgt := 867) hx hb dL_law_862 (by decide) (fun _ => ?_) (fun c9 => absurd h7 c9)
    refine lv_iload hx hb dL_law_867 (lv_at hl 1 rfl) ?_
    refine lv_if_ne (tgt := 884) hx hb dL_law_869 (by decide) (fun c9 => absurd rfl c9) (fun _ => ?_)
    refine lv_aload_n hx hb dL_law_872 rfl (lv_at hl 5 rfl) ?_
    refine lv_iconst (v := 0) hx hb dL_law_873 (by decide) ?_
    refine va_lald hx hb hK hP 0 2 rfl rfl (inb_in (i := 0) (n := 1) (by decide)) dL_law_874 ?_
    refine lv_eql (z := res.toInt64) rfl ?_
    refine lv_iload hx hb dL_law_875 (lv_at hl 0 rfl) ?_
    refine lv_i2l (v := res.toInt64) hx hb dL_law_877 rfl ?_
    refine W.lcmp hx hb dL_law_878 ?_
    refine lv_if_eq (tgt := 884) hx hb dL_law_879 (by decide) (fun _ => ?_) (fun c9 => absurd (cmp_self _) c9)
    refine lv_goto (tgt := 1382) hx hb dL_law_884 (by decide) ?_
    exact next _ _ _ _ _ _ _ _ _ _ hJ' hP hD hS (lv_sub hl [2, 3, 4, 5, 6] rfl)
  · refine lv_aload_n hx hb dL_law_819 rfl (lv_at hl 1 rfl) ?_
    refine lv_aload_n hx hb dL_law_820 rfl (lv_at hl 0 rfl) ?_
    refine lv_iload hx hb dL_law_821 (lv_at hl 4 rfl) ?_
    refine lv_iconst (v := 1) hx hb dL_law_823 (by decide) ?_
    refine lv_iadd hx hb dL_law_824 ?_
    refine lv_eqi (z := nI (i + 1)) (nI_add i 1) ?_
    refine va_sld hx hb hXs hbl hbA hS (vp_in_nI (by omega) (by omega)) dL_law_825 ?_
    refine lv_aload_n hx hb dL_law_826 rfl (lv_at hl 0 rfl) ?_
    refine lv_iload hx hb dL_law_827 (lv_at hl 4 rfl) ?_
    refine lv_iconst (v := 2) hx hb dL_law_829 (by decide) ?_
    refine lv_iadd hx hb dL_law_830 ?_
    refine lv_eqi (z := nI (i + 2)) (nI_add i 2) ?_
    refine va_sld hx hb hXs hbl hbA hS (vp_in_nI (by omega) (by omega)) dL_law_831 ?_
    refine lv_aload_n hx hb dL_law_832 rfl (lv_at hl 3 rfl) ?_
    have pq := perm_a (cOut g o out) (cMo g am mo) (wBR g ad tx is wa st hi)
    refine aftm_p (st1 := [.int 1]) (ws' := wLaw g ad am o tx is wa st hi mo out) rfl pq (perm_a (cOut g o out) (cMo g am mo) (wBR g ad tx is wa st hi)).symm (runL (As := [.ref (ad 0 0), .int (xs (nI (i + 1)).toNatClampNeg), .int (xs (nI (i + 2)).toNatClampNeg), .ref o]) (rest := []) ⟨hx, hb, hml, hown, hts⟩ (wL_word_1 l hst g ad o (out := out) h5) (vx_cwSW 4 hts gL_law_L_word rfl rfl rfl hdL_word ⟨Nat.le_of_ble_eq_true rfl, Nat.le_of_ble_eq_true rfl⟩) hK hN hX hZ (hP.perm pq).left (hD.perm pq).left hS hA rfl hl.1 rfl (Nat.le_of_ble_eq_true rfl) dL_law_833 hro) hP hD hS hA (fun H locs hP hD hS => ?_)
    refine lv_istore (lv' := [(5, .int 1), (0, .ref b), (1, .ref (ad 0 0)), (2, .ref (am 0)), (3, .ref o), (4, .int (nI i))]) hx hb dL_law_836 hl (by decide) rfl (fun ls hl => ?_)
    refine lv_aload_n hx hb dL_law_838 rfl (lv_at hl 3 rfl) ?_
    refine lv_aload_n hx hb dL_law_839 rfl (lv_at hl 1 rfl) ?_
    refine lv_iload hx hb dL_law_840 (lv_at hl 5 rfl) ?_
    refine lv_iconst (v := 1) hx hb dL_law_842 (by decide) ?_
    refine lv_iadd hx hb dL_law_843 ?_
    refine lv_eqi (z := nI (i + 1)) (nI_add i 1) ?_
    refine va_sld hx hb hXs hbl hbA hS (vp_in_nI (by omega) (by omega)) dL_law_844 ?_
    refine lv_aload_n hx hb dL_law_845 rfl (lv_at hl 1 rfl) ?_
    refine lv_iload hx hb dL_law_846 (lv_at hl 5 rfl) ?_
    refine lv_iconst (v := 2) hx hb dL_law_848 (by decide) ?_
    refine lv_iadd hx hb dL_law_849 ?_
    refine lv_eqi (z := nI (i + 2)) (nI_add i 2) ?_
    refine va_sld hx hb hXs hbl hbA hS (vp_in_nI (by omega) (by omega)) dL_law_850 ?_
    have pq := perm_b (cOut g o out) (cMo g am mo) (wBR g ad tx is wa st hi)
    refine aft_p (st1 := [.int b9]) (ws' := wLaw g ad am o tx is wa st hi mo' out) rfl pq (perm_b (cOut g o out) (cMo g am mo') (wBR g ad tx is wa st hi)).symm (runV (As := [.int (xs (nI (i + 1)).toNatClampNeg), .int (xs (nI (i + 2)).toNatClampNeg)]) (rest := []) ⟨hx, hb, hml, hown, hts⟩ (kX6_word l g am h6) (cwV 2 hts gL_law_X6_word rfl rfl rfl hdX6_word ⟨Nat.le_of_ble_eq_true rfl, Nat.le_of_ble_eq_true rfl⟩) hK hN (hP.perm pq).left (hD.perm pq).left (va_recv hK hP (ci := 6) (q0 := 1) rfl rfl) rfl hl.1 rfl (Nat.le_of_ble_eq_true rfl) dL_law_851 ⟨hro.1, hro.2⟩) hP hD hS hA (fun H locs hP hD hS => ?_)
    refine lv_istore (lv' := [(6, .int b9), (5, .int 1), (0, .ref b), (1, .ref (ad 0 0)), (2, .ref (am 0)), (3, .ref o), (4, .int (nI i))]) hx hb dL_law_854 hl (by decide) rfl (fun ls hl => ?_)
    refine lv_aload_n hx hb dL_law_856 rfl (lv_at hl 4 rfl) ?_
    have pq := perm_b (cOut g o out) (cMo g am mo') (wBR g ad tx is wa st hi)
    refine aft_p (st1 := [.int (Mo_thrown mo')]) (ws' := wLaw g ad am o tx is wa st hi mo' out) rfl pq (perm_b (cOut g o out) (cMo g am mo') (wBR g ad tx is wa st hi)).symm (runV (As := []) (rest := []) ⟨hx, hb, hml, hown, hts⟩ (kX6_thrown l g am (res := Mo_thrown mo') rfl) (cwV 0 hts gL_law_X6_thrown rfl rfl rfl hdX6_thrown ⟨Nat.le_of_ble_eq_true rfl, Nat.le_of_ble_eq_true rfl⟩) hK hN (hP.perm pq).left (hD.perm pq).left (va_recv hK hP (ci := 6) (q0 := 1) rfl rfl) rfl hl.1 rfl (Nat.le_of_ble_eq_true rfl) dL_law_857 ⟨hro.1, hro.2⟩) hP hD hS hA (fun H locs hP hD hS => ?_)
    refine lv_iload hx hb dL_law_860 (lv_at hl 1 rfl) ?_
    refine lv_icmp_eq (tgt := 867) hx hb dL_law_862 (by decide) (fun _ => ?_) (fun c9 => absurd h7 c9)
    refine lv_iload hx hb dL_law_867 (lv_at hl 1 rfl) ?_
    refine lv_if_ne (tgt := 884) hx hb dL_law_869 (by decide) (fun _ => ?_) (fun c9 => absurd c9 (by decide))
    refine lv_goto (tgt := 1382) hx hb dL_law_884 (by decide) ?_
    exact next _ _ _ _ _ _ _ _ _ _ hJ' hP hD hS (lv_sub hl [2, 3, 4, 5, 6] rfl)
  · refine lv_aload_n hx hb dL_law_819 rfl (lv_at hl 1 rfl) ?_
    refine lv_aload_n hx hb dL_law_820 rfl (lv_at hl 0 rfl) ?_
    refine lv_iload hx hb dL_law_821 (lv_at hl 4 rfl) ?_
    refine lv_iconst (v := 1) hx hb dL_law_823 (by decide) ?_
    refine lv_iadd hx hb dL_law_824 ?_
    refine lv_eqi (z := nI (i + 1)) (nI_add i 1) ?_
    refine va_sld hx hb hXs hbl hbA hS (vp_in_nI (by omega) (by omega)) dL_law_825 ?_
    refine lv_aload_n hx hb dL_law_826 rfl (lv_at hl 0 rfl) ?_
    refine lv_iload hx hb dL_law_827 (lv_at hl 4 rfl) ?_
    refine lv_iconst (v := 2) hx hb dL_law_829 (by decide) ?_
    refine lv_iadd hx hb dL_law_830 ?_
    refine lv_eqi (z := nI (i + 2)) (nI_add i 2) ?_
    refine va_sld hx hb hXs hbl hbA hS (vp_in_nI (by omega) (by omega)) dL_law_831 ?_
    refine lv_aload_n hx hb dL_law_832 rfl (lv_at hl 3 rfl) ?_
    have pq := perm_a (cOut g o out) (cMo g am mo) (wBR g ad tx is wa st hi)
    refine aftm_p (st1 := [.int 2]) (ws' := wLaw g ad am o tx is wa st hi mo out) rfl pq (perm_a (cOut g o out) (cMo g am mo) (wBR g ad tx is wa st hi)).symm (runL (As := [.ref (ad 0 0), .int (xs (nI (i + 1)).toNatClampNeg), .int (xs (nI (i + 2)).toNatClampNeg), .ref o]) (rest := []) ⟨hx, hb, hml, hown, hts⟩ (wL_word_2 l hst g ad o (out := out) h5) (vx_cwSW 4 hts gL_law_L_word rfl rfl rfl hdL_word ⟨Nat.le_of_ble_eq_true rfl, Nat.le_of_ble_eq_true rfl⟩) hK hN hX hZ (hP.perm pq).left (hD.perm pq).left hS hA rfl hl.1 rfl (Nat.le_of_ble_eq_true rfl) dL_law_833 hro) hP hD hS hA (fun H locs hP hD hS => ?_)
    refine lv_istore (lv' := [(5, .int 2), (0, .ref b), (1, .ref (ad 0 0)), (2, .ref (am 0)), (3, .ref o), (4, .int (nI i))]) hx hb dL_law_836 hl (by decide) rfl (fun ls hl => ?_)
    refine lv_aload_n hx hb dL_law_838 rfl (lv_at hl 3 rfl) ?_
    refine lv_aload_n hx hb dL_law_839 rfl (lv_at hl 1 rfl) ?_
    refine lv_iload hx hb dL_law_840 (lv_at hl 5 rfl) ?_
    refine lv_iconst (v := 1) hx hb dL_law_842 (by decide) ?_
    refine lv_iadd hx hb dL_law_843 ?_
    refine lv_eqi (z := nI (i + 1)) (nI_add i 1) ?_
    refine va_sld hx hb hXs hbl hbA hS (vp_in_nI (by omega) (by omega)) dL_law_844 ?_
    refine lv_aload_n hx hb dL_law_845 rfl (lv_at hl 1 rfl) ?_
    refine lv_iload hx hb dL_law_846 (lv_at hl 5 rfl) ?_
    refine lv_iconst (v := 2) hx hb dL_law_848 (by decide) ?_
    refine lv_iadd hx hb dL_law_849 ?_
    refine lv_eqi (z := nI (i + 2)) (nI_add i 2) ?_
    refine va_sld hx hb hXs hbl hbA hS (vp_in_nI (by omega) (by omega)) dL_law_850 ?_
    have pq := perm_b (cOut g o out) (cMo g am mo) (wBR g ad tx is wa st hi)
    refine aft_p (st1 := [.int b9]) (ws' := wLaw g ad am o tx is wa st hi mo' out) rfl pq (perm_b (cOut g o out) (cMo g am mo') (wBR g ad tx is wa st hi)).symm (runV (As := [.int (xs (nI (i + 1)).toNatClampNeg), .int (xs (nI (i + 2)).toNatClampNeg)]) (rest := []) ⟨hx, hb, hml, hown, hts⟩ (kX6_word l g am h6) (cwV 2 hts gL_law_X6_word rfl rfl rfl hdX6_word ⟨Nat.le_of_ble_eq_true rfl, Nat.le_of_ble_eq_true rfl⟩) hK hN (hP.perm pq).left (hD.perm pq).left (va_recv hK hP (ci := 6) (q0 := 1) rfl rfl) rfl hl.1 rfl (Nat.le_of_ble_eq_true rfl) dL_law_851 ⟨hro.1, hro.2⟩) hP hD hS hA (fun H locs hP hD hS => ?_)
    refine lv_istore (lv' := [(6, .int b9), (5, .int 2), (0, .ref b), (1, .ref (ad 0 0)), (2, .ref (am 0)), (3, .ref o), (4, .int (nI i))]) hx hb dL_law_854 hl (by decide) rfl (fun ls hl => ?_)
    refine lv_aload_n hx hb dL_law_856 rfl (lv_at hl 4 rfl) ?_
    have pq := perm_b (cOut g o out) (cMo g am mo') (wBR g ad tx is wa st hi)
    refine aft_p (st1 := [.int (Mo_thrown mo')]) (ws' := wLaw g ad am o tx is wa st hi mo' out) rfl pq (perm_b (cOut g o out) (cMo g am mo') (wBR g ad tx is wa st hi)).symm (runV (As := []) (rest := []) ⟨hx, hb, hml, hown, hts⟩ (kX6_thrown l g am (res := Mo_thrown mo') rfl) (cwV 0 hts gL_law_X6_thrown rfl rfl rfl hdX6_thrown ⟨Nat.le_of_ble_eq_true rfl, Nat.le_of_ble_eq_true rfl⟩) hK hN (hP.perm pq).left (hD.perm pq).left (va_recv hK hP (ci := 6) (q0 := 1) rfl rfl) rfl hl.1 rfl (Nat.le_of_ble_eq_true rfl) dL_law_857 ⟨hro.1, hro.2⟩) hP hD hS hA (fun H locs hP hD hS => ?_)
    refine lv_iload hx hb dL_law_860 (lv_at hl 1 rfl) ?_
    refine lv_icmp_eq (tgt := 867) hx hb dL_law_862 (by decide) (fun _ => ?_) (fun c9 => absurd h7 c9)
    refine lv_iload hx hb dL_law_867 (lv_at hl 1 rfl) ?_
    refine lv_if_ne (tgt := 884) hx hb dL_law_869 (by decide) (fun _ => ?_) (fun c9 => absurd c9 (by decide))
    refine lv_goto (tgt := 1382) hx hb dL_law_884 (by decide) ?_
    exact next _ _ _ _ _ _ _ _ _ _ hJ' hP hD hS (lv_sub hl [2, 3, 4, 5, 6] rfl)
set_option maxRecDepth 100000 in
set_option maxHeartbeats 8000000 in
theorem law_climber {p : Program} {l : Launch} {e : Env} {s : State} {m : MethodId} {args : Array Value} {below : List Frame} {meth : Method} {c : Code} {b L : Nat} {xs : Nat → Int32} {g : GG} {A : Nat → Prop} {Q : State → Prop} (hst : l.stackTraces = false) (LC : LCx p s m args c b L xs g A) {J : Nat → Tx → Is → Wa → St → Hi → Mo → Prop} (ad : Nat → Nat → Nat) (am : Nat → Nat) (o i j : Nat) {tx : Tx} {is : Is} {wa : Wa} {st : St} {hi : Hi} {mo : Mo} {out : Nat → Int64} {H : Heap} {locs : List Loc} {ls : Array Slot} (cells slots : Nat) (hL : L ≤ 2048) (hiL : i + 4 ≤ L) (hj : j < 512) (hro : cells + 1 ≤ 607796 ∧ slots + 6 ≤ 7272716) (hJ : J j tx is wa st hi mo) (hP : va_P g.1 vwCl (wLaw g ad am o tx is wa st hi mo out) H) (hD : va_D A (wLaw g ad am o tx is wa st hi mo out)) (hS : va_S A s.heap H locs) (hl : lv_has ls 9 [(0, .ref b), (1, .ref (ad 0 0)), (2, .ref (am 0)), (3, .ref o), (4, .int (nI i))]) (hop : Op_climber J) (next : ∀ (tx : Tx) (is : Is) (wa : Wa) (st : St) (hi : Hi) (mo : Mo) (out : Nat → Int64) (H : Heap) (locs : List Loc) (ls : Array Slot), J (j + 1) tx is wa st hi mo → va_P g.1 vwCl (wLaw g ad am o tx is wa st hi mo out) H → va_D A (wLaw g ad am o tx is wa st hi mo out) → va_S A s.heap H locs → lv_has ls 9 [(0, .ref b), (1, .ref (ad 0 0)), (2, .ref (am 0)), (3, .ref o), (4, .int (nI i))] → W p l e room_1 s m args below meth c H locs (cells + 1) (slots + 6) Q (F0 m 1382 ls [])) : W p l e room_1 s m args below meth c H locs cells slots Q (F0 m 887 ls []) := by
  obtain ⟨hx, hb, hml, hown, hts, hK, hN, hX, hA, hXs, hbl, hbA, hZ⟩ := LC
  rcases hop j tx is wa st hi mo (xs (nI (i + 1)).toNatClampNeg) (xs (nI (i + 2)).toNatClampNeg) hj hJ with ⟨res, wa', mo', h5, h6, h7, hJ'⟩ | ⟨b9, mo', h5, h6, h7, hJ'⟩ | ⟨b9, mo', h5, h6, h7, hJ'⟩
  · refine lv_aload_n hx hb dL_law_887 rfl (lv_at hl 1 rfl) ?_
    refine lv_aload_n hx hb dL_law_888 rfl (lv_at hl 0 rfl) ?_
    refine lv_iload hx hb dL_law_889 (lv_at hl 4 rfl) ?_
    refine lv_iconst (v := 1) hx hb dL_law_891 (by decide) ?_
    refine lv_iadd hx hb dL_law_892 ?_
    refine lv_eqi (z := nI (i + 1)) (nI_add i 1) ?_
    refine va_sld hx hb hXs hbl hbA hS (vp_in_nI (by omega) (by omega)) dL_law_893 ?_
    refine lv_aload_n hx hb dL_law_894 rfl (lv_at hl 0 rfl) ?_
    refine lv_iload hx hb dL_law_895 (lv_at hl 4 rfl) ?_
    refine lv_iconst (v := 2) hx hb dL_law_897 (by decide) ?_
    refine lv_iadd hx hb dL_law_898 ?_
    refine lv_eqi (z := nI (i + 2)) (nI_add i 2) ?_
    refine va_sld hx hb hXs hbl hbA hS (vp_in_nI (by omega) (by omega)) dL_law_899 ?_
    refine lv_aload_n hx hb dL_law_900 rfl (lv_at hl 3 rfl) ?_
    have pq := perm_a (cOut g o out) (cMo g am mo) (wBR g ad tx is wa st hi)
    refine aftm_p (st1 := [.int 0]) (ws' := wLaw g ad am o tx is wa' st hi mo (vp_updL out 0 res.toInt64)) rfl pq (perm_a (cOut g o (vp_updL out 0 res.toInt64)) (cMo g am mo) (wBR g ad tx is wa' st hi)).symm (runL (As := [.ref (ad 0 0), .int (xs (nI (i + 1)).toNatClampNeg), .int (xs (nI (i + 2)).toNatClampNeg), .ref o]) (rest := []) ⟨hx, hb, hml, hown, hts⟩ (wL_climber l hst g ad o (out := out) h5) (vx_cwSW 4 hts gL_law_L_climber rfl rfl rfl hdL_climber ⟨Nat.le_of_ble_eq_true rfl, Nat.le_of_ble_eq_true rfl⟩) hK hN hX hZ (hP.perm pq).left (hD.perm pq).left hS hA rfl hl.1 rfl (Nat.le_of_ble_eq_true rfl) dL_law_901 hro) hP hD hS hA (fun H locs hP hD hS => ?_)
    refine lv_istore (lv' := [(5, .int 0), (0, .ref b), (1, .ref (ad 0 0)), (2, .ref (am 0)), (3, .ref o), (4, .int (nI i))]) hx hb dL_law_904 hl (by decide) rfl (fun ls hl => ?_)
    refine lv_aload_n hx hb dL_law_906 rfl (lv_at hl 3 rfl) ?_
    refine lv_aload_n hx hb dL_law_907 rfl (lv_at hl 1 rfl) ?_
    refine lv_iload hx hb dL_law_908 (lv_at hl 5 rfl) ?_
    refine lv_iconst (v := 1) hx hb dL_law_910 (by decide) ?_
    refine lv_iadd hx hb dL_law_911 ?_
    refine lv_eqi (z := nI (i + 1)) (nI_add i 1) ?_
    refine va_sld hx hb hXs hbl hbA hS (vp_in_nI (by omega) (by omega)) dL_law_912 ?_
    refine lv_aload_n hx hb dL_law_913 rfl (lv_at hl 1 rfl) ?_
    refine lv_iload hx hb dL_law_914 (lv_at hl 5 rfl) ?_
    refine lv_iconst (v := 2) hx hb dL_law_916 (by decide) ?_
    refine lv_iadd hx hb dL_law_917 ?_
    refine lv_eqi (z := nI (i + 2)) (nI_add i 2) ?_
    refine va_sld hx hb hXs hbl hbA hS (vp_in_nI (by omega) (by omega)) dL_law_918 ?_
    have pq := perm_b (cOut g o (vp_updL out 0 res.toInt64)) (cMo g am mo) (wBR g ad tx is wa' st hi)
    refine aft_p (st1 := [.int res]) (ws' := wLaw g ad am o tx is wa' st hi mo' (vp_updL out 0 res.toInt64)) rfl pq (perm_b (cOut g o (vp_updL out 0 res.toInt64)) (cMo g am mo') (wBR g ad tx is wa' st hi)).symm (runV (As := [.int (xs (nI (i + 1)).toNatClampNeg), .int (xs (nI (i + 2)).toNatClampNeg)]) (rest := []) ⟨hx, hb, hml, hown, hts⟩ (kX6_climber l g am h6) (cwV 2 hts gL_law_X6_climber rfl rfl rfl hdX6_climber ⟨Nat.le_of_ble_eq_true rfl, Nat.le_of_ble_eq_true rfl⟩) hK hN (hP.perm pq).left (hD.perm pq).left (va_recv hK hP (ci := 6) (q0 := 1) rfl rfl) rfl hl.1 rfl (Nat.le_of_ble_eq_true rfl) dL_law_919 ⟨hro.1, hro.2⟩) hP hD hS hA (fun H locs hP hD hS => ?_)
    refine lv_istore (lv' := [(6, .int res), (5, .int 0), (0, .ref b), (1, .ref (ad 0 0)), (2, .ref (am 0)), (3, .ref o), (4, .int (nI i))]) hx hb dL_law_922 hl (by decide) rfl (fun ls hl => ?_)
    refine lv_aload_n hx hb dL_law_924 rfl (lv_at hl 4 rfl) ?_
    have pq := perm_b (cOut g o (vp_updL out 0 res.toInt64)) (cMo g am mo') (wBR g ad tx is wa' st hi)
    refine aft_p (st1 := [.int (Mo_thrown mo')]) (ws' := wLaw g ad am o tx is wa' st hi mo' (vp_updL out 0 res.toInt64)) rfl pq (perm_b (cOut g o (vp_updL out 0 res.toInt64)) (cMo g am mo') (wBR g ad tx is wa' st hi)).symm (runV (As := []) (rest := []) ⟨hx, hb, hml, hown, hts⟩ (kX6_thrown l g am (res := Mo_thrown mo') rfl) (cwV 0 hts gL_law_X6_thrown rfl rfl rfl hdX6_thrown ⟨Nat.le_of_ble_eq_true rfl, Nat.le_of_ble_eq_true rfl⟩) hK hN (hP.perm pq).left (hD.perm pq).left (va_recv hK hP (ci := 6) (q0 := 1) rfl rfl) rfl hl.1 rfl (Nat.le_of_ble_eq_true rfl) dL_law_925 ⟨hro.1, hro.2⟩) hP hD hS hA (fun H locs hP hD hS => ?_)
    refine lv_iload hx hb dL_law_928 (lv_at hl 1 rfl) ?_
    refine lv_icmp_eq (tgt := 935) hx hb dL_law_930 (by decide) (fun _ => ?_) (fun c9 => absurd h7 c9)
    refine lv_iload hx hb dL_law_935 (lv_at hl 1 rfl) ?_
    refine lv_if_ne (tgt := 952) hx hb dL_law_937 (by decide) (fun c9 => absurd rfl c9) (fun _ => ?_)
    refine lv_aload_n hx hb dL_law_940 rfl (lv_at hl 5 rfl) ?_
    refine lv_iconst (v := 0) hx hb dL_law_941 (by decide) ?_
    refine va_lald hx hb hK hP 0 2 rfl rfl (inb_in (i := 0) (n := 1) (by decide)) dL_law_942 ?_
    refine lv_eql (z := res.toInt64) rfl ?_
    refine lv_iload hx hb dL_law_943 (lv_at hl 0 rfl) ?_
    refine lv_i2l (v := res.toInt64) hx hb dL_law_945 rfl ?_
    refine W.lcmp hx hb dL_law_946 ?_
    refine lv_if_eq (tgt := 952) hx hb dL_law_947 (by decide) (fun _ => ?_) (fun c9 => absurd (cmp_self _) c9)
    refine lv_goto (tgt := 1382) hx hb dL_law_952 (by decide) ?_
    exact next _ _ _ _ _ _ _ _ _ _ hJ' hP hD hS (lv_sub hl [2, 3, 4, 5, 6] rfl)
  · refine lv_aload_n hx hb dL_law_887 rfl (lv_at hl 1 rfl) ?_
    refine lv_aload_n hx hb dL_law_888 rfl (lv_at hl 0 rfl) ?_
    refine lv_iload hx hb dL_law_889 (lv_at hl 4 rfl) ?_
    refine lv_iconst (v := 1) hx hb dL_law_891 (by decide) ?_
    refine lv_iadd hx hb dL_law_892 ?_
    refine lv_eqi (z := nI (i + 1)) (nI_add i 1) ?_
    refine va_sld hx hb hXs hbl hbA hS (vp_in_nI (by omega) (by omega)) dL_law_893 ?_
    refine lv_aload_n hx hb dL_law_894 rfl (lv_at hl 0 rfl) ?_
    refine lv_iload hx hb dL_law_895 (lv_at hl 4 rfl) ?_
    refine lv_iconst (v := 2) hx hb dL_law_897 (by decide) ?_
    refine lv_iadd hx hb dL_law_898 ?_
    refine lv_eqi (z := nI (i + 2)) (nI_add i 2) ?_
    refine va_sld hx hb hXs hbl hbA hS (vp_in_nI (by omega) (by omega)) dL_law_899 ?_
    refine lv_aload_n hx hb dL_law_900 rfl (lv_at hl 3 rfl) ?_
    have pq := perm_a (cOut g o out) (cMo g am mo) (wBR g ad tx is wa st hi)
    refine aftm_p (st1 := [.int 1]) (ws' := wLaw g ad am o tx is wa st hi mo out) rfl pq (perm_a (cOut g o out) (cMo g am mo) (wBR g ad tx is wa st hi)).symm (runL (As := [.ref (ad 0 0), .int (xs (nI (i + 1)).toNatClampNeg), .int (xs (nI (i + 2)).toNatClampNeg), .ref o]) (rest := []) ⟨hx, hb, hml, hown, hts⟩ (wL_climber_1 l hst g ad o (out := out) h5) (vx_cwSW 4 hts gL_law_L_climber rfl rfl rfl hdL_climber ⟨Nat.le_of_ble_eq_true rfl, Nat.le_of_ble_eq_true rfl⟩) hK hN hX hZ (hP.perm pq).left (hD.perm pq).left hS hA rfl hl.1 rfl (Nat.le_of_ble_eq_true rfl) dL_law_901 hro) hP hD hS hA (fun H locs hP hD hS => ?_)
    refine lv_istore (lv' := [(5, .int 1), (0, .ref b), (1, .ref (ad 0 0)), (2, .ref (am 0)), (3, .ref o), (4, .int (nI i))]) hx hb dL_law_904 hl (by decide) rfl (fun ls hl => ?_)
    refine lv_aload_n hx hb dL_law_906 rfl (lv_at hl 3 rfl) ?_
    refine lv_aload_n hx hb dL_law_907 rfl (lv_at hl 1 rfl) ?_
    refine lv_iload hx hb dL_law_908 (lv_at hl 5 rfl) ?_
    refine lv_iconst (v := 1) hx hb dL_law_910 (by decide) ?_
    refine lv_iadd hx hb dL_law_911 ?_
    refine lv_eqi (z := nI (i + 1)) (nI_add i 1) ?_
    refine va_sld hx hb hXs hbl hbA hS (vp_in_nI (by omega) (by omega)) dL_law_912 ?_
    refine lv_aload_n hx hb dL_law_913 rfl (lv_at hl 1 rfl) ?_
    refine lv_iload hx hb dL_law_914 (lv_at hl 5 rfl) ?_
    refine lv_iconst (v := 2) hx hb dL_law_916 (by decide) ?_
    refine lv_iadd hx hb dL_law_917 ?_
    refine lv_eqi (z := nI (i + 2)) (nI_add i 2) ?_
    refine va_sld hx hb hXs hbl hbA hS (vp_in_nI (by omega) (by omega)) dL_law_918 ?_
    have pq := perm_b (cOut g o out) (cMo g am mo) (wBR g ad tx is wa st hi)
    refine aft_p (st1 := [.int b9]) (ws' := wLaw g ad am o tx is wa st hi mo' out) rfl pq (perm_b (cOut g o out) (cMo g am mo') (wBR g ad tx is wa st hi)).symm (runV (As := [.int (xs (nI (i + 1)).toNatClampNeg), .int (xs (nI (i + 2)).toNatClampNeg)]) (rest := []) ⟨hx, hb, hml, hown, hts⟩ (kX6_climber l g am h6) (cwV 2 hts gL_law_X6_climber rfl rfl rfl hdX6_climber ⟨Nat.le_of_ble_eq_true rfl, Nat.le_of_ble_eq_true rfl⟩) hK hN (hP.perm pq).left (hD.perm pq).left (va_recv hK hP (ci := 6) (q0 := 1) rfl rfl) rfl hl.1 rfl (Nat.le_of_ble_eq_true rfl) dL_law_919 ⟨hro.1, hro.2⟩) hP hD hS hA (fun H locs hP hD hS => ?_)
    refine lv_istore (lv' := [(6, .int b9), (5, .int 1), (0, .ref b), (1, .ref (ad 0 0)), (2, .ref (am 0)), (3, .ref o), (4, .int (nI i))]) hx hb dL_law_922 hl (by decide) rfl (fun ls hl => ?_)
    refine lv_aload_n hx hb dL_law_924 rfl (lv_at hl 4 rfl) ?_
    have pq := perm_b (cOut g o out) (cMo g am mo') (wBR g ad tx is wa st hi)
    refine aft_p (st1 := [.int (Mo_thrown mo')]) (ws' := wLaw g ad am o tx is wa st hi mo' out) rfl pq (perm_b (cOut g o out) (cMo g am mo') (wBR g ad tx is wa st hi)).symm (runV (As := []) (rest := []) ⟨hx, hb, hml, hown, hts⟩ (kX6_thrown l g am (res := Mo_thrown mo') rfl) (cwV 0 hts gL_law_X6_thrown rfl rfl rfl hdX6_thrown ⟨Nat.le_of_ble_eq_true rfl, Nat.le_of_ble_eq_true rfl⟩) hK hN (hP.perm pq).left (hD.perm pq).left (va_recv hK hP (ci := 6) (q0 := 1) rfl rfl) rfl hl.1 rfl (Nat.le_of_ble_eq_true rfl) dL_law_925 ⟨hro.1, hro.2⟩) hP hD hS hA (fun H locs hP hD hS => ?_)
    refine lv_iload hx hb dL_law_928 (lv_at hl 1 rfl) ?_
    refine lv_icmp_eq (tgt := 935) hx hb dL_law_930 (by decide) (fun _ => ?_) (fun c9 => absurd h7 c9)
    refine lv_iload hx hb dL_law_935 (lv_at hl 1 rfl) ?_
    refine lv_if_ne (tgt := 952) hx hb dL_law_937 (by decide) (fun _ => ?_) (fun c9 => absurd c9 (by decide))
    refine lv_goto (tgt := 1382) hx hb dL_law_952 (by decide) ?_
    exact next _ _ _ _ _ _ _ _ _ _ hJ' hP hD hS (lv_sub hl [2, 3, 4, 5, 6] rfl)
  · refine lv_aload_n hx hb dL_law_887 rfl (lv_at hl 1 rfl) ?_
    refine lv_aload_n hx hb dL_law_888 rfl (lv_at hl 0 rfl) ?_
    refine lv_iload hx hb dL_law_889 (lv_at hl 4 rfl) ?_
    refine lv_iconst (v := 1) hx hb dL_law_891 (by decide) ?_
    refine lv_iadd hx hb dL_law_892 ?_
    refine lv_eqi (z := nI (i + 1)) (nI_add i 1) ?_
    refine va_sld hx hb hXs hbl hbA hS (vp_in_nI (by omega) (by omega)) dL_law_893 ?_
    refine lv_aload_n hx hb dL_law_894 rfl (lv_at hl 0 rfl) ?_
    refine lv_iload hx hb dL_law_895 (lv_at hl 4 rfl) ?_
    refine lv_iconst (v := 2) hx hb dL_law_897 (by decide) ?_
    refine lv_iadd hx hb dL_law_898 ?_
    refine lv_eqi (z := nI (i + 2)) (nI_add i 2) ?_
    refine va_sld hx hb hXs hbl hbA hS (vp_in_nI (by omega) (by omega)) dL_law_899 ?_
    refine lv_aload_n hx hb dL_law_900 rfl (lv_at hl 3 rfl) ?_
    have pq := perm_a (cOut g o out) (cMo g am mo) (wBR g ad tx is wa st hi)
    refine aftm_p (st1 := [.int 2]) (ws' := wLaw g ad am o tx is wa st hi mo out) rfl pq (perm_a (cOut g o out) (cMo g am mo) (wBR g ad tx is wa st hi)).symm (runL (As := [.ref (ad 0 0), .int (xs (nI (i + 1)).toNatClampNeg), .int (xs (nI (i + 2)).toNatClampNeg), .ref o]) (rest := []) ⟨hx, hb, hml, hown, hts⟩ (wL_climber_2 l hst g ad o (out := out) h5) (vx_cwSW 4 hts gL_law_L_climber rfl rfl rfl hdL_climber ⟨Nat.le_of_ble_eq_true rfl, Nat.le_of_ble_eq_true rfl⟩) hK hN hX hZ (hP.perm pq).left (hD.perm pq).left hS hA rfl hl.1 rfl (Nat.le_of_ble_eq_true rfl) dL_law_901 hro) hP hD hS hA (fun H locs hP hD hS => ?_)
    refine lv_istore (lv' := [(5, .int 2), (0, .ref b), (1, .ref (ad 0 0)), (2, .ref (am 0)), (3, .ref o), (4, .int (nI i))]) hx hb dL_law_904 hl (by decide) rfl (fun ls hl => ?_)
    refine lv_aload_n hx hb dL_law_906 rfl (lv_at hl 3 rfl) ?_
    refine lv_aload_n hx hb dL_law_907 rfl (lv_at hl 1 rfl) ?_
    refine lv_iload hx hb dL_law_908 (lv_at hl 5 rfl) ?_
    refine lv_iconst (v := 1) hx hb dL_law_910 (by decide) ?_
    refine lv_iadd hx hb dL_law_911 ?_
    refine lv_eqi (z := nI (i + 1)) (nI_add i 1) ?_
    refine va_sld hx hb hXs hbl hbA hS (vp_in_nI (by omega) (by omega)) dL_law_912 ?_
    refine lv_aload_n hx hb dL_law_913 rfl (lv_at hl 1 rfl) ?_
    refine lv_iload hx hb dL_law_914 (lv_at hl 5 rfl) ?_
    refine lv_iconst (v := 2) hx hb dL_law_916 (by decide) ?_
    refine lv_iadd hx hb dL_law_917 ?_
    refine lv_eqi (z := nI (i + 2)) (nI_add i 2) ?_
    refine va_sld hx hb hXs hbl hbA hS (vp_in_nI (by omega) (by omega)) dL_law_918 ?_
    have pq := perm_b (cOut g o out) (cMo g am mo) (wBR g ad tx is wa st hi)
    refine aft_p (st1 := [.int b9]) (ws' := wLaw g ad am o tx is wa st hi mo' out) rfl pq (perm_b (cOut g o out) (cMo g am mo') (wBR g ad tx is wa st hi)).symm (runV (As := [.int (xs (nI (i + 1)).toNatClampNeg), .int (xs (nI (i + 2)).toNatClampNeg)]) (rest := []) ⟨hx, hb, hml, hown, hts⟩ (kX6_climber l g am h6) (cwV 2 hts gL_law_X6_climber rfl rfl rfl hdX6_climber ⟨Nat.le_of_ble_eq_true rfl, Nat.le_of_ble_eq_true rfl⟩) hK hN (hP.perm pq).left (hD.perm pq).left (va_recv hK hP (ci := 6) (q0 := 1) rfl rfl) rfl hl.1 rfl (Nat.le_of_ble_eq_true rfl) dL_law_919 ⟨hro.1, hro.2⟩) hP hD hS hA (fun H locs hP hD hS => ?_)
    refine lv_istore (lv' := [(6, .int b9), (5, .int 2), (0, .ref b), (1, .ref (ad 0 0)), (2, .ref (am 0)), (3, .ref o), (4, .int (nI i))]) hx hb dL_law_922 hl (by decide) rfl (fun ls hl => ?_)
    refine lv_aload_n hx hb dL_law_924 rfl (lv_at hl 4 rfl) ?_
    have pq := perm_b (cOut g o out) (cMo g am mo') (wBR g ad tx is wa st hi)
    refine aft_p (st1 := [.int (Mo_thrown mo')]) (ws' := wLaw g ad am o tx is wa st hi mo' out) rfl pq (perm_b (cOut g o out) (cMo g am mo') (wBR g ad tx is wa st hi)).symm (runV (As := []) (rest := []) ⟨hx, hb, hml, hown, hts⟩ (kX6_thrown l g am (res := Mo_thrown mo') rfl) (cwV 0 hts gL_law_X6_thrown rfl rfl rfl hdX6_thrown ⟨Nat.le_of_ble_eq_true rfl, Nat.le_of_ble_eq_true rfl⟩) hK hN (hP.perm pq).left (hD.perm pq).left (va_recv hK hP (ci := 6) (q0 := 1) rfl rfl) rfl hl.1 rfl (Nat.le_of_ble_eq_true rfl) dL_law_925 ⟨hro.1, hro.2⟩) hP hD hS hA (fun H locs hP hD hS => ?_)
    refine lv_iload hx hb dL_law_928 (lv_at hl 1 rfl) ?_
    refine lv_icmp_eq (tgt := 935) hx hb dL_law_930 (by decide) (fun _ => ?_) (fun c9 => absurd h7 c9)
    refine lv_iload hx hb dL_law_935 (lv_at hl 1 rfl) ?_
    refine lv_if_ne (tgt := 952) hx hb dL_law_937 (by decide) (fun _ => ?_) (fun c9 => absurd c9 (by decide))
    refine lv_goto (tgt := 1382) hx hb dL_law_952 (by decide) ?_
    exact next _ _ _ _ _ _ _ _ _ _ hJ' hP hD hS (lv_sub hl [2, 3, 4, 5, 6] rfl)
set_option maxRecDepth 100000 in
set_option maxHeartbeats 8000000 in
theorem law_count {p : Program} {l : Launch} {e : Env} {s : State} {m : MethodId} {args : Array Value} {below : List Frame} {meth : Method} {c : Code} {b L : Nat} {xs : Nat → Int32} {g : GG} {A : Nat → Prop} {Q : State → Prop} (hst : l.stackTraces = false) (LC : LCx p s m args c b L xs g A) {J : Nat → Tx → Is → Wa → St → Hi → Mo → Prop} (ad : Nat → Nat → Nat) (am : Nat → Nat) (o i j : Nat) {tx : Tx} {is : Is} {wa : Wa} {st : St} {hi : Hi} {mo : Mo} {out : Nat → Int64} {H : Heap} {locs : List Loc} {ls : Array Slot} (cells slots : Nat) (hL : L ≤ 2048) (hiL : i + 4 ≤ L) (hj : j < 512) (hro : cells + 1 ≤ 607796 ∧ slots + 6 ≤ 7272716) (hJ : J j tx is wa st hi mo) (hP : va_P g.1 vwCl (wLaw g ad am o tx is wa st hi mo out) H) (hD : va_D A (wLaw g ad am o tx is wa st hi mo out)) (hS : va_S A s.heap H locs) (hl : lv_has ls 9 [(0, .ref b), (1, .ref (ad 0 0)), (2, .ref (am 0)), (3, .ref o), (4, .int (nI i))]) (hop : Op_count J) (next : ∀ (tx : Tx) (is : Is) (wa : Wa) (st : St) (hi : Hi) (mo : Mo) (out : Nat → Int64) (H : Heap) (locs : List Loc) (ls : Array Slot), J (j + 1) tx is wa st hi mo → va_P g.1 vwCl (wLaw g ad am o tx is wa st hi mo out) H → va_D A (wLaw g ad am o tx is wa st hi mo out) → va_S A s.heap H locs → lv_has ls 9 [(0, .ref b), (1, .ref (ad 0 0)), (2, .ref (am 0)), (3, .ref o), (4, .int (nI i))] → W p l e room_1 s m args below meth c H locs (cells + 1) (slots + 6) Q (F0 m 1382 ls [])) : W p l e room_1 s m args below meth c H locs cells slots Q (F0 m 955 ls []) := by
  obtain ⟨hx, hb, hml, hown, hts, hK, hN, hX, hA, hXs, hbl, hbA, hZ⟩ := LC
  rcases hop j tx is wa st hi mo (xs (nI (i + 1)).toNatClampNeg) hj hJ with ⟨res, is', mo', h5, h6, h7, hJ'⟩ | ⟨b9, mo', h5, h6, h7, hJ'⟩
  · refine lv_aload_n hx hb dL_law_955 rfl (lv_at hl 1 rfl) ?_
    refine lv_aload_n hx hb dL_law_956 rfl (lv_at hl 0 rfl) ?_
    refine lv_iload hx hb dL_law_957 (lv_at hl 4 rfl) ?_
    refine lv_iconst (v := 1) hx hb dL_law_959 (by decide) ?_
    refine lv_iadd hx hb dL_law_960 ?_
    refine lv_eqi (z := nI (i + 1)) (nI_add i 1) ?_
    refine va_sld hx hb hXs hbl hbA hS (vp_in_nI (by omega) (by omega)) dL_law_961 ?_
    refine lv_aload_n hx hb dL_law_962 rfl (lv_at hl 3 rfl) ?_
    have pq := perm_a (cOut g o out) (cMo g am mo) (wBR g ad tx is wa st hi)
    refine aftm_p (st1 := [.int 0]) (ws' := wLaw g ad am o tx is' wa st hi mo (vp_updL out 0 res.toInt64)) rfl pq (perm_a (cOut g o (vp_updL out 0 res.toInt64)) (cMo g am mo) (wBR g ad tx is' wa st hi)).symm (runL (As := [.ref (ad 0 0), .int (xs (nI (i + 1)).toNatClampNeg), .ref o]) (rest := []) ⟨hx, hb, hml, hown, hts⟩ (wL_count l hst g ad o (out := out) h5) (vx_cwSW 3 hts gL_law_L_count rfl rfl rfl hdL_count ⟨Nat.le_of_ble_eq_true rfl, Nat.le_of_ble_eq_true rfl⟩) hK hN hX hZ (hP.perm pq).left (hD.perm pq).left hS hA rfl hl.1 rfl (Nat.le_of_ble_eq_true rfl) dL_law_963 hro) hP hD hS hA (fun H locs hP hD hS => ?_)
    refine lv_istore (lv' := [(5, .int 0), (0, .ref b), (1, .ref (ad 0 0)), (2, .ref (am 0)), (3, .ref o), (4, .int (nI i))]) hx hb dL_law_966 hl (by decide) rfl (fun ls hl => ?_)
    refine lv_aload_n hx hb dL_law_968 rfl (lv_at hl 3 rfl) ?_
    refine lv_aload_n hx hb dL_law_969 rfl (lv_at hl 1 rfl) ?_
    refine lv_iload hx hb dL_law_970 (lv_at hl 5 rfl) ?_
    refine lv_iconst (v := 1) hx hb dL_law_972 (by decide) ?_
    refine lv_iadd hx hb dL_law_973 ?_
    refine lv_eqi (z := nI (i + 1)) (nI_add i 1) ?_
    refine va_sld hx hb hXs hbl hbA hS (vp_in_nI (by omega) (by omega)) dL_law_974 ?_
    have pq := perm_b (cOut g o (vp_updL out 0 res.toInt64)) (cMo g am mo) (wBR g ad tx is' wa st hi)
    refine aft_p (st1 := [.int res]) (ws' := wLaw g ad am o tx is' wa st hi mo' (vp_updL out 0 res.toInt64)) rfl pq (perm_b (cOut g o (vp_updL out 0 res.toInt64)) (cMo g am mo') (wBR g ad tx is' wa st hi)).symm (runV (As := [.int (xs (nI (i + 1)).toNatClampNeg)]) (rest := []) ⟨hx, hb, hml, hown, hts⟩ (kX6_count l g am h6) (cwV 1 hts gL_law_X6_count rfl rfl rfl hdX6_count ⟨Nat.le_of_ble_eq_true rfl, Nat.le_of_ble_eq_true rfl⟩) hK hN (hP.perm pq).left (hD.perm pq).left (va_recv hK hP (ci := 6) (q0 := 1) rfl rfl) rfl hl.1 rfl (Nat.le_of_ble_eq_true rfl) dL_law_975 ⟨hro.1, hro.2⟩) hP hD hS hA (fun H locs hP hD hS => ?_)
    refine lv_istore (lv' := [(6, .int res), (5, .int 0), (0, .ref b), (1, .ref (ad 0 0)), (2, .ref (am 0)), (3, .ref o), (4, .int (nI i))]) hx hb dL_law_978 hl (by decide) rfl (fun ls hl => ?_)
    refine lv_aload_n hx hb dL_law_980 rfl (lv_at hl 4 rfl) ?_
    have pq := perm_b (cOut g o (vp_updL out 0 res.toInt64)) (cMo g am mo') (wBR g ad tx is' wa st hi)
    refine aft_p (st1 := [.int (Mo_thrown mo')]) (ws' := wLaw g ad am o tx is' wa st hi mo' (vp_updL out 0 res.toInt64)) rfl pq (perm_b (cOut g o (vp_updL out 0 res.toInt64)) (cMo g am mo') (wBR g ad tx is' wa st hi)).symm (runV (As := []) (rest := []) ⟨hx, hb, hml, hown, hts⟩ (kX6_thrown l g am (res := Mo_thrown mo') rfl) (cwV 0 hts gL_law_X6_thrown rfl rfl rfl hdX6_thrown ⟨Nat.le_of_ble_eq_true rfl, Nat.le_of_ble_eq_true rfl⟩) hK hN (hP.perm pq).left (hD.perm pq).left (va_recv hK hP (ci := 6) (q0 := 1) rfl rfl) rfl hl.1 rfl (Nat.le_of_ble_eq_true rfl) dL_law_981 ⟨hro.1, hro.2⟩) hP hD hS hA (fun H locs hP hD hS => ?_)
    refine lv_iload hx hb dL_law_984 (lv_at hl 1 rfl) ?_
    refine lv_icmp_eq (tgt := 991) hx hb dL_law_986 (by decide) (fun _ => ?_) (fun c9 => absurd h7 c9)
    refine lv_iload hx hb dL_law_991 (lv_at hl 1 rfl) ?_
    refine lv_if_ne (tgt := 1008) hx hb dL_law_993 (by decide) (fun c9 => absurd rfl c9) (fun _ => ?_)
    refine lv_aload_n hx hb dL_law_996 rfl (lv_at hl 5 rfl) ?_
    refine lv_iconst (v := 0) hx hb dL_law_997 (by decide) ?_
    refine va_lald hx hb hK hP 0 2 rfl rfl (inb_in (i := 0) (n := 1) (by decide)) dL_law_998 ?_
    refine lv_eql (z := res.toInt64) rfl ?_
    refine lv_iload hx hb dL_law_999 (lv_at hl 0 rfl) ?_
    refine lv_i2l (v := res.toInt64) hx hb dL_law_1001 rfl ?_
    refine W.lcmp hx hb dL_law_1002 ?_
    refine lv_if_eq (tgt := 1008) hx hb dL_law_1003 (by decide) (fun _ => ?_) (fun c9 => absurd (cmp_self _) c9)
    refine lv_goto (tgt := 1382) hx hb dL_law_1008 (by decide) ?_
    exact next _ _ _ _ _ _ _ _ _ _ hJ' hP hD hS (lv_sub hl [2, 3, 4, 5, 6] rfl)
  · refine lv_aload_n hx hb dL_law_955 rfl (lv_at hl 1 rfl) ?_
    refine lv_aload_n hx hb dL_law_956 rfl (lv_at hl 0 rfl) ?_
    refine lv_iload hx hb dL_law_957 (lv_at hl 4 rfl) ?_
    refine lv_iconst (v := 1) hx hb dL_law_959 (by decide) ?_
    refine lv_iadd hx hb dL_law_960 ?_
    refine lv_eqi (z := nI (i + 1)) (nI_add i 1) ?_
    refine va_sld hx hb hXs hbl hbA hS (vp_in_nI (by omega) (by omega)) dL_law_961 ?_
    refine lv_aload_n hx hb dL_law_962 rfl (lv_at hl 3 rfl) ?_
    have pq := perm_a (cOut g o out) (cMo g am mo) (wBR g ad tx is wa st hi)
    refine aftm_p (st1 := [.int 1]) (ws' := wLaw g ad am o tx is wa st hi mo out) rfl pq (perm_a (cOut g o out) (cMo g am mo) (wBR g ad tx is wa st hi)).symm (runL (As := [.ref (ad 0 0), .int (xs (nI (i + 1)).toNatClampNeg), .ref o]) (rest := []) ⟨hx, hb, hml, hown, hts⟩ (wL_count_2 l hst g ad o (out := out) h5) (vx_cwSW 3 hts gL_law_L_count rfl rfl rfl hdL_count ⟨Nat.le_of_ble_eq_true rfl, Nat.le_of_ble_eq_true rfl⟩) hK hN hX hZ (hP.perm pq).left (hD.perm pq).left hS hA rfl hl.1 rfl (Nat.le_of_ble_eq_true rfl) dL_law_963 hro) hP hD hS hA (fun H locs hP hD hS => ?_)
    refine lv_istore (lv' := [(5, .int 1), (0, .ref b), (1, .ref (ad 0 0)), (2, .ref (am 0)), (3, .ref o), (4, .int (nI i))]) hx hb dL_law_966 hl (by decide) rfl (fun ls hl => ?_)
    refine lv_aload_n hx hb dL_law_968 rfl (lv_at hl 3 rfl) ?_
    refine lv_aload_n hx hb dL_law_969 rfl (lv_at hl 1 rfl) ?_
    refine lv_iload hx hb dL_law_970 (lv_at hl 5 rfl) ?_
    refine lv_iconst (v := 1) hx hb dL_law_972 (by decide) ?_
    refine lv_iadd hx hb dL_law_973 ?_
    refine lv_eqi (z := nI (i + 1)) (nI_add i 1) ?_
    refine va_sld hx hb hXs hbl hbA hS (vp_in_nI (by omega) (by omega)) dL_law_974 ?_
    have pq := perm_b (cOut g o out) (cMo g am mo) (wBR g ad tx is wa st hi)
    refine aft_p (st1 := [.int b9]) (ws' := wLaw g ad am o tx is wa st hi mo' out) rfl pq (perm_b (cOut g o out) (cMo g am mo') (wBR g ad tx is wa st hi)).symm (runV (As := [.int (xs (nI (i + 1)).toNatClampNeg)]) (rest := []) ⟨hx, hb, hml, hown, hts⟩ (kX6_count l g am h6) (cwV 1 hts gL_law_X6_count rfl rfl rfl hdX6_count ⟨Nat.le_of_ble_eq_true rfl, Nat.le_of_ble_eq_true rfl⟩) hK hN (hP.perm pq).left (hD.perm pq).left (va_recv hK hP (ci := 6) (q0 := 1) rfl rfl) rfl hl.1 rfl (Nat.le_of_ble_eq_true rfl) dL_law_975 ⟨hro.1, hro.2⟩) hP hD hS hA (fun H locs hP hD hS => ?_)
    refine lv_istore (lv' := [(6, .int b9), (5, .int 1), (0, .ref b), (1, .ref (ad 0 0)), (2, .ref (am 0)), (3, .ref o), (4, .int (nI i))]) hx hb dL_law_978 hl (by decide) rfl (fun ls hl => ?_)
    refine lv_aload_n hx hb dL_law_980 rfl (lv_at hl 4 rfl) ?_
    have pq := perm_b (cOut g o out) (cMo g am mo') (wBR g ad tx is wa st hi)
    refine aft_p (st1 := [.int (Mo_thrown mo')]) (ws' := wLaw g ad am o tx is wa st hi mo' out) rfl pq (perm_b (cOut g o out) (cMo g am mo') (wBR g ad tx is wa st hi)).symm (runV (As := []) (rest := []) ⟨hx, hb, hml, hown, hts⟩ (kX6_thrown l g am (res := Mo_thrown mo') rfl) (cwV 0 hts gL_law_X6_thrown rfl rfl rfl hdX6_thrown ⟨Nat.le_of_ble_eq_true rfl, Nat.le_of_ble_eq_true rfl⟩) hK hN (hP.perm pq).left (hD.perm pq).left (va_recv hK hP (ci := 6) (q0 := 1) rfl rfl) rfl hl.1 rfl (Nat.le_of_ble_eq_true rfl) dL_law_981 ⟨hro.1, hro.2⟩) hP hD hS hA (fun H locs hP hD hS => ?_)
    refine lv_iload hx hb dL_law_984 (lv_at hl 1 rfl) ?_
    refine lv_icmp_eq (tgt := 991) hx hb dL_law_986 (by decide) (fun _ => ?_) (fun c9 => absurd h7 c9)
    refine lv_iload hx hb dL_law_991 (lv_at hl 1 rfl) ?_
    refine lv_if_ne (tgt := 1008) hx hb dL_law_993 (by decide) (fun _ => ?_) (fun c9 => absurd c9 (by decide))
    refine lv_goto (tgt := 1382) hx hb dL_law_1008 (by decide) ?_
    exact next _ _ _ _ _ _ _ _ _ _ hJ' hP hD hS (lv_sub hl [2, 3, 4, 5, 6] rfl)
set_option maxRecDepth 100000 in
set_option maxHeartbeats 8000000 in
theorem law_setting {p : Program} {l : Launch} {e : Env} {s : State} {m : MethodId} {args : Array Value} {below : List Frame} {meth : Method} {c : Code} {b L : Nat} {xs : Nat → Int32} {g : GG} {A : Nat → Prop} {Q : State → Prop} (hst : l.stackTraces = false) (LC : LCx p s m args c b L xs g A) {J : Nat → Tx → Is → Wa → St → Hi → Mo → Prop} (ad : Nat → Nat → Nat) (am : Nat → Nat) (o i j : Nat) {tx : Tx} {is : Is} {wa : Wa} {st : St} {hi : Hi} {mo : Mo} {out : Nat → Int64} {H : Heap} {locs : List Loc} {ls : Array Slot} (cells slots : Nat) (hL : L ≤ 2048) (hiL : i + 4 ≤ L) (hj : j < 512) (hro : cells + 1 ≤ 607796 ∧ slots + 6 ≤ 7272716) (hJ : J j tx is wa st hi mo) (hP : va_P g.1 vwCl (wLaw g ad am o tx is wa st hi mo out) H) (hD : va_D A (wLaw g ad am o tx is wa st hi mo out)) (hS : va_S A s.heap H locs) (hl : lv_has ls 9 [(0, .ref b), (1, .ref (ad 0 0)), (2, .ref (am 0)), (3, .ref o), (4, .int (nI i))]) (hop : Op_setting J) (next : ∀ (tx : Tx) (is : Is) (wa : Wa) (st : St) (hi : Hi) (mo : Mo) (out : Nat → Int64) (H : Heap) (locs : List Loc) (ls : Array Slot), J (j + 1) tx is wa st hi mo → va_P g.1 vwCl (wLaw g ad am o tx is wa st hi mo out) H → va_D A (wLaw g ad am o tx is wa st hi mo out) → va_S A s.heap H locs → lv_has ls 9 [(0, .ref b), (1, .ref (ad 0 0)), (2, .ref (am 0)), (3, .ref o), (4, .int (nI i))] → W p l e room_1 s m args below meth c H locs (cells + 1) (slots + 6) Q (F0 m 1382 ls [])) : W p l e room_1 s m args below meth c H locs cells slots Q (F0 m 1011 ls []) := by
  obtain ⟨hx, hb, hml, hown, hts, hK, hN, hX, hA, hXs, hbl, hbA, hZ⟩ := LC
  rcases hop j tx is wa st hi mo (xs (nI (i + 1)).toNatClampNeg) hj hJ with ⟨res, mo', h5, h6, h7, hJ'⟩ | ⟨b9, mo', h5, h6, h7, hJ'⟩
  · refine lv_aload_n hx hb dL_law_1011 rfl (lv_at hl 1 rfl) ?_
    refine lv_aload_n hx hb dL_law_1012 rfl (lv_at hl 0 rfl) ?_
    refine lv_iload hx hb dL_law_1013 (lv_at hl 4 rfl) ?_
    refine lv_iconst (v := 1) hx hb dL_law_1015 (by decide) ?_
    refine lv_iadd hx hb dL_law_1016 ?_
    refine lv_eqi (z := nI (i + 1)) (nI_add i 1) ?_
    refine va_sld hx hb hXs hbl hbA hS (vp_in_nI (by omega) (by omega)) dL_law_1017 ?_
    refine lv_aload_n hx hb dL_law_1018 rfl (lv_at hl 3 rfl) ?_
    have pq := perm_a (cOut g o out) (cMo g am mo) (wBR g ad tx is wa st hi)
    refine aftm_p (st1 := [.int 0]) (ws' := wLaw g ad am o tx is wa st hi mo (vp_updL out 0 res.toInt64)) rfl pq (perm_a (cOut g o (vp_updL out 0 res.toInt64)) (cMo g am mo) (wBR g ad tx is wa st hi)).symm (runL (As := [.ref (ad 0 0), .int (xs (nI (i + 1)).toNatClampNeg), .ref o]) (rest := []) ⟨hx, hb, hml, hown, hts⟩ (wL_setting l hst g ad o (out := out) h5) (vx_cwSW 3 hts gL_law_L_setting rfl rfl rfl hdL_setting ⟨Nat.le_of_ble_eq_true rfl, Nat.le_of_ble_eq_true rfl⟩) hK hN hX hZ (hP.perm pq).left (hD.perm pq).left hS hA rfl hl.1 rfl (Nat.le_of_ble_eq_true rfl) dL_law_1019 hro) hP hD hS hA (fun H locs hP hD hS => ?_)
    refine lv_istore (lv' := [(5, .int 0), (0, .ref b), (1, .ref (ad 0 0)), (2, .ref (am 0)), (3, .ref o), (4, .int (nI i))]) hx hb dL_law_1022 hl (by decide) rfl (fun ls hl => ?_)
    refine lv_aload_n hx hb dL_law_1024 rfl (lv_at hl 3 rfl) ?_
    refine lv_aload_n hx hb dL_law_1025 rfl (lv_at hl 1 rfl) ?_
    refine lv_iload hx hb dL_law_1026 (lv_at hl 5 rfl) ?_
    refine lv_iconst (v := 1) hx hb dL_law_1028 (by decide) ?_
    refine lv_iadd hx hb dL_law_1029 ?_
    refine lv_eqi (z := nI (i + 1)) (nI_add i 1) ?_
    refine va_sld hx hb hXs hbl hbA hS (vp_in_nI (by omega) (by omega)) dL_law_1030 ?_
    have pq := perm_b (cOut g o (vp_updL out 0 res.toInt64)) (cMo g am mo) (wBR g ad tx is wa st hi)
    refine aft_p (st1 := [.int res]) (ws' := wLaw g ad am o tx is wa st hi mo' (vp_updL out 0 res.toInt64)) rfl pq (perm_b (cOut g o (vp_updL out 0 res.toInt64)) (cMo g am mo') (wBR g ad tx is wa st hi)).symm (runV (As := [.int (xs (nI (i + 1)).toNatClampNeg)]) (rest := []) ⟨hx, hb, hml, hown, hts⟩ (kX6_setting l g am h6) (cwV 1 hts gL_law_X6_setting rfl rfl rfl hdX6_setting ⟨Nat.le_of_ble_eq_true rfl, Nat.le_of_ble_eq_true rfl⟩) hK hN (hP.perm pq).left (hD.perm pq).left (va_recv hK hP (ci := 6) (q0 := 1) rfl rfl) rfl hl.1 rfl (Nat.le_of_ble_eq_true rfl) dL_law_1031 ⟨hro.1, hro.2⟩) hP hD hS hA (fun H locs hP hD hS => ?_)
    refine lv_istore (lv' := [(6, .int res), (5, .int 0), (0, .ref b), (1, .ref (ad 0 0)), (2, .ref (am 0)), (3, .ref o), (4, .int (nI i))]) hx hb dL_law_1034 hl (by decide) rfl (fun ls hl => ?_)
    refine lv_aload_n hx hb dL_law_1036 rfl (lv_at hl 4 rfl) ?_
    have pq := perm_b (cOut g o (vp_updL out 0 res.toInt64)) (cMo g am mo') (wBR g ad tx is wa st hi)
    refine aft_p (st1 := [.int (Mo_thrown mo')]) (ws' := wLaw g ad am o tx is wa st hi mo' (vp_updL out 0 res.toInt64)) rfl pq (perm_b (cOut g o (vp_updL out 0 res.toInt64)) (cMo g am mo') (wBR g ad tx is wa st hi)).symm (runV (As := []) (rest := []) ⟨hx, hb, hml, hown, hts⟩ (kX6_thrown l g am (res := Mo_thrown mo') rfl) (cwV 0 hts gL_law_X6_thrown rfl rfl rfl hdX6_thrown ⟨Nat.le_of_ble_eq_true rfl, Nat.le_of_ble_eq_true rfl⟩) hK hN (hP.perm pq).left (hD.perm pq).left (va_recv hK hP (ci := 6) (q0 := 1) rfl rfl) rfl hl.1 rfl (Nat.le_of_ble_eq_true rfl) dL_law_1037 ⟨hro.1, hro.2⟩) hP hD hS hA (fun H locs hP hD hS => ?_)
    refine lv_iload hx hb dL_law_1040 (lv_at hl 1 rfl) ?_
    refine lv_icmp_eq (tgt := 1047) hx hb dL_law_1042 (by decide) (fun _ => ?_) (fun c9 => absurd h7 c9)
    refine lv_iload hx hb dL_law_1047 (lv_at hl 1 rfl) ?_
    refine lv_if_ne (tgt := 1064) hx hb dL_law_1049 (by decide) (fun c9 => absurd rfl c9) (fun _ => ?_)
    refine lv_aload_n hx hb dL_law_1052 rfl (lv_at hl 5 rfl) ?_
    refine lv_iconst (v := 0) hx hb dL_law_1053 (by decide) ?_
    refine va_lald hx hb hK hP 0 2 rfl rfl (inb_in (i := 0) (n := 1) (by decide)) dL_law_1054 ?_
    refine lv_eql (z := res.toInt64) rfl ?_
    refine lv_iload hx hb dL_law_1055 (lv_at hl 0 rfl) ?_
    refine lv_i2l (v := res.toInt64) hx hb dL_law_1057 rfl ?_
    refine W.lcmp hx hb dL_law_1058 ?_
    refine lv_if_eq (tgt := 1064) hx hb dL_law_1059 (by decide) (fun _ => ?_) (fun c9 => absurd (cmp_self _) c9)
    refine lv_goto (tgt := 1382) hx hb dL_law_1064 (by decide) ?_
    exact next _ _ _ _ _ _ _ _ _ _ hJ' hP hD hS (lv_sub hl [2, 3, 4, 5, 6] rfl)
  · refine lv_aload_n hx hb dL_law_1011 rfl (lv_at hl 1 rfl) ?_
    refine lv_aload_n hx hb dL_law_1012 rfl (lv_at hl 0 rfl) ?_
    refine lv_iload hx hb dL_law_1013 (lv_at hl 4 rfl) ?_
    refine lv_iconst (v := 1) hx hb dL_law_1015 (by decide) ?_
    refine lv_iadd hx hb dL_law_1016 ?_
    refine lv_eqi (z := nI (i + 1)) (nI_add i 1) ?_
    refine va_sld hx hb hXs hbl hbA hS (vp_in_nI (by omega) (by omega)) dL_law_1017 ?_
    refine lv_aload_n hx hb dL_law_1018 rfl (lv_at hl 3 rfl) ?_
    have pq := perm_a (cOut g o out) (cMo g am mo) (wBR g ad tx is wa st hi)
    refine aftm_p (st1 := [.int 1]) (ws' := wLaw g ad am o tx is wa st hi mo out) rfl pq (perm_a (cOut g o out) (cMo g am mo) (wBR g ad tx is wa st hi)).symm (runL (As := [.ref (ad 0 0), .int (xs (nI (i + 1)).toNatClampNeg), .ref o]) (rest := []) ⟨hx, hb, hml, hown, hts⟩ (wL_setting_1 l hst g ad o (out := out) h5) (vx_cwSW 3 hts gL_law_L_setting rfl rfl rfl hdL_setting ⟨Nat.le_of_ble_eq_true rfl, Nat.le_of_ble_eq_true rfl⟩) hK hN hX hZ (hP.perm pq).left (hD.perm pq).left hS hA rfl hl.1 rfl (Nat.le_of_ble_eq_true rfl) dL_law_1019 hro) hP hD hS hA (fun H locs hP hD hS => ?_)
    refine lv_istore (lv' := [(5, .int 1), (0, .ref b), (1, .ref (ad 0 0)), (2, .ref (am 0)), (3, .ref o), (4, .int (nI i))]) hx hb dL_law_1022 hl (by decide) rfl (fun ls hl => ?_)
    refine lv_aload_n hx hb dL_law_1024 rfl (lv_at hl 3 rfl) ?_
    refine lv_aload_n hx hb dL_law_1025 rfl (lv_at hl 1 rfl) ?_
    refine lv_iload hx hb dL_law_1026 (lv_at hl 5 rfl) ?_
    refine lv_iconst (v := 1) hx hb dL_law_1028 (by decide) ?_
    refine lv_iadd hx hb dL_law_1029 ?_
    refine lv_eqi (z := nI (i + 1)) (nI_add i 1) ?_
    refine va_sld hx hb hXs hbl hbA hS (vp_in_nI (by omega) (by omega)) dL_law_1030 ?_
    have pq := perm_b (cOut g o out) (cMo g am mo) (wBR g ad tx is wa st hi)
    refine aft_p (st1 := [.int b9]) (ws' := wLaw g ad am o tx is wa st hi mo' out) rfl pq (perm_b (cOut g o out) (cMo g am mo') (wBR g ad tx is wa st hi)).symm (runV (As := [.int (xs (nI (i + 1)).toNatClampNeg)]) (rest := []) ⟨hx, hb, hml, hown, hts⟩ (kX6_setting l g am h6) (cwV 1 hts gL_law_X6_setting rfl rfl rfl hdX6_setting ⟨Nat.le_of_ble_eq_true rfl, Nat.le_of_ble_eq_true rfl⟩) hK hN (hP.perm pq).left (hD.perm pq).left (va_recv hK hP (ci := 6) (q0 := 1) rfl rfl) rfl hl.1 rfl (Nat.le_of_ble_eq_true rfl) dL_law_1031 ⟨hro.1, hro.2⟩) hP hD hS hA (fun H locs hP hD hS => ?_)
    refine lv_istore (lv' := [(6, .int b9), (5, .int 1), (0, .ref b), (1, .ref (ad 0 0)), (2, .ref (am 0)), (3, .ref o), (4, .int (nI i))]) hx hb dL_law_1034 hl (by decide) rfl (fun ls hl => ?_)
    refine lv_aload_n hx hb dL_law_1036 rfl (lv_at hl 4 rfl) ?_
    have pq := perm_b (cOut g o out) (cMo g am mo') (wBR g ad tx is wa st hi)
    refine aft_p (st1 := [.int (Mo_thrown mo')]) (ws' := wLaw g ad am o tx is wa st hi mo' out) rfl pq (perm_b (cOut g o out) (cMo g am mo') (wBR g ad tx is wa st hi)).symm (runV (As := []) (rest := []) ⟨hx, hb, hml, hown, hts⟩ (kX6_thrown l g am (res := Mo_thrown mo') rfl) (cwV 0 hts gL_law_X6_thrown rfl rfl rfl hdX6_thrown ⟨Nat.le_of_ble_eq_true rfl, Nat.le_of_ble_eq_true rfl⟩) hK hN (hP.perm pq).left (hD.perm pq).left (va_recv hK hP (ci := 6) (q0 := 1) rfl rfl) rfl hl.1 rfl (Nat.le_of_ble_eq_true rfl) dL_law_1037 ⟨hro.1, hro.2⟩) hP hD hS hA (fun H locs hP hD hS => ?_)
    refine lv_iload hx hb dL_law_1040 (lv_at hl 1 rfl) ?_
    refine lv_icmp_eq (tgt := 1047) hx hb dL_law_1042 (by decide) (fun _ => ?_) (fun c9 => absurd h7 c9)
    refine lv_iload hx hb dL_law_1047 (lv_at hl 1 rfl) ?_
    refine lv_if_ne (tgt := 1064) hx hb dL_law_1049 (by decide) (fun _ => ?_) (fun c9 => absurd c9 (by decide))
    refine lv_goto (tgt := 1382) hx hb dL_law_1064 (by decide) ?_
    exact next _ _ _ _ _ _ _ _ _ _ hJ' hP hD hS (lv_sub hl [2, 3, 4, 5, 6] rfl)
set_option maxRecDepth 100000 in
set_option maxHeartbeats 8000000 in
theorem law_why {p : Program} {l : Launch} {e : Env} {s : State} {m : MethodId} {args : Array Value} {below : List Frame} {meth : Method} {c : Code} {b L : Nat} {xs : Nat → Int32} {g : GG} {A : Nat → Prop} {Q : State → Prop} (hst : l.stackTraces = false) (LC : LCx p s m args c b L xs g A) {J : Nat → Tx → Is → Wa → St → Hi → Mo → Prop} (ad : Nat → Nat → Nat) (am : Nat → Nat) (o i j : Nat) {tx : Tx} {is : Is} {wa : Wa} {st : St} {hi : Hi} {mo : Mo} {out : Nat → Int64} {H : Heap} {locs : List Loc} {ls : Array Slot} (cells slots : Nat) (hL : L ≤ 2048) (hiL : i + 4 ≤ L) (hj : j < 512) (hro : cells + 1 ≤ 607796 ∧ slots + 6 ≤ 7272716) (hJ : J j tx is wa st hi mo) (hP : va_P g.1 vwCl (wLaw g ad am o tx is wa st hi mo out) H) (hD : va_D A (wLaw g ad am o tx is wa st hi mo out)) (hS : va_S A s.heap H locs) (hl : lv_has ls 9 [(0, .ref b), (1, .ref (ad 0 0)), (2, .ref (am 0)), (3, .ref o), (4, .int (nI i))]) (hop : Op_why J) (next : ∀ (tx : Tx) (is : Is) (wa : Wa) (st : St) (hi : Hi) (mo : Mo) (out : Nat → Int64) (H : Heap) (locs : List Loc) (ls : Array Slot), J (j + 1) tx is wa st hi mo → va_P g.1 vwCl (wLaw g ad am o tx is wa st hi mo out) H → va_D A (wLaw g ad am o tx is wa st hi mo out) → va_S A s.heap H locs → lv_has ls 9 [(0, .ref b), (1, .ref (ad 0 0)), (2, .ref (am 0)), (3, .ref o), (4, .int (nI i))] → W p l e room_1 s m args below meth c H locs (cells + 1) (slots + 6) Q (F0 m 1382 ls [])) : W p l e room_1 s m args below meth c H locs cells slots Q (F0 m 1067 ls []) := by
  obtain ⟨hx, hb, hml, hown, hts, hK, hN, hX, hA, hXs, hbl, hbA, hZ⟩ := LC
  rcases hop j tx is wa st hi mo (xs (nI (i + 1)).toNatClampNeg) (xs (nI (i + 2)).toNatClampNeg) hj hJ with ⟨res, mo', h5, h6, h7, hJ'⟩ | ⟨b9, mo', h5, h6, h7, hJ'⟩
  · refine lv_aload_n hx hb dL_law_1067 rfl (lv_at hl 1 rfl) ?_
    refine lv_aload_n hx hb dL_law_1068 rfl (lv_at hl 0 rfl) ?_
    refine lv_iload hx hb dL_law_1069 (lv_at hl 4 rfl) ?_
    refine lv_iconst (v := 1) hx hb dL_law_1071 (by decide) ?_
    refine lv_iadd hx hb dL_law_1072 ?_
    refine lv_eqi (z := nI (i + 1)) (nI_add i 1) ?_
    refine va_sld hx hb hXs hbl hbA hS (vp_in_nI (by omega) (by omega)) dL_law_1073 ?_
    refine lv_aload_n hx hb dL_law_1074 rfl (lv_at hl 0 rfl) ?_
    refine lv_iload hx hb dL_law_1075 (lv_at hl 4 rfl) ?_
    refine lv_iconst (v := 2) hx hb dL_law_1077 (by decide) ?_
    refine lv_iadd hx hb dL_law_1078 ?_
    refine lv_eqi (z := nI (i + 2)) (nI_add i 2) ?_
    refine va_sld hx hb hXs hbl hbA hS (vp_in_nI (by omega) (by omega)) dL_law_1079 ?_
    refine lv_aload_n hx hb dL_law_1080 rfl (lv_at hl 3 rfl) ?_
    have pq := perm_a (cOut g o out) (cMo g am mo) (wBR g ad tx is wa st hi)
    refine aftm_p (st1 := [.int 0]) (ws' := wLaw g ad am o tx is wa st hi mo (vp_updL out 0 res.toInt64)) rfl pq (perm_a (cOut g o (vp_updL out 0 res.toInt64)) (cMo g am mo) (wBR g ad tx is wa st hi)).symm (runL (As := [.ref (ad 0 0), .int (xs (nI (i + 1)).toNatClampNeg), .int (xs (nI (i + 2)).toNatClampNeg), .ref o]) (rest := []) ⟨hx, hb, hml, hown, hts⟩ (wL_why l hst g ad o (out := out) h5) (vx_cwSW 4 hts gL_law_L_why rfl rfl rfl hdL_why ⟨Nat.le_of_ble_eq_true rfl, Nat.le_of_ble_eq_true rfl⟩) hK hN hX hZ (hP.perm pq).left (hD.perm pq).left hS hA rfl hl.1 rfl (Nat.le_of_ble_eq_true rfl) dL_law_1081 hro) hP hD hS hA (fun H locs hP hD hS => ?_)
    refine lv_istore (lv' := [(5, .int 0), (0, .ref b), (1, .ref (ad 0 0)), (2, .ref (am 0)), (3, .ref o), (4, .int (nI i))]) hx hb dL_law_1084 hl (by decide) rfl (fun ls hl => ?_)
    refine lv_aload_n hx hb dL_law_1086 rfl (lv_at hl 3 rfl) ?_
    refine lv_aload_n hx hb dL_law_1087 rfl (lv_at hl 1 rfl) ?_
    refine lv_iload hx hb dL_law_1088 (lv_at hl 5 rfl) ?_
    refine lv_iconst (v := 1) hx hb dL_law_1090 (by decide) ?_
    refine lv_iadd hx hb dL_law_1091 ?_
    refine lv_eqi (z := nI (i + 1)) (nI_add i 1) ?_
    refine va_sld hx hb hXs hbl hbA hS (vp_in_nI (by omega) (by omega)) dL_law_1092 ?_
    refine lv_aload_n hx hb dL_law_1093 rfl (lv_at hl 1 rfl) ?_
    refine lv_iload hx hb dL_law_1094 (lv_at hl 5 rfl) ?_
    refine lv_iconst (v := 2) hx hb dL_law_1096 (by decide) ?_
    refine lv_iadd hx hb dL_law_1097 ?_
    refine lv_eqi (z := nI (i + 2)) (nI_add i 2) ?_
    refine va_sld hx hb hXs hbl hbA hS (vp_in_nI (by omega) (by omega)) dL_law_1098 ?_
    have pq := perm_b (cOut g o (vp_updL out 0 res.toInt64)) (cMo g am mo) (wBR g ad tx is wa st hi)
    refine aft_p (st1 := [.int res]) (ws' := wLaw g ad am o tx is wa st hi mo' (vp_updL out 0 res.toInt64)) rfl pq (perm_b (cOut g o (vp_updL out 0 res.toInt64)) (cMo g am mo') (wBR g ad tx is wa st hi)).symm (runV (As := [.int (xs (nI (i + 1)).toNatClampNeg), .int (xs (nI (i + 2)).toNatClampNeg)]) (rest := []) ⟨hx, hb, hml, hown, hts⟩ (kX6_why l g am h6) (cwV 2 hts gL_law_X6_why rfl rfl rfl hdX6_why ⟨Nat.le_of_ble_eq_true rfl, Nat.le_of_ble_eq_true rfl⟩) hK hN (hP.perm pq).left (hD.perm pq).left (va_recv hK hP (ci := 6) (q0 := 1) rfl rfl) rfl hl.1 rfl (Nat.le_of_ble_eq_true rfl) dL_law_1099 ⟨hro.1, hro.2⟩) hP hD hS hA (fun H locs hP hD hS => ?_)
    refine lv_istore (lv' := [(6, .int res), (5, .int 0), (0, .ref b), (1, .ref (ad 0 0)), (2, .ref (am 0)), (3, .ref o), (4, .int (nI i))]) hx hb dL_law_1102 hl (by decide) rfl (fun ls hl => ?_)
    refine lv_aload_n hx hb dL_law_1104 rfl (lv_at hl 4 rfl) ?_
    have pq := perm_b (cOut g o (vp_updL out 0 res.toInt64)) (cMo g am mo') (wBR g ad tx is wa st hi)
    refine aft_p (st1 := [.int (Mo_thrown mo')]) (ws' := wLaw g ad am o tx is wa st hi mo' (vp_updL out 0 res.toInt64)) rfl pq (perm_b (cOut g o (vp_updL out 0 res.toInt64)) (cMo g am mo') (wBR g ad tx is wa st hi)).symm (runV (As := []) (rest := []) ⟨hx, hb, hml, hown, hts⟩ (kX6_thrown l g am (res := Mo_thrown mo') rfl) (cwV 0 hts gL_law_X6_thrown rfl rfl rfl hdX6_thrown ⟨Nat.le_of_ble_eq_true rfl, Nat.le_of_ble_eq_true rfl⟩) hK hN (hP.perm pq).left (hD.perm pq).left (va_recv hK hP (ci := 6) (q0 := 1) rfl rfl) rfl hl.1 rfl (Nat.le_of_ble_eq_true rfl) dL_law_1105 ⟨hro.1, hro.2⟩) hP hD hS hA (fun H locs hP hD hS => ?_)
    refine lv_iload hx hb dL_law_1108 (lv_at hl 1 rfl) ?_
    refine lv_icmp_eq (tgt := 1115) hx hb dL_law_1110 (by decide) (fun _ => ?_) (fun c9 => absurd h7 c9)
    refine lv_iload hx hb dL_law_1115 (lv_at hl 1 rfl) ?_
    refine lv_if_ne (tgt := 1132) hx hb dL_law_1117 (by decide) (fun c9 => absurd rfl c9) (fun _ => ?_)
    refine lv_aload_n hx hb dL_law_1120 rfl (lv_at hl 5 rfl) ?_
    refine lv_iconst (v := 0) hx hb dL_law_1121 (by decide) ?_
    refine va_lald hx hb hK hP 0 2 rfl rfl (inb_in (i := 0) (n := 1) (by decide)) dL_law_1122 ?_
    refine lv_eql (z := res.toInt64) rfl ?_
    refine lv_iload hx hb dL_law_1123 (lv_at hl 0 rfl) ?_
    refine lv_i2l (v := res.toInt64) hx hb dL_law_1125 rfl ?_
    refine W.lcmp hx hb dL_law_1126 ?_
    refine lv_if_eq (tgt := 1132) hx hb dL_law_1127 (by decide) (fun _ => ?_) (fun c9 => absurd (cmp_self _) c9)
    refine lv_goto (tgt := 1382) hx hb dL_law_1132 (by decide) ?_
    exact next _ _ _ _ _ _ _ _ _ _ hJ' hP hD hS (lv_sub hl [2, 3, 4, 5, 6] rfl)
  · refine lv_aload_n hx hb dL_law_1067 rfl (lv_at hl 1 rfl) ?_
    refine lv_aload_n hx hb dL_law_1068 rfl (lv_at hl 0 rfl) ?_
    refine lv_iload hx hb dL_law_1069 (lv_at hl 4 rfl) ?_
    refine lv_iconst (v := 1) hx hb dL_law_1071 (by decide) ?_
    refine lv_iadd hx hb dL_law_1072 ?_
    refine lv_eqi (z := nI (i + 1)) (nI_add i 1) ?_
    refine va_sld hx hb hXs hbl hbA hS (vp_in_nI (by omega) (by omega)) dL_law_1073 ?_
    refine lv_aload_n hx hb dL_law_1074 rfl (lv_at hl 0 rfl) ?_
    refine lv_iload hx hb dL_law_1075 (lv_at hl 4 rfl) ?_
    refine lv_iconst (v := 2) hx hb dL_law_1077 (by decide) ?_
    refine lv_iadd hx hb dL_law_1078 ?_
    refine lv_eqi (z := nI (i + 2)) (nI_add i 2) ?_
    refine va_sld hx hb hXs hbl hbA hS (vp_in_nI (by omega) (by omega)) dL_law_1079 ?_
    refine lv_aload_n hx hb dL_law_1080 rfl (lv_at hl 3 rfl) ?_
    have pq := perm_a (cOut g o out) (cMo g am mo) (wBR g ad tx is wa st hi)
    refine aftm_p (st1 := [.int 1]) (ws' := wLaw g ad am o tx is wa st hi mo out) rfl pq (perm_a (cOut g o out) (cMo g am mo) (wBR g ad tx is wa st hi)).symm (runL (As := [.ref (ad 0 0), .int (xs (nI (i + 1)).toNatClampNeg), .int (xs (nI (i + 2)).toNatClampNeg), .ref o]) (rest := []) ⟨hx, hb, hml, hown, hts⟩ (wL_why_1 l hst g ad o (out := out) h5) (vx_cwSW 4 hts gL_law_L_why rfl rfl rfl hdL_why ⟨Nat.le_of_ble_eq_true rfl, Nat.le_of_ble_eq_true rfl⟩) hK hN hX hZ (hP.perm pq).left (hD.perm pq).left hS hA rfl hl.1 rfl (Nat.le_of_ble_eq_true rfl) dL_law_1081 hro) hP hD hS hA (fun H locs hP hD hS => ?_)
    refine lv_istore (lv' := [(5, .int 1), (0, .ref b), (1, .ref (ad 0 0)), (2, .ref (am 0)), (3, .ref o), (4, .int (nI i))]) hx hb dL_law_1084 hl (by decide) rfl (fun ls hl => ?_)
    refine lv_aload_n hx hb dL_law_1086 rfl (lv_at hl 3 rfl) ?_
    refine lv_aload_n hx hb dL_law_1087 rfl (lv_at hl 1 rfl) ?_
    refine lv_iload hx hb dL_law_1088 (lv_at hl 5 rfl) ?_
    refine lv_iconst (v := 1) hx hb dL_law_1090 (by decide) ?_
    refine lv_iadd hx hb dL_law_1091 ?_
    refine lv_eqi (z := nI (i + 1)) (nI_add i 1) ?_
    refine va_sld hx hb hXs hbl hbA hS (vp_in_nI (by omega) (by omega)) dL_law_1092 ?_
    refine lv_aload_n hx hb dL_law_1093 rfl (lv_at hl 1 rfl) ?_
    refine lv_iload hx hb dL_law_1094 (lv_at hl 5 rfl) ?_
    refine lv_iconst (v := 2) hx hb dL_law_1096 (by decide) ?_
    refine lv_iadd hx hb dL_law_1097 ?_
    refine lv_eqi (z := nI (i + 2)) (nI_add i 2) ?_
    refine va_sld hx hb hXs hbl hbA hS (vp_in_nI (by omega) (by omega)) dL_law_1098 ?_
    have pq := perm_b (cOut g o out) (cMo g am mo) (wBR g ad tx is wa st hi)
    refine aft_p (st1 := [.int b9]) (ws' := wLaw g ad am o tx is wa st hi mo' out) rfl pq (perm_b (cOut g o out) (cMo g am mo') (wBR g ad tx is wa st hi)).symm (runV (As := [.int (xs (nI (i + 1)).toNatClampNeg), .int (xs (nI (i + 2)).toNatClampNeg)]) (rest := []) ⟨hx, hb, hml, hown, hts⟩ (kX6_why l g am h6) (cwV 2 hts gL_law_X6_why rfl rfl rfl hdX6_why ⟨Nat.le_of_ble_eq_true rfl, Nat.le_of_ble_eq_true rfl⟩) hK hN (hP.perm pq).left (hD.perm pq).left (va_recv hK hP (ci := 6) (q0 := 1) rfl rfl) rfl hl.1 rfl (Nat.le_of_ble_eq_true rfl) dL_law_1099 ⟨hro.1, hro.2⟩) hP hD hS hA (fun H locs hP hD hS => ?_)
    refine lv_istore (lv' := [(6, .int b9), (5, .int 1), (0, .ref b), (1, .ref (ad 0 0)), (2, .ref (am 0)), (3, .ref o), (4, .int (nI i))]) hx hb dL_law_1102 hl (by decide) rfl (fun ls hl => ?_)
    refine lv_aload_n hx hb dL_law_1104 rfl (lv_at hl 4 rfl) ?_
    have pq := perm_b (cOut g o out) (cMo g am mo') (wBR g ad tx is wa st hi)
    refine aft_p (st1 := [.int (Mo_thrown mo')]) (ws' := wLaw g ad am o tx is wa st hi mo' out) rfl pq (perm_b (cOut g o out) (cMo g am mo') (wBR g ad tx is wa st hi)).symm (runV (As := []) (rest := []) ⟨hx, hb, hml, hown, hts⟩ (kX6_thrown l g am (res := Mo_thrown mo') rfl) (cwV 0 hts gL_law_X6_thrown rfl rfl rfl hdX6_thrown ⟨Nat.le_of_ble_eq_true rfl, Nat.le_of_ble_eq_true rfl⟩) hK hN (hP.perm pq).left (hD.perm pq).left (va_recv hK hP (ci := 6) (q0 := 1) rfl rfl) rfl hl.1 rfl (Nat.le_of_ble_eq_true rfl) dL_law_1105 ⟨hro.1, hro.2⟩) hP hD hS hA (fun H locs hP hD hS => ?_)
    refine lv_iload hx hb dL_law_1108 (lv_at hl 1 rfl) ?_
    refine lv_icmp_eq (tgt := 1115) hx hb dL_law_1110 (by decide) (fun _ => ?_) (fun c9 => absurd h7 c9)
    refine lv_iload hx hb dL_law_1115 (lv_at hl 1 rfl) ?_
    refine lv_if_ne (tgt := 1132) hx hb dL_law_1117 (by decide) (fun _ => ?_) (fun c9 => absurd c9 (by decide))
    refine lv_goto (tgt := 1382) hx hb dL_law_1132 (by decide) ?_
    exact next _ _ _ _ _ _ _ _ _ _ hJ' hP hD hS (lv_sub hl [2, 3, 4, 5, 6] rfl)
set_option maxRecDepth 100000 in
set_option maxHeartbeats 8000000 in
theorem law_plain {p : Program} {l : Launch} {e : Env} {s : State} {m : MethodId} {args : Array Value} {below : List Frame} {meth : Method} {c : Code} {b L : Nat} {xs : Nat → Int32} {g : GG} {A : Nat → Prop} {Q : State → Prop} (hst : l.stackTraces = false) (LC : LCx p s m args c b L xs g A) {J : Nat → Tx → Is → Wa → St → Hi → Mo → Prop} (ad : Nat → Nat → Nat) (am : Nat → Nat) (o i j : Nat) {tx : Tx} {is : Is} {wa : Wa} {st : St} {hi : Hi} {mo : Mo} {out : Nat → Int64} {H : Heap} {locs : List Loc} {ls : Array Slot} (cells slots : Nat) (hL : L ≤ 2048) (hiL : i + 4 ≤ L) (hj : j < 512) (hro : cells + 1 ≤ 607796 ∧ slots + 6 ≤ 7272716) (hJ : J j tx is wa st hi mo) (hP : va_P g.1 vwCl (wLaw g ad am o tx is wa st hi mo out) H) (hD : va_D A (wLaw g ad am o tx is wa st hi mo out)) (hS : va_S A s.heap H locs) (hl : lv_has ls 9 [(0, .ref b), (1, .ref (ad 0 0)), (2, .ref (am 0)), (3, .ref o), (4, .int (nI i))]) (hop : Op_plain J) (next : ∀ (tx : Tx) (is : Is) (wa : Wa) (st : St) (hi : Hi) (mo : Mo) (out : Nat → Int64) (H : Heap) (locs : List Loc) (ls : Array Slot), J (j + 1) tx is wa st hi mo → va_P g.1 vwCl (wLaw g ad am o tx is wa st hi mo out) H → va_D A (wLaw g ad am o tx is wa st hi mo out) → va_S A s.heap H locs → lv_has ls 9 [(0, .ref b), (1, .ref (ad 0 0)), (2, .ref (am 0)), (3, .ref o), (4, .int (nI i))] → W p l e room_1 s m args below meth c H locs (cells + 1) (slots + 6) Q (F0 m 1382 ls [])) : W p l e room_1 s m args below meth c H locs cells slots Q (F0 m 1135 ls []) := by
  obtain ⟨hx, hb, hml, hown, hts, hK, hN, hX, hA, hXs, hbl, hbA, hZ⟩ := LC
  rcases hop j tx is wa st hi mo (xs (nI (i + 1)).toNatClampNeg) (xs (nI (i + 2)).toNatClampNeg) hj hJ with ⟨res, mo', h5, h6, h7, hJ'⟩ | ⟨b9, mo', h5, h6, h7, hJ'⟩
  · refine lv_aload_n hx hb dL_law_1135 rfl (lv_at hl 1 rfl) ?_
    refine lv_aload_n hx hb dL_law_1136 rfl (lv_at hl 0 rfl) ?_
    refine lv_iload hx hb dL_law_1137 (lv_at hl 4 rfl) ?_
    refine lv_iconst (v := 1) hx hb dL_law_1139 (by decide) ?_
    refine lv_iadd hx hb dL_law_1140 ?_
    refine lv_eqi (z := nI (i + 1)) (nI_add i 1) ?_
    refine va_sld hx hb hXs hbl hbA hS (vp_in_nI (by omega) (by omega)) dL_law_1141 ?_
    refine lv_aload_n hx hb dL_law_1142 rfl (lv_at hl 0 rfl) ?_
    refine lv_iload hx hb dL_law_1143 (lv_at hl 4 rfl) ?_
    refine lv_iconst (v := 2) hx hb dL_law_1145 (by decide) ?_
    refine lv_iadd hx hb dL_law_1146 ?_
    refine lv_eqi (z := nI (i + 2)) (nI_add i 2) ?_
    refine va_sld hx hb hXs hbl hbA hS (vp_in_nI (by omega) (by omega)) dL_law_1147 ?_
    refine lv_aload_n hx hb dL_law_1148 rfl (lv_at hl 3 rfl) ?_
    have pq := perm_a (cOut g o out) (cMo g am mo) (wBR g ad tx is wa st hi)
    refine aftm_p (st1 := [.int 0]) (ws' := wLaw g ad am o tx is wa st hi mo (vp_updL out 0 res.toInt64)) rfl pq (perm_a (cOut g o (vp_updL out 0 res.toInt64)) (cMo g am mo) (wBR g ad tx is wa st hi)).symm (runL (As := [.ref (ad 0 0), .int (xs (nI (i + 1)).toNatClampNeg), .int (xs (nI (i + 2)).toNatClampNeg), .ref o]) (rest := []) ⟨hx, hb, hml, hown, hts⟩ (wL_plain l hst g ad o (out := out) h5) (vx_cwSW 4 hts gL_law_L_plain rfl rfl rfl hdL_plain ⟨Nat.le_of_ble_eq_true rfl, Nat.le_of_ble_eq_true rfl⟩) hK hN hX hZ (hP.perm pq).left (hD.perm pq).left hS hA rfl hl.1 rfl (Nat.le_of_ble_eq_true rfl) dL_law_1149 hro) hP hD hS hA (fun H locs hP hD hS => ?_)
    refine lv_istore (lv' := [(5, .int 0), (0, .ref b), (1, .ref (ad 0 0)), (2, .ref (am 0)), (3, .ref o), (4, .int (nI i))]) hx hb dL_law_1152 hl (by decide) rfl (fun ls hl => ?_)
    refine lv_aload_n hx hb dL_law_1154 rfl (lv_at hl 3 rfl) ?_
    refine lv_aload_n hx hb dL_law_1155 rfl (lv_at hl 1 rfl) ?_
    refine lv_iload hx hb dL_law_1156 (lv_at hl 5 rfl) ?_
    refine lv_iconst (v := 1) hx hb dL_law_1158 (by decide) ?_
    refine lv_iadd hx hb dL_law_1159 ?_
    refine lv_eqi (z := nI (i + 1)) (nI_add i 1) ?_
    refine va_sld hx hb hXs hbl hbA hS (vp_in_nI (by omega) (by omega)) dL_law_1160 ?_
    refine lv_aload_n hx hb dL_law_1161 rfl (lv_at hl 1 rfl) ?_
    refine lv_iload hx hb dL_law_1162 (lv_at hl 5 rfl) ?_
    refine lv_iconst (v := 2) hx hb dL_law_1164 (by decide) ?_
    refine lv_iadd hx hb dL_law_1165 ?_
    refine lv_eqi (z := nI (i + 2)) (nI_add i 2) ?_
    refine va_sld hx hb hXs hbl hbA hS (vp_in_nI (by omega) (by omega)) dL_law_1166 ?_
    have pq := perm_b (cOut g o (vp_updL out 0 res.toInt64)) (cMo g am mo) (wBR g ad tx is wa st hi)
    refine aft_p (st1 := [.int res]) (ws' := wLaw g ad am o tx is wa st hi mo' (vp_updL out 0 res.toInt64)) rfl pq (perm_b (cOut g o (vp_updL out 0 res.toInt64)) (cMo g am mo') (wBR g ad tx is wa st hi)).symm (runV (As := [.int (xs (nI (i + 1)).toNatClampNeg), .int (xs (nI (i + 2)).toNatClampNeg)]) (rest := []) ⟨hx, hb, hml, hown, hts⟩ (kX6_plain l g am h6) (cwV 2 hts gL_law_X6_plain rfl rfl rfl hdX6_plain ⟨Nat.le_of_ble_eq_true rfl, Nat.le_of_ble_eq_true rfl⟩) hK hN (hP.perm pq).left (hD.perm pq).left (va_recv hK hP (ci := 6) (q0 := 1) rfl rfl) rfl hl.1 rfl (Nat.le_of_ble_eq_true rfl) dL_law_1167 ⟨hro.1, hro.2⟩) hP hD hS hA (fun H locs hP hD hS => ?_)
    refine lv_istore (lv' := [(6, .int res), (5, .int 0), (0, .ref b), (1, .ref (ad 0 0)), (2, .ref (am 0)), (3, .ref o), (4, .int (nI i))]) hx hb dL_law_1170 hl (by decide) rfl (fun ls hl => ?_)
    refine lv_aload_n hx hb dL_law_1172 rfl (lv_at hl 4 rfl) ?_
    have pq := perm_b (cOut g o (vp_updL out 0 res.toInt64)) (cMo g am mo') (wBR g ad tx is wa st hi)
    refine aft_p (st1 := [.int (Mo_thrown mo')]) (ws' := wLaw g ad am o tx is wa st hi mo' (vp_updL out 0 res.toInt64)) rfl pq (perm_b (cOut g o (vp_updL out 0 res.toInt64)) (cMo g am mo') (wBR g ad tx is wa st hi)).symm (runV (As := []) (rest := []) ⟨hx, hb, hml, hown, hts⟩ (kX6_thrown l g am (res := Mo_thrown mo') rfl) (cwV 0 hts gL_law_X6_thrown rfl rfl rfl hdX6_thrown ⟨Nat.le_of_ble_eq_true rfl, Nat.le_of_ble_eq_true rfl⟩) hK hN (hP.perm pq).left (hD.perm pq).left (va_recv hK hP (ci := 6) (q0 := 1) rfl rfl) rfl hl.1 rfl (Nat.le_of_ble_eq_true rfl) dL_law_1173 ⟨hro.1, hro.2⟩) hP hD hS hA (fun H locs hP hD hS => ?_)
    refine lv_iload hx hb dL_law_1176 (lv_at hl 1 rfl) ?_
    refine lv_icmp_eq (tgt := 1183) hx hb dL_law_1178 (by decide) (fun _ => ?_) (fun c9 => absurd h7 c9)
    refine lv_iload hx hb dL_law_1183 (lv_at hl 1 rfl) ?_
    refine lv_if_ne (tgt := 1200) hx hb dL_law_1185 (by decide) (fun c9 => absurd rfl c9) (fun _ => ?_)
    refine lv_aload_n hx hb dL_law_1188 rfl (lv_at hl 5 rfl) ?_
    refine lv_iconst (v := 0) hx hb dL_law_1189 (by decide) ?_
    refine va_lald hx hb hK hP 0 2 rfl rfl (inb_in (i := 0) (n := 1) (by decide)) dL_law_1190 ?_
    refine lv_eql (z := res.toInt64) rfl ?_
    refine lv_iload hx hb dL_law_1191 (lv_at hl 0 rfl) ?_
    refine lv_i2l (v := res.toInt64) hx hb dL_law_1193 rfl ?_
    refine W.lcmp hx hb dL_law_1194 ?_
    refine lv_if_eq (tgt := 1200) hx hb dL_law_1195 (by decide) (fun _ => ?_) (fun c9 => absurd (cmp_self _) c9)
    refine lv_goto (tgt := 1382) hx hb dL_law_1200 (by decide) ?_
    exact next _ _ _ _ _ _ _ _ _ _ hJ' hP hD hS (lv_sub hl [2, 3, 4, 5, 6] rfl)
  · refine lv_aload_n hx hb dL_law_1135 rfl (lv_at hl 1 rfl) ?_
    refine lv_aload_n hx hb dL_law_1136 rfl (lv_at hl 0 rfl) ?_
    refine lv_iload hx hb dL_law_1137 (lv_at hl 4 rfl) ?_
    refine lv_iconst (v := 1) hx hb dL_law_1139 (by decide) ?_
    refine lv_iadd hx hb dL_law_1140 ?_
    refine lv_eqi (z := nI (i + 1)) (nI_add i 1) ?_
    refine va_sld hx hb hXs hbl hbA hS (vp_in_nI (by omega) (by omega)) dL_law_1141 ?_
    refine lv_aload_n hx hb dL_law_1142 rfl (lv_at hl 0 rfl) ?_
    refine lv_iload hx hb dL_law_1143 (lv_at hl 4 rfl) ?_
    refine lv_iconst (v := 2) hx hb dL_law_1145 (by decide) ?_
    refine lv_iadd hx hb dL_law_1146 ?_
    refine lv_eqi (z := nI (i + 2)) (nI_add i 2) ?_
    refine va_sld hx hb hXs hbl hbA hS (vp_in_nI (by omega) (by omega)) dL_law_1147 ?_
    refine lv_aload_n hx hb dL_law_1148 rfl (lv_at hl 3 rfl) ?_
    have pq := perm_a (cOut g o out) (cMo g am mo) (wBR g ad tx is wa st hi)
    refine aftm_p (st1 := [.int 1]) (ws' := wLaw g ad am o tx is wa st hi mo out) rfl pq (perm_a (cOut g o out) (cMo g am mo) (wBR g ad tx is wa st hi)).symm (runL (As := [.ref (ad 0 0), .int (xs (nI (i + 1)).toNatClampNeg), .int (xs (nI (i + 2)).toNatClampNeg), .ref o]) (rest := []) ⟨hx, hb, hml, hown, hts⟩ (wL_plain_1 l hst g ad o (out := out) h5) (vx_cwSW 4 hts gL_law_L_plain rfl rfl rfl hdL_plain ⟨Nat.le_of_ble_eq_true rfl, Nat.le_of_ble_eq_true rfl⟩) hK hN hX hZ (hP.perm pq).left (hD.perm pq).left hS hA rfl hl.1 rfl (Nat.le_of_ble_eq_true rfl) dL_law_1149 hro) hP hD hS hA (fun H locs hP hD hS => ?_)
    refine lv_istore (lv' := [(5, .int 1), (0, .ref b), (1, .ref (ad 0 0)), (2, .ref (am 0)), (3, .ref o), (4, .int (nI i))]) hx hb dL_law_1152 hl (by decide) rfl (fun ls hl => ?_)
    refine lv_aload_n hx hb dL_law_1154 rfl (lv_at hl 3 rfl) ?_
    refine lv_aload_n hx hb dL_law_1155 rfl (lv_at hl 1 rfl) ?_
    refine lv_iload hx hb dL_law_1156 (lv_at hl 5 rfl) ?_
    refine lv_iconst (v := 1) hx hb dL_law_1158 (by decide) ?_
    refine lv_iadd hx hb dL_law_1159 ?_
    refine lv_eqi (z := nI (i + 1)) (nI_add i 1) ?_
    refine va_sld hx hb hXs hbl hbA hS (vp_in_nI (by omega) (by omega)) dL_law_1160 ?_
    refine lv_aload_n hx hb dL_law_1161 rfl (lv_at hl 1 rfl) ?_
    refine lv_iload hx hb dL_law_1162 (lv_at hl 5 rfl) ?_
    refine lv_iconst (v := 2) hx hb dL_law_1164 (by decide) ?_
    refine lv_iadd hx hb dL_law_1165 ?_
    refine lv_eqi (z := nI (i + 2)) (nI_add i 2) ?_
    refine va_sld hx hb hXs hbl hbA hS (vp_in_nI (by omega) (by omega)) dL_law_1166 ?_
    have pq := perm_b (cOut g o out) (cMo g am mo) (wBR g ad tx is wa st hi)
    refine aft_p (st1 := [.int b9]) (ws' := wLaw g ad am o tx is wa st hi mo' out) rfl pq (perm_b (cOut g o out) (cMo g am mo') (wBR g ad tx is wa st hi)).symm (runV (As := [.int (xs (nI (i + 1)).toNatClampNeg), .int (xs (nI (i + 2)).toNatClampNeg)]) (rest := []) ⟨hx, hb, hml, hown, hts⟩ (kX6_plain l g am h6) (cwV 2 hts gL_law_X6_plain rfl rfl rfl hdX6_plain ⟨Nat.le_of_ble_eq_true rfl, Nat.le_of_ble_eq_true rfl⟩) hK hN (hP.perm pq).left (hD.perm pq).left (va_recv hK hP (ci := 6) (q0 := 1) rfl rfl) rfl hl.1 rfl (Nat.le_of_ble_eq_true rfl) dL_law_1167 ⟨hro.1, hro.2⟩) hP hD hS hA (fun H locs hP hD hS => ?_)
    refine lv_istore (lv' := [(6, .int b9), (5, .int 1), (0, .ref b), (1, .ref (ad 0 0)), (2, .ref (am 0)), (3, .ref o), (4, .int (nI i))]) hx hb dL_law_1170 hl (by decide) rfl (fun ls hl => ?_)
    refine lv_aload_n hx hb dL_law_1172 rfl (lv_at hl 4 rfl) ?_
    have pq := perm_b (cOut g o out) (cMo g am mo') (wBR g ad tx is wa st hi)
    refine aft_p (st1 := [.int (Mo_thrown mo')]) (ws' := wLaw g ad am o tx is wa st hi mo' out) rfl pq (perm_b (cOut g o out) (cMo g am mo') (wBR g ad tx is wa st hi)).symm (runV (As := []) (rest := []) ⟨hx, hb, hml, hown, hts⟩ (kX6_thrown l g am (res := Mo_thrown mo') rfl) (cwV 0 hts gL_law_X6_thrown rfl rfl rfl hdX6_thrown ⟨Nat.le_of_ble_eq_true rfl, Nat.le_of_ble_eq_true rfl⟩) hK hN (hP.perm pq).left (hD.perm pq).left (va_recv hK hP (ci := 6) (q0 := 1) rfl rfl) rfl hl.1 rfl (Nat.le_of_ble_eq_true rfl) dL_law_1173 ⟨hro.1, hro.2⟩) hP hD hS hA (fun H locs hP hD hS => ?_)
    refine lv_iload hx hb dL_law_1176 (lv_at hl 1 rfl) ?_
    refine lv_icmp_eq (tgt := 1183) hx hb dL_law_1178 (by decide) (fun _ => ?_) (fun c9 => absurd h7 c9)
    refine lv_iload hx hb dL_law_1183 (lv_at hl 1 rfl) ?_
    refine lv_if_ne (tgt := 1200) hx hb dL_law_1185 (by decide) (fun _ => ?_) (fun c9 => absurd c9 (by decide))
    refine lv_goto (tgt := 1382) hx hb dL_law_1200 (by decide) ?_
    exact next _ _ _ _ _ _ _ _ _ _ hJ' hP hD hS (lv_sub hl [2, 3, 4, 5, 6] rfl)
set_option maxRecDepth 100000 in
set_option maxHeartbeats 8000000 in
theorem law_ifPut {p : Program} {l : Launch} {e : Env} {s : State} {m : MethodId} {args : Array Value} {below : List Frame} {meth : Method} {c : Code} {b L : Nat} {xs : Nat → Int32} {g : GG} {A : Nat → Prop} {Q : State → Prop} (hst : l.stackTraces = false) (LC : LCx p s m args c b L xs g A) {J : Nat → Tx → Is → Wa → St → Hi → Mo → Prop} (ad : Nat → Nat → Nat) (am : Nat → Nat) (o i j : Nat) {tx : Tx} {is : Is} {wa : Wa} {st : St} {hi : Hi} {mo : Mo} {out : Nat → Int64} {H : Heap} {locs : List Loc} {ls : Array Slot} (cells slots : Nat) (hL : L ≤ 2048) (hiL : i + 4 ≤ L) (hj : j < 512) (hro : cells + 1 ≤ 607796 ∧ slots + 6 ≤ 7272716) (hJ : J j tx is wa st hi mo) (hP : va_P g.1 vwCl (wLaw g ad am o tx is wa st hi mo out) H) (hD : va_D A (wLaw g ad am o tx is wa st hi mo out)) (hS : va_S A s.heap H locs) (hl : lv_has ls 9 [(0, .ref b), (1, .ref (ad 0 0)), (2, .ref (am 0)), (3, .ref o), (4, .int (nI i))]) (hop : Op_ifPut J) (next : ∀ (tx : Tx) (is : Is) (wa : Wa) (st : St) (hi : Hi) (mo : Mo) (out : Nat → Int64) (H : Heap) (locs : List Loc) (ls : Array Slot), J (j + 1) tx is wa st hi mo → va_P g.1 vwCl (wLaw g ad am o tx is wa st hi mo out) H → va_D A (wLaw g ad am o tx is wa st hi mo out) → va_S A s.heap H locs → lv_has ls 9 [(0, .ref b), (1, .ref (ad 0 0)), (2, .ref (am 0)), (3, .ref o), (4, .int (nI i))] → W p l e room_1 s m args below meth c H locs (cells + 1) (slots + 6) Q (F0 m 1382 ls [])) : W p l e room_1 s m args below meth c H locs cells slots Q (F0 m 1203 ls []) := by
  obtain ⟨hx, hb, hml, hown, hts, hK, hN, hX, hA, hXs, hbl, hbA, hZ⟩ := LC
  rcases hop j tx is wa st hi mo (xs (nI (i + 1)).toNatClampNeg) (xs (nI (i + 2)).toNatClampNeg) hj hJ with ⟨res, wa', mo', h5, h6, h7, hJ'⟩ | ⟨b9, mo', h5, h6, h7, hJ'⟩ | ⟨b9, mo', h5, h6, h7, hJ'⟩
  · refine lv_aload_n hx hb dL_law_1203 rfl (lv_at hl 1 rfl) ?_
    refine lv_aload_n hx hb dL_law_1204 rfl (lv_at hl 0 rfl) ?_
    refine lv_iload hx hb dL_law_1205 (lv_at hl 4 rfl) ?_
    refine lv_iconst (v := 1) hx hb dL_law_1207 (by decide) ?_
    refine lv_iadd hx hb dL_law_1208 ?_
    refine lv_eqi (z := nI (i + 1)) (nI_add i 1) ?_
    refine va_sld hx hb hXs hbl hbA hS (vp_in_nI (by omega) (by omega)) dL_law_1209 ?_
    refine lv_aload_n hx hb dL_law_1210 rfl (lv_at hl 0 rfl) ?_
    refine lv_iload hx hb dL_law_1211 (lv_at hl 4 rfl) ?_
    refine lv_iconst (v := 2) hx hb dL_law_1213 (by decide) ?_
    refine lv_iadd hx hb dL_law_1214 ?_
    refine lv_eqi (z := nI (i + 2)) (nI_add i 2) ?_
    refine va_sld hx hb hXs hbl hbA hS (vp_in_nI (by omega) (by omega)) dL_law_1215 ?_
    refine lv_aload_n hx hb dL_law_1216 rfl (lv_at hl 3 rfl) ?_
    have pq := perm_a (cOut g o out) (cMo g am mo) (wBR g ad tx is wa st hi)
    refine aftm_p (st1 := [.int 0]) (ws' := wLaw g ad am o tx is wa' st hi mo (vp_updL out 0 res.toInt64)) rfl pq (perm_a (cOut g o (vp_updL out 0 res.toInt64)) (cMo g am mo) (wBR g ad tx is wa' st hi)).symm (runL (As := [.ref (ad 0 0), .int (xs (nI (i + 1)).toNatClampNeg), .int (xs (nI (i + 2)).toNatClampNeg), .ref o]) (rest := []) ⟨hx, hb, hml, hown, hts⟩ (wL_ifPut l hst g ad o (out := out) h5) (vx_cwSW 4 hts gL_law_L_ifPut rfl rfl rfl hdL_ifPut ⟨Nat.le_of_ble_eq_true rfl, Nat.le_of_ble_eq_true rfl⟩) hK hN hX hZ (hP.perm pq).left (hD.perm pq).left hS hA rfl hl.1 rfl (Nat.le_of_ble_eq_true rfl) dL_law_1217 hro) hP hD hS hA (fun H locs hP hD hS => ?_)
    refine lv_istore (lv' := [(5, .int 0), (0, .ref b), (1, .ref (ad 0 0)), (2, .ref (am 0)), (3, .ref o), (4, .int (nI i))]) hx hb dL_law_1220 hl (by decide) rfl (fun ls hl => ?_)
    refine lv_aload_n hx hb dL_law_1222 rfl (lv_at hl 3 rfl) ?_
    refine lv_aload_n hx hb dL_law_1223 rfl (lv_at hl 1 rfl) ?_
    refine lv_iload hx hb dL_law_1224 (lv_at hl 5 rfl) ?_
    refine lv_iconst (v := 1) hx hb dL_law_1226 (by decide) ?_
    refine lv_iadd hx hb dL_law_1227 ?_
    refine lv_eqi (z := nI (i + 1)) (nI_add i 1) ?_
    refine va_sld hx hb hXs hbl hbA hS (vp_in_nI (by omega) (by omega)) dL_law_1228 ?_
    refine lv_aload_n hx hb dL_law_1229 rfl (lv_at hl 1 rfl) ?_
    refine lv_iload hx hb dL_law_1230 (lv_at hl 5 rfl) ?_
    refine lv_iconst (v := 2) hx hb dL_law_1232 (by decide) ?_
    refine lv_iadd hx hb dL_law_1233 ?_
    refine lv_eqi (z := nI (i + 2)) (nI_add i 2) ?_
    refine va_sld hx hb hXs hbl hbA hS (vp_in_nI (by omega) (by omega)) dL_law_1234 ?_
    have pq := perm_b (cOut g o (vp_updL out 0 res.toInt64)) (cMo g am mo) (wBR g ad tx is wa' st hi)
    refine aft_p (st1 := [.int res]) (ws' := wLaw g ad am o tx is wa' st hi mo' (vp_updL out 0 res.toInt64)) rfl pq (perm_b (cOut g o (vp_updL out 0 res.toInt64)) (cMo g am mo') (wBR g ad tx is wa' st hi)).symm (runV (As := [.int (xs (nI (i + 1)).toNatClampNeg), .int (xs (nI (i + 2)).toNatClampNeg)]) (rest := []) ⟨hx, hb, hml, hown, hts⟩ (kX6_ifPut l g am h6) (cwV 2 hts gL_law_X6_ifPut rfl rfl rfl hdX6_ifPut ⟨Nat.le_of_ble_eq_true rfl, Nat.le_of_ble_eq_true rfl⟩) hK hN (hP.perm pq).left (hD.perm pq).left (va_recv hK hP (ci := 6) (q0 := 1) rfl rfl) rfl hl.1 rfl (Nat.le_of_ble_eq_true rfl) dL_law_1235 ⟨hro.1, hro.2⟩) hP hD hS hA (fun H locs hP hD hS => ?_)
    refine lv_istore (lv' := [(6, .int res), (5, .int 0), (0, .ref b), (1, .ref (ad 0 0)), (2, .ref (am 0)), (3, .ref o), (4, .int (nI i))]) hx hb dL_law_1238 hl (by decide) rfl (fun ls hl => ?_)
    refine lv_aload_n hx hb dL_law_1240 rfl (lv_at hl 4 rfl) ?_
    have pq := perm_b (cOut g o (vp_updL out 0 res.toInt64)) (cMo g am mo') (wBR g ad tx is wa' st hi)
    refine aft_p (st1 := [.int (Mo_thrown mo')]) (ws' := wLaw g ad am o tx is wa' st hi mo' (vp_updL out 0 res.toInt64)) rfl pq (perm_b (cOut g o (vp_updL out 0 res.toInt64)) (cMo g am mo') (wBR g ad tx is wa' st hi)).symm (runV (As := []) (rest := []) ⟨hx, hb, hml, hown, hts⟩ (kX6_thrown l g am (res := Mo_thrown mo') rfl) (cwV 0 hts gL_law_X6_thrown rfl rfl rfl hdX6_thrown ⟨Nat.le_of_ble_eq_true rfl, Nat.le_of_ble_eq_true rfl⟩) hK hN (hP.perm pq).left (hD.perm pq).left (va_recv hK hP (ci := 6) (q0 := 1) rfl rfl) rfl hl.1 rfl (Nat.le_of_ble_eq_true rfl) dL_law_1241 ⟨hro.1, hro.2⟩) hP hD hS hA (fun H locs hP hD hS => ?_)
    refine lv_iload hx hb dL_law_1244 (lv_at hl 1 rfl) ?_
    refine lv_icmp_eq (tgt := 1251) hx hb dL_law_1246 (by decide) (fun _ => ?_) (fun c9 => absurd h7 c9)
    refine lv_iload hx hb dL_law_1251 (lv_at hl 1 rfl) ?_
    refine lv_if_ne (tgt := 1268) hx hb dL_law_1253 (by decide) (fun c9 => absurd rfl c9) (fun _ => ?_)
    refine lv_aload_n hx hb dL_law_1256 rfl (lv_at hl 5 rfl) ?_
    refine lv_iconst (v := 0) hx hb dL_law_1257 (by decide) ?_
    refine va_lald hx hb hK hP 0 2 rfl rfl (inb_in (i := 0) (n := 1) (by decide)) dL_law_1258 ?_
    refine lv_eql (z := res.toInt64) rfl ?_
    refine lv_iload hx hb dL_law_1259 (lv_at hl 0 rfl) ?_
    refine lv_i2l (v := res.toInt64) hx hb dL_law_1261 rfl ?_
    refine W.lcmp hx hb dL_law_1262 ?_
    refine lv_if_eq (tgt := 1268) hx hb dL_law_1263 (by decide) (fun _ => ?_) (fun c9 => absurd (cmp_self _) c9)
    refine lv_goto (tgt := 1382) hx hb dL_law_1268 (by decide) ?_
    exact next _ _ _ _ _ _ _ _ _ _ hJ' hP hD hS (lv_sub hl [2, 3, 4, 5, 6] rfl)
  · refine lv_aload_n hx hb dL_law_1203 rfl (lv_at hl 1 rfl) ?_
    refine lv_aload_n hx hb dL_law_1204 rfl (lv_at hl 0 rfl) ?_
    refine lv_iload hx hb dL_law_1205 (lv_at hl 4 rfl) ?_
    refine lv_iconst (v := 1) hx hb dL_law_1207 (by decide) ?_
    refine lv_iadd hx hb dL_law_1208 ?_
    refine lv_eqi (z := nI (i + 1)) (nI_add i 1) ?_
    refine va_sld hx hb hXs hbl hbA hS (vp_in_nI (by omega) (by omega)) dL_law_1209 ?_
    refine lv_aload_n hx hb dL_law_1210 rfl (lv_at hl 0 rfl) ?_
    refine lv_iload hx hb dL_law_1211 (lv_at hl 4 rfl) ?_
    refine lv_iconst (v := 2) hx hb dL_law_1213 (by decide) ?_
    refine lv_iadd hx hb dL_law_1214 ?_
    refine lv_eqi (z := nI (i + 2)) (nI_add i 2) ?_
    refine va_sld hx hb hXs hbl hbA hS (vp_in_nI (by omega) (by omega)) dL_law_1215 ?_
    refine lv_aload_n hx hb dL_law_1216 rfl (lv_at hl 3 rfl) ?_
    have pq := perm_a (cOut g o out) (cMo g am mo) (wBR g ad tx is wa st hi)
    refine aftm_p (st1 := [.int 1]) (ws' := wLaw g ad am o tx is wa st hi mo out) rfl pq (perm_a (cOut g o out) (cMo g am mo) (wBR g ad tx is wa st hi)).symm (runL (As := [.ref (ad 0 0), .int (xs (nI (i + 1)).toNatClampNeg), .int (xs (nI (i + 2)).toNatClampNeg), .ref o]) (rest := []) ⟨hx, hb, hml, hown, hts⟩ (wL_ifPut_1 l hst g ad o (out := out) h5) (vx_cwSW 4 hts gL_law_L_ifPut rfl rfl rfl hdL_ifPut ⟨Nat.le_of_ble_eq_true rfl, Nat.le_of_ble_eq_true rfl⟩) hK hN hX hZ (hP.perm pq).left (hD.perm pq).left hS hA rfl hl.1 rfl (Nat.le_of_ble_eq_true rfl) dL_law_1217 hro) hP hD hS hA (fun H locs hP hD hS => ?_)
    refine lv_istore (lv' := [(5, .int 1), (0, .ref b), (1, .ref (ad 0 0)), (2, .ref (am 0)), (3, .ref o), (4, .int (nI i))]) hx hb dL_law_1220 hl (by decide) rfl (fun ls hl => ?_)
    refine lv_aload_n hx hb dL_law_1222 rfl (lv_at hl 3 rfl) ?_
    refine lv_aload_n hx hb dL_law_1223 rfl (lv_at hl 1 rfl) ?_
    refine lv_iload hx hb dL_law_1224 (lv_at hl 5 rfl) ?_
    refine lv_iconst (v := 1) hx hb dL_law_1226 (by decide) ?_
    refine lv_iadd hx hb dL_law_1227 ?_
    refine lv_eqi (z := nI (i + 1)) (nI_add i 1) ?_
    refine va_sld hx hb hXs hbl hbA hS (vp_in_nI (by omega) (by omega)) dL_law_1228 ?_
    refine lv_aload_n hx hb dL_law_1229 rfl (lv_at hl 1 rfl) ?_
    refine lv_iload hx hb dL_law_1230 (lv_at hl 5 rfl) ?_
    refine lv_iconst (v := 2) hx hb dL_law_1232 (by decide) ?_
    refine lv_iadd hx hb dL_law_1233 ?_
    refine lv_eqi (z := nI (i + 2)) (nI_add i 2) ?_
    refine va_sld hx hb hXs hbl hbA hS (vp_in_nI (by omega) (by omega)) dL_law_1234 ?_
    have pq := perm_b (cOut g o out) (cMo g am mo) (wBR g ad tx is wa st hi)
    refine aft_p (st1 := [.int b9]) (ws' := wLaw g ad am o tx is wa st hi mo' out) rfl pq (perm_b (cOut g o out) (cMo g am mo') (wBR g ad tx is wa st hi)).symm (runV (As := [.int (xs (nI (i + 1)).toNatClampNeg), .int (xs (nI (i + 2)).toNatClampNeg)]) (rest := []) ⟨hx, hb, hml, hown, hts⟩ (kX6_ifPut l g am h6) (cwV 2 hts gL_law_X6_ifPut rfl rfl rfl hdX6_ifPut ⟨Nat.le_of_ble_eq_true rfl, Nat.le_of_ble_eq_true rfl⟩) hK hN (hP.perm pq).left (hD.perm pq).left (va_recv hK hP (ci := 6) (q0 := 1) rfl rfl) rfl hl.1 rfl (Nat.le_of_ble_eq_true rfl) dL_law_1235 ⟨hro.1, hro.2⟩) hP hD hS hA (fun H locs hP hD hS => ?_)
    refine lv_istore (lv' := [(6, .int b9), (5, .int 1), (0, .ref b), (1, .ref (ad 0 0)), (2, .ref (am 0)), (3, .ref o), (4, .int (nI i))]) hx hb dL_law_1238 hl (by decide) rfl (fun ls hl => ?_)
    refine lv_aload_n hx hb dL_law_1240 rfl (lv_at hl 4 rfl) ?_
    have pq := perm_b (cOut g o out) (cMo g am mo') (wBR g ad tx is wa st hi)
    refine aft_p (st1 := [.int (Mo_thrown mo')]) (ws' := wLaw g ad am o tx is wa st hi mo' out) rfl pq (perm_b (cOut g o out) (cMo g am mo') (wBR g ad tx is wa st hi)).symm (runV (As := []) (rest := []) ⟨hx, hb, hml, hown, hts⟩ (kX6_thrown l g am (res := Mo_thrown mo') rfl) (cwV 0 hts gL_law_X6_thrown rfl rfl rfl hdX6_thrown ⟨Nat.le_of_ble_eq_true rfl, Nat.le_of_ble_eq_true rfl⟩) hK hN (hP.perm pq).left (hD.perm pq).left (va_recv hK hP (ci := 6) (q0 := 1) rfl rfl) rfl hl.1 rfl (Nat.le_of_ble_eq_true rfl) dL_law_1241 ⟨hro.1, hro.2⟩) hP hD hS hA (fun H locs hP hD hS => ?_)
    refine lv_iload hx hb dL_law_1244 (lv_at hl 1 rfl) ?_
    refine lv_icmp_eq (tgt := 1251) hx hb dL_law_1246 (by decide) (fun _ => ?_) (fun c9 => absurd h7 c9)
    refine lv_iload hx hb dL_law_1251 (lv_at hl 1 rfl) ?_
    refine lv_if_ne (tgt := 1268) hx hb dL_law_1253 (by decide) (fun _ => ?_) (fun c9 => absurd c9 (by decide))
    refine lv_goto (tgt := 1382) hx hb dL_law_1268 (by decide) ?_
    exact next _ _ _ _ _ _ _ _ _ _ hJ' hP hD hS (lv_sub hl [2, 3, 4, 5, 6] rfl)
  · refine lv_aload_n hx hb dL_law_1203 rfl (lv_at hl 1 rfl) ?_
    refine lv_aload_n hx hb dL_law_1204 rfl (lv_at hl 0 rfl) ?_
    refine lv_iload hx hb dL_law_1205 (lv_at hl 4 rfl) ?_
    refine lv_iconst (v := 1) hx hb dL_law_1207 (by decide) ?_
    refine lv_iadd hx hb dL_law_1208 ?_
    refine lv_eqi (z := nI (i + 1)) (nI_add i 1) ?_
    refine va_sld hx hb hXs hbl hbA hS (vp_in_nI (by omega) (by omega)) dL_law_1209 ?_
    refine lv_aload_n hx hb dL_law_1210 rfl (lv_at hl 0 rfl) ?_
    refine lv_iload hx hb dL_law_1211 (lv_at hl 4 rfl) ?_
    refine lv_iconst (v := 2) hx hb dL_law_1213 (by decide) ?_
    refine lv_iadd hx hb dL_law_1214 ?_
    refine lv_eqi (z := nI (i + 2)) (nI_add i 2) ?_
    refine va_sld hx hb hXs hbl hbA hS (vp_in_nI (by omega) (by omega)) dL_law_1215 ?_
    refine lv_aload_n hx hb dL_law_1216 rfl (lv_at hl 3 rfl) ?_
    have pq := perm_a (cOut g o out) (cMo g am mo) (wBR g ad tx is wa st hi)
    refine aftm_p (st1 := [.int 2]) (ws' := wLaw g ad am o tx is wa st hi mo out) rfl pq (perm_a (cOut g o out) (cMo g am mo) (wBR g ad tx is wa st hi)).symm (runL (As := [.ref (ad 0 0), .int (xs (nI (i + 1)).toNatClampNeg), .int (xs (nI (i + 2)).toNatClampNeg), .ref o]) (rest := []) ⟨hx, hb, hml, hown, hts⟩ (wL_ifPut_2 l hst g ad o (out := out) h5) (vx_cwSW 4 hts gL_law_L_ifPut rfl rfl rfl hdL_ifPut ⟨Nat.le_of_ble_eq_true rfl, Nat.le_of_ble_eq_true rfl⟩) hK hN hX hZ (hP.perm pq).left (hD.perm pq).left hS hA rfl hl.1 rfl (Nat.le_of_ble_eq_true rfl) dL_law_1217 hro) hP hD hS hA (fun H locs hP hD hS => ?_)
    refine lv_istore (lv' := [(5, .int 2), (0, .ref b), (1, .ref (ad 0 0)), (2, .ref (am 0)), (3, .ref o), (4, .int (nI i))]) hx hb dL_law_1220 hl (by decide) rfl (fun ls hl => ?_)
    refine lv_aload_n hx hb dL_law_1222 rfl (lv_at hl 3 rfl) ?_
    refine lv_aload_n hx hb dL_law_1223 rfl (lv_at hl 1 rfl) ?_
    refine lv_iload hx hb dL_law_1224 (lv_at hl 5 rfl) ?_
    refine lv_iconst (v := 1) hx hb dL_law_1226 (by decide) ?_
    refine lv_iadd hx hb dL_law_1227 ?_
    refine lv_eqi (z := nI (i + 1)) (nI_add i 1) ?_
    refine va_sld hx hb hXs hbl hbA hS (vp_in_nI (by omega) (by omega)) dL_law_1228 ?_
    refine lv_aload_n hx hb dL_law_1229 rfl (lv_at hl 1 rfl) ?_
    refine lv_iload hx hb dL_law_1230 (lv_at hl 5 rfl) ?_
    refine lv_iconst (v := 2) hx hb dL_law_1232 (by decide) ?_
    refine lv_iadd hx hb dL_law_1233 ?_
    refine lv_eqi (z := nI (i + 2)) (nI_add i 2) ?_
    refine va_sld hx hb hXs hbl hbA hS (vp_in_nI (by omega) (by omega)) dL_law_1234 ?_
    have pq := perm_b (cOut g o out) (cMo g am mo) (wBR g ad tx is wa st hi)
    refine aft_p (st1 := [.int b9]) (ws' := wLaw g ad am o tx is wa st hi mo' out) rfl pq (perm_b (cOut g o out) (cMo g am mo') (wBR g ad tx is wa st hi)).symm (runV (As := [.int (xs (nI (i + 1)).toNatClampNeg), .int (xs (nI (i + 2)).toNatClampNeg)]) (rest := []) ⟨hx, hb, hml, hown, hts⟩ (kX6_ifPut l g am h6) (cwV 2 hts gL_law_X6_ifPut rfl rfl rfl hdX6_ifPut ⟨Nat.le_of_ble_eq_true rfl, Nat.le_of_ble_eq_true rfl⟩) hK hN (hP.perm pq).left (hD.perm pq).left (va_recv hK hP (ci := 6) (q0 := 1) rfl rfl) rfl hl.1 rfl (Nat.le_of_ble_eq_true rfl) dL_law_1235 ⟨hro.1, hro.2⟩) hP hD hS hA (fun H locs hP hD hS => ?_)
    refine lv_istore (lv' := [(6, .int b9), (5, .int 2), (0, .ref b), (1, .ref (ad 0 0)), (2, .ref (am 0)), (3, .ref o), (4, .int (nI i))]) hx hb dL_law_1238 hl (by decide) rfl (fun ls hl => ?_)
    refine lv_aload_n hx hb dL_law_1240 rfl (lv_at hl 4 rfl) ?_
    have pq := perm_b (cOut g o out) (cMo g am mo') (wBR g ad tx is wa st hi)
    refine aft_p (st1 := [.int (Mo_thrown mo')]) (ws' := wLaw g ad am o tx is wa st hi mo' out) rfl pq (perm_b (cOut g o out) (cMo g am mo') (wBR g ad tx is wa st hi)).symm (runV (As := []) (rest := []) ⟨hx, hb, hml, hown, hts⟩ (kX6_thrown l g am (res := Mo_thrown mo') rfl) (cwV 0 hts gL_law_X6_thrown rfl rfl rfl hdX6_thrown ⟨Nat.le_of_ble_eq_true rfl, Nat.le_of_ble_eq_true rfl⟩) hK hN (hP.perm pq).left (hD.perm pq).left (va_recv hK hP (ci := 6) (q0 := 1) rfl rfl) rfl hl.1 rfl (Nat.le_of_ble_eq_true rfl) dL_law_1241 ⟨hro.1, hro.2⟩) hP hD hS hA (fun H locs hP hD hS => ?_)
    refine lv_iload hx hb dL_law_1244 (lv_at hl 1 rfl) ?_
    refine lv_icmp_eq (tgt := 1251) hx hb dL_law_1246 (by decide) (fun _ => ?_) (fun c9 => absurd h7 c9)
    refine lv_iload hx hb dL_law_1251 (lv_at hl 1 rfl) ?_
    refine lv_if_ne (tgt := 1268) hx hb dL_law_1253 (by decide) (fun _ => ?_) (fun c9 => absurd c9 (by decide))
    refine lv_goto (tgt := 1382) hx hb dL_law_1268 (by decide) ?_
    exact next _ _ _ _ _ _ _ _ _ _ hJ' hP hD hS (lv_sub hl [2, 3, 4, 5, 6] rfl)
set_option maxRecDepth 100000 in
set_option maxHeartbeats 8000000 in
theorem law_safest {p : Program} {l : Launch} {e : Env} {s : State} {m : MethodId} {args : Array Value} {below : List Frame} {meth : Method} {c : Code} {b L : Nat} {xs : Nat → Int32} {g : GG} {A : Nat → Prop} {Q : State → Prop} (hst : l.stackTraces = false) (LC : LCx p s m args c b L xs g A) {J : Nat → Tx → Is → Wa → St → Hi → Mo → Prop} (ad : Nat → Nat → Nat) (am : Nat → Nat) (o i j : Nat) {tx : Tx} {is : Is} {wa : Wa} {st : St} {hi : Hi} {mo : Mo} {out : Nat → Int64} {H : Heap} {locs : List Loc} {ls : Array Slot} (cells slots : Nat) (hL : L ≤ 2048) (hiL : i + 4 ≤ L) (hj : j < 512) (hro : cells + 1 ≤ 607796 ∧ slots + 6 ≤ 7272716) (hJ : J j tx is wa st hi mo) (hP : va_P g.1 vwCl (wLaw g ad am o tx is wa st hi mo out) H) (hD : va_D A (wLaw g ad am o tx is wa st hi mo out)) (hS : va_S A s.heap H locs) (hl : lv_has ls 9 [(0, .ref b), (1, .ref (ad 0 0)), (2, .ref (am 0)), (3, .ref o), (4, .int (nI i))]) (hop : Op_safest J) (next : ∀ (tx : Tx) (is : Is) (wa : Wa) (st : St) (hi : Hi) (mo : Mo) (out : Nat → Int64) (H : Heap) (locs : List Loc) (ls : Array Slot), J (j + 1) tx is wa st hi mo → va_P g.1 vwCl (wLaw g ad am o tx is wa st hi mo out) H → va_D A (wLaw g ad am o tx is wa st hi mo out) → va_S A s.heap H locs → lv_has ls 9 [(0, .ref b), (1, .ref (ad 0 0)), (2, .ref (am 0)), (3, .ref o), (4, .int (nI i))] → W p l e room_1 s m args below meth c H locs (cells + 1) (slots + 6) Q (F0 m 1382 ls [])) : W p l e room_1 s m args below meth c H locs cells slots Q (F0 m 1271 ls []) := by
  obtain ⟨hx, hb, hml, hown, hts, hK, hN, hX, hA, hXs, hbl, hbA, hZ⟩ := LC
  obtain ⟨res, mo', h5, h6, hJ'⟩ := hop j tx is wa st hi mo hj hJ
  refine lv_aload_n hx hb dL_law_1271 rfl (lv_at hl 1 rfl) ?_
  have pq := perm_c (cOut g o out) (cMo g am mo) (wBR g ad tx is wa st hi)
  refine aft_p (st1 := [.int res]) (ws' := wLaw g ad am o tx is wa st hi mo out) rfl pq (perm_c (cOut g o out) (cMo g am mo) (wBR g ad tx is wa st hi)).symm (runV (As := []) (rest := []) ⟨hx, hb, hml, hown, hts⟩ (kX5_safest l g ad h5) (cwV 0 hts gL_law_X5_safest rfl rfl rfl hdX5_safest ⟨Nat.le_of_ble_eq_true rfl, Nat.le_of_ble_eq_true rfl⟩) hK hN (hP.perm pq).left (hD.perm pq).left (va_recv hK hP (ci := 5) (q0 := 7) rfl rfl) rfl hl.1 rfl (Nat.le_of_ble_eq_true rfl) dL_law_1272 ⟨by have := hro.1; show cells ≤ 607796; omega, by have := hro.2; show slots ≤ 7272716; omega⟩) hP hD hS hA (fun H locs hP hD hS => ?_)
  refine lv_aload_n hx hb dL_law_1275 rfl (lv_at hl 2 rfl) ?_
  have pq := perm_b (cOut g o out) (cMo g am mo) (wBR g ad tx is wa st hi)
  refine aft_p (st1 := [.int res, .int res]) (ws' := wLaw g ad am o tx is wa st hi mo' out) rfl pq (perm_b (cOut g o out) (cMo g am mo') (wBR g ad tx is wa st hi)).symm (runV (As := []) (rest := [.int res]) ⟨hx, hb, hml, hown, hts⟩ (kX6_safest l g am h6) (cwV 0 hts gL_law_X6_safest rfl rfl rfl hdX6_safest ⟨Nat.le_of_ble_eq_true rfl, Nat.le_of_ble_eq_true rfl⟩) hK hN (hP.perm pq).left (hD.perm pq).left (va_recv hK hP (ci := 6) (q0 := 1) rfl rfl) rfl hl.1 rfl (Nat.le_of_ble_eq_true rfl) dL_law_1276 ⟨by have := hro.1; show cells ≤ 607796; omega, by have := hro.2; show slots ≤ 7272716; omega⟩) hP hD hS hA (fun H locs hP hD hS => ?_)
  refine lv_icmp_eq (tgt := 1382) hx hb dL_law_1279 (by decide) (fun _ => ?_) (fun c9 => absurd rfl c9)
  refine W.widen (k := cells + 1) (n := slots + 6) (Nat.le_add_right _ _) (Nat.le_add_right _ _) ?_
  exact next _ _ _ _ _ _ _ _ _ _ hJ' hP hD hS (lv_sub hl [0, 1, 2, 3, 4] rfl)
set_option maxRecDepth 100000 in
set_option maxHeartbeats 8000000 in
theorem law_linkShare {p : Program} {l : Launch} {e : Env} {s : State} {m : MethodId} {args : Array Value} {below : List Frame} {meth : Method} {c : Code} {b L : Nat} {xs : Nat → Int32} {g : GG} {A : Nat → Prop} {Q : State → Prop} (hst : l.stackTraces = false) (LC : LCx p s m args c b L xs g A) {J : Nat → Tx → Is → Wa → St → Hi → Mo → Prop} (ad : Nat → Nat → Nat) (am : Nat → Nat) (o i j : Nat) {tx : Tx} {is : Is} {wa : Wa} {st : St} {hi : Hi} {mo : Mo} {out : Nat → Int64} {H : Heap} {locs : List Loc} {ls : Array Slot} (cells slots : Nat) (hL : L ≤ 2048) (hiL : i + 4 ≤ L) (hj : j < 512) (hro : cells + 1 ≤ 607796 ∧ slots + 6 ≤ 7272716) (hJ : J j tx is wa st hi mo) (hP : va_P g.1 vwCl (wLaw g ad am o tx is wa st hi mo out) H) (hD : va_D A (wLaw g ad am o tx is wa st hi mo out)) (hS : va_S A s.heap H locs) (hl : lv_has ls 9 [(0, .ref b), (1, .ref (ad 0 0)), (2, .ref (am 0)), (3, .ref o), (4, .int (nI i))]) (hop : Op_linkShare J) (next : ∀ (tx : Tx) (is : Is) (wa : Wa) (st : St) (hi : Hi) (mo : Mo) (out : Nat → Int64) (H : Heap) (locs : List Loc) (ls : Array Slot), J (j + 1) tx is wa st hi mo → va_P g.1 vwCl (wLaw g ad am o tx is wa st hi mo out) H → va_D A (wLaw g ad am o tx is wa st hi mo out) → va_S A s.heap H locs → lv_has ls 9 [(0, .ref b), (1, .ref (ad 0 0)), (2, .ref (am 0)), (3, .ref o), (4, .int (nI i))] → W p l e room_1 s m args below meth c H locs (cells + 1) (slots + 6) Q (F0 m 1382 ls [])) : W p l e room_1 s m args below meth c H locs cells slots Q (F0 m 1284 ls []) := by
  obtain ⟨hx, hb, hml, hown, hts, hK, hN, hX, hA, hXs, hbl, hbA, hZ⟩ := LC
  obtain ⟨res, mo', h5, h6, h8, hJ'⟩ := hop j tx is wa st hi mo hj hJ
  refine lv_aload_n hx hb dL_law_1284 rfl (lv_at hl 1 rfl) ?_
  have pq := perm_c (cOut g o out) (cMo g am mo) (wBR g ad tx is wa st hi)
  refine aft_p (st1 := [.double res]) (ws' := wLaw g ad am o tx is wa st hi mo out) rfl pq (perm_c (cOut g o out) (cMo g am mo) (wBR g ad tx is wa st hi)).symm (runV (As := []) (rest := []) ⟨hx, hb, hml, hown, hts⟩ (kX5_linkShare l g ad h5) (cwV 0 hts gL_law_X5_linkShare rfl rfl rfl hdX5_linkShare ⟨Nat.le_of_ble_eq_true rfl, Nat.le_of_ble_eq_true rfl⟩) hK hN (hP.perm pq).left (hD.perm pq).left (va_recv hK hP (ci := 5) (q0 := 7) rfl rfl) rfl hl.1 rfl (Nat.le_of_ble_eq_true rfl) dL_law_1285 ⟨by have := hro.1; show cells ≤ 607796; omega, by have := hro.2; show slots ≤ 7272716; omega⟩) hP hD hS hA (fun H locs hP hD hS => ?_)
  refine lv_dstore (lv' := [(5, .double res), (0, .ref b), (1, .ref (ad 0 0)), (2, .ref (am 0)), (3, .ref o), (4, .int (nI i))]) hx hb dL_law_1288 hl (by decide) rfl (fun ls hl => ?_)
  refine lv_aload_n hx hb dL_law_1290 rfl (lv_at hl 3 rfl) ?_
  have pq := perm_b (cOut g o out) (cMo g am mo) (wBR g ad tx is wa st hi)
  refine aft_p (st1 := [.double res]) (ws' := wLaw g ad am o tx is wa st hi mo' out) rfl pq (perm_b (cOut g o out) (cMo g am mo') (wBR g ad tx is wa st hi)).symm (runV (As := []) (rest := []) ⟨hx, hb, hml, hown, hts⟩ (kX6_linkShare l g am h6) (cwV 0 hts gL_law_X6_linkShare rfl rfl rfl hdX6_linkShare ⟨Nat.le_of_ble_eq_true rfl, Nat.le_of_ble_eq_true rfl⟩) hK hN (hP.perm pq).left (hD.perm pq).left (va_recv hK hP (ci := 6) (q0 := 1) rfl rfl) rfl hl.1 rfl (Nat.le_of_ble_eq_true rfl) dL_law_1291 ⟨by have := hro.1; show cells ≤ 607796; omega, by have := hro.2; show slots ≤ 7272716; omega⟩) hP hD hS hA (fun H locs hP hD hS => ?_)
  refine lv_dstore (lv' := [(7, .double res), (5, .double res), (0, .ref b), (1, .ref (ad 0 0)), (2, .ref (am 0)), (3, .ref o), (4, .int (nI i))]) hx hb dL_law_1294 hl (by decide) rfl (fun ls hl => ?_)
  refine lv_dload hx hb dL_law_1296 (lv_at hl 1 rfl) ?_
  refine lv_dload hx hb dL_law_1298 (lv_at hl 0 rfl) ?_
  refine lv_dcmp hx hb dL_law_1300 ?_
  refine lv_if_eq (tgt := 1322) hx hb dL_law_1301 (by decide) (fun _ => ?_) (fun c9 => absurd h8 c9)
  refine lv_goto (tgt := 1382) hx hb dL_law_1322 (by decide) ?_
  refine W.widen (k := cells + 1) (n := slots + 6) (Nat.le_add_right _ _) (Nat.le_add_right _ _) ?_
  exact next _ _ _ _ _ _ _ _ _ _ hJ' hP hD hS (lv_sub hl [2, 3, 4, 5, 6] rfl)
set_option maxRecDepth 100000 in
set_option maxHeartbeats 8000000 in
theorem law_meanLadder {p : Program} {l : Launch} {e : Env} {s : State} {m : MethodId} {args : Array Value} {below : List Frame} {meth : Method} {c : Code} {b L : Nat} {xs : Nat → Int32} {g : GG} {A : Nat → Prop} {Q : State → Prop} (hst : l.stackTraces = false) (LC : LCx p s m args c b L xs g A) {J : Nat → Tx → Is → Wa → St → Hi → Mo → Prop} (ad : Nat → Nat → Nat) (am : Nat → Nat) (o i j : Nat) {tx : Tx} {is : Is} {wa : Wa} {st : St} {hi : Hi} {mo : Mo} {out : Nat → Int64} {H : Heap} {locs : List Loc} {ls : Array Slot} (cells slots : Nat) (hL : L ≤ 2048) (hiL : i + 4 ≤ L) (hj : j < 512) (hro : cells + 1 ≤ 607796 ∧ slots + 6 ≤ 7272716) (hJ : J j tx is wa st hi mo) (hP : va_P g.1 vwCl (wLaw g ad am o tx is wa st hi mo out) H) (hD : va_D A (wLaw g ad am o tx is wa st hi mo out)) (hS : va_S A s.heap H locs) (hl : lv_has ls 9 [(0, .ref b), (1, .ref (ad 0 0)), (2, .ref (am 0)), (3, .ref o), (4, .int (nI i))]) (hop : Op_meanLadder J) (next : ∀ (tx : Tx) (is : Is) (wa : Wa) (st : St) (hi : Hi) (mo : Mo) (out : Nat → Int64) (H : Heap) (locs : List Loc) (ls : Array Slot), J (j + 1) tx is wa st hi mo → va_P g.1 vwCl (wLaw g ad am o tx is wa st hi mo out) H → va_D A (wLaw g ad am o tx is wa st hi mo out) → va_S A s.heap H locs → lv_has ls 9 [(0, .ref b), (1, .ref (ad 0 0)), (2, .ref (am 0)), (3, .ref o), (4, .int (nI i))] → W p l e room_1 s m args below meth c H locs (cells + 1) (slots + 6) Q (F0 m 1382 ls [])) : W p l e room_1 s m args below meth c H locs cells slots Q (F0 m 1325 ls []) := by
  obtain ⟨hx, hb, hml, hown, hts, hK, hN, hX, hA, hXs, hbl, hbA, hZ⟩ := LC
  obtain ⟨res, mo', h5, h6, h7, h8, hJ'⟩ := hop j tx is wa st hi mo hj hJ
  refine lv_aload_n hx hb dL_law_1325 rfl (lv_at hl 1 rfl) ?_
  have pq := perm_c (cOut g o out) (cMo g am mo) (wBR g ad tx is wa st hi)
  refine aft_p (st1 := [.float res]) (ws' := wLaw g ad am o tx is wa st hi mo out) rfl pq (perm_c (cOut g o out) (cMo g am mo) (wBR g ad tx is wa st hi)).symm (runV (As := []) (rest := []) ⟨hx, hb, hml, hown, hts⟩ (kX5_meanLadder l g ad h5) (cwV 0 hts gL_law_X5_meanLadder rfl rfl rfl hdX5_meanLadder ⟨Nat.le_of_ble_eq_true rfl, Nat.le_of_ble_eq_true rfl⟩) hK hN (hP.perm pq).left (hD.perm pq).left (va_recv hK hP (ci := 5) (q0 := 7) rfl rfl) rfl hl.1 rfl (Nat.le_of_ble_eq_true rfl) dL_law_1326 ⟨by have := hro.1; show cells ≤ 607796; omega, by have := hro.2; show slots ≤ 7272716; omega⟩) hP hD hS hA (fun H locs hP hD hS => ?_)
  refine lv_f2d hx hb dL_law_1329 (nnd_ok h7) ?_
  refine lv_dstore (lv' := [(5, .double (FP.f2d res)), (0, .ref b), (1, .ref (ad 0 0)), (2, .ref (am 0)), (3, .ref o), (4, .int (nI i))]) hx hb dL_law_1330 hl (by decide) rfl (fun ls hl => ?_)
  refine lv_aload_n hx hb dL_law_1332 rfl (lv_at hl 3 rfl) ?_
  have pq := perm_b (cOut g o out) (cMo g am mo) (wBR g ad tx is wa st hi)
  refine aft_p (st1 := [.float res]) (ws' := wLaw g ad am o tx is wa st hi mo' out) rfl pq (perm_b (cOut g o out) (cMo g am mo') (wBR g ad tx is wa st hi)).symm (runV (As := []) (rest := []) ⟨hx, hb, hml, hown, hts⟩ (kX6_meanLadder l g am h6) (cwV 0 hts gL_law_X6_meanLadder rfl rfl rfl hdX6_meanLadder ⟨Nat.le_of_ble_eq_true rfl, Nat.le_of_ble_eq_true rfl⟩) hK hN (hP.perm pq).left (hD.perm pq).left (va_recv hK hP (ci := 6) (q0 := 1) rfl rfl) rfl hl.1 rfl (Nat.le_of_ble_eq_true rfl) dL_law_1333 ⟨by have := hro.1; show cells ≤ 607796; omega, by have := hro.2; show slots ≤ 7272716; omega⟩) hP hD hS hA (fun H locs hP hD hS => ?_)
  refine lv_f2d hx hb dL_law_1336 (nnd_ok h7) ?_
  refine lv_dstore (lv' := [(7, .double (FP.f2d res)), (5, .double (FP.f2d res)), (0, .ref b), (1, .ref (ad 0 0)), (2, .ref (am 0)), (3, .ref o), (4, .int (nI i))]) hx hb dL_law_1337 hl (by decide) rfl (fun ls hl => ?_)
  refine lv_dload hx hb dL_law_1339 (lv_at hl 1 rfl) ?_
  refine lv_dload hx hb dL_law_1341 (lv_at hl 0 rfl) ?_
  refine lv_dcmp hx hb dL_law_1343 ?_
  refine lv_if_eq (tgt := 1365) hx hb dL_law_1344 (by decide) (fun _ => ?_) (fun c9 => absurd h8 c9)
  refine lv_goto (tgt := 1382) hx hb dL_law_1365 (by decide) ?_
  refine W.widen (k := cells + 1) (n := slots + 6) (Nat.le_add_right _ _) (Nat.le_add_right _ _) ?_
  exact next _ _ _ _ _ _ _ _ _ _ hJ' hP hD hS (lv_sub hl [2, 3, 4, 5, 6] rfl)
set_option maxRecDepth 100000 in
set_option maxHeartbeats 8000000 in
theorem law_digest {p : Program} {l : Launch} {e : Env} {s : State} {m : MethodId} {args : Array Value} {below : List Frame} {meth : Method} {c : Code} {b L : Nat} {xs : Nat → Int32} {g : GG} {A : Nat → Prop} {Q : State → Prop} (hst : l.stackTraces = false) (LC : LCx p s m args c b L xs g A) {J : Nat → Tx → Is → Wa → St → Hi → Mo → Prop} (ad : Nat → Nat → Nat) (am : Nat → Nat) (o i j : Nat) {tx : Tx} {is : Is} {wa : Wa} {st : St} {hi : Hi} {mo : Mo} {out : Nat → Int64} {H : Heap} {locs : List Loc} {ls : Array Slot} (cells slots : Nat) (hL : L ≤ 2048) (hiL : i + 4 ≤ L) (hj : j < 512) (hro : cells + 1 ≤ 607796 ∧ slots + 6 ≤ 7272716) (hJ : J j tx is wa st hi mo) (hP : va_P g.1 vwCl (wLaw g ad am o tx is wa st hi mo out) H) (hD : va_D A (wLaw g ad am o tx is wa st hi mo out)) (hS : va_S A s.heap H locs) (hl : lv_has ls 9 [(0, .ref b), (1, .ref (ad 0 0)), (2, .ref (am 0)), (3, .ref o), (4, .int (nI i))]) (hop : Op_digest J) (next : ∀ (tx : Tx) (is : Is) (wa : Wa) (st : St) (hi : Hi) (mo : Mo) (out : Nat → Int64) (H : Heap) (locs : List Loc) (ls : Array Slot), J (j + 1) tx is wa st hi mo → va_P g.1 vwCl (wLaw g ad am o tx is wa st hi mo out) H → va_D A (wLaw g ad am o tx is wa st hi mo out) → va_S A s.heap H locs → lv_has ls 9 [(0, .ref b), (1, .ref (ad 0 0)), (2, .ref (am 0)), (3, .ref o), (4, .int (nI i))] → W p l e room_1 s m args below meth c H locs (cells + 1) (slots + 6) Q (F0 m 1382 ls [])) : W p l e room_1 s m args below meth c H locs cells slots Q (F0 m 1368 ls []) := by
  obtain ⟨hx, hb, hml, hown, hts, hK, hN, hX, hA, hXs, hbl, hbA, hZ⟩ := LC
  obtain ⟨res, is', wa', mo', h5, h6, hJ'⟩ := hop j tx is wa st hi mo hj hJ
  refine lv_aload_n hx hb dL_law_1368 rfl (lv_at hl 1 rfl) ?_
  have pq := perm_c (cOut g o out) (cMo g am mo) (wBR g ad tx is wa st hi)
  refine aft_p (st1 := [.long res]) (ws' := wLaw g ad am o tx is' wa' st hi mo out) rfl pq (perm_c (cOut g o out) (cMo g am mo) (wBR g ad tx is' wa' st hi)).symm (runV (As := []) (rest := []) ⟨hx, hb, hml, hown, hts⟩ (kX5_digest l g ad h5) (cwV 0 hts gL_law_X5_digest rfl rfl rfl hdX5_digest ⟨Nat.le_of_ble_eq_true rfl, Nat.le_of_ble_eq_true rfl⟩) hK hN (hP.perm pq).left (hD.perm pq).left (va_recv hK hP (ci := 5) (q0 := 7) rfl rfl) rfl hl.1 rfl (Nat.le_of_ble_eq_true rfl) dL_law_1369 ⟨by have := hro.1; show cells ≤ 607796; omega, by have := hro.2; show slots ≤ 7272716; omega⟩) hP hD hS hA (fun H locs hP hD hS => ?_)
  refine lv_aload_n hx hb dL_law_1372 rfl (lv_at hl 2 rfl) ?_
  have pq := perm_b (cOut g o out) (cMo g am mo) (wBR g ad tx is' wa' st hi)
  refine aft_p (st1 := [.long res, .long res]) (ws' := wLaw g ad am o tx is' wa' st hi mo' out) rfl pq (perm_b (cOut g o out) (cMo g am mo') (wBR g ad tx is' wa' st hi)).symm (runV (As := []) (rest := [.long res]) ⟨hx, hb, hml, hown, hts⟩ (kX6_digest l g am h6) (cwV 0 hts gL_law_X6_digest rfl rfl rfl hdX6_digest ⟨Nat.le_of_ble_eq_true rfl, Nat.le_of_ble_eq_true rfl⟩) hK hN (hP.perm pq).left (hD.perm pq).left (va_recv hK hP (ci := 6) (q0 := 1) rfl rfl) rfl hl.1 rfl (Nat.le_of_ble_eq_true rfl) dL_law_1373 ⟨by have := hro.1; show cells ≤ 607796; omega, by have := hro.2; show slots ≤ 7272716; omega⟩) hP hD hS hA (fun H locs hP hD hS => ?_)
  refine W.lcmp hx hb dL_law_1376 ?_
  refine lv_if_eq (tgt := 1382) hx hb dL_law_1377 (by decide) (fun _ => ?_) (fun c9 => absurd (cmp_self _) c9)
  refine W.widen (k := cells + 1) (n := slots + 6) (Nat.le_add_right _ _) (Nat.le_add_right _ _) ?_
  exact next _ _ _ _ _ _ _ _ _ _ hJ' hP hD hS (lv_sub hl [0, 1, 2, 3, 4] rfl)
set_option maxRecDepth 100000 in
set_option maxHeartbeats 8000000 in
theorem law_loop {p : Program} {l : Launch} {e : Env} {s : State} {m : MethodId} {args : Array Value} {below : List Frame} {meth : Method} {c : Code} {b L : Nat} {xs : Nat → Int32} {g : GG} {A : Nat → Prop} {Q : State → Prop} (hst : l.stackTraces = false) (LC : LCx p s m args c b L xs g A) {J : Nat → Tx → Is → Wa → St → Hi → Mo → Prop} (hops : Ops J) (ad : Nat → Nat → Nat) (am : Nat → Nat) (o : Nat) (hL : L ≤ 2048)
    (hend : ∀ (H : Heap) (locs : List Loc) (ls : Array Slot), va_S A s.heap H locs → W p l e room_1 s m args below meth c H locs 607796 7272716 Q (F0 m 1389 ls [.int 1])) :
    ∀ (n i j : Nat) {tx : Tx} {is : Is} {wa : Wa} {st : St} {hi : Hi} {mo : Mo} {out : Nat → Int64} {H : Heap} {locs : List Loc} {ls : Array Slot} (cells slots : Nat), i = 4 * j → L < i + 4 * n → i ≤ L → cells ≤ 1000 + j → slots ≤ 10000 + 6 * j → J j tx is wa st hi mo → va_P g.1 vwCl (wLaw g ad am o tx is wa st hi mo out) H → va_D A (wLaw g ad am o tx is wa st hi mo out) → va_S A s.heap H locs → lv_has ls 9 [(0, .ref b), (1, .ref (ad 0 0)), (2, .ref (am 0)), (3, .ref o), (4, .int (nI i))] → W p l e room_1 s m args below meth c H locs cells slots Q (F0 m 23 ls []) := by
  intro n
  induction n with
  | zero => intro i j tx is wa st hi mo out H locs ls cells slots e1 e2 e3; omega
  | succ n ih =>
    intro i j tx is wa st hi mo out H locs ls cells slots e1 e2 e3 e4 e5 hJ hP hD hS hl
    obtain ⟨hx, hb, hml, hown, hts, hK, hN, hX, hA, hXs, hbl, hbA, hZ⟩ := id LC
    refine lv_iload hx hb dL_law_23 (lv_at hl 4 rfl) ?_
    refine lv_aload_n hx hb dL_law_25 rfl (lv_at hl 0 rfl) ?_
    refine va_slen hx hb hXs hbl hbA hS dL_law_26 ?_
    refine lv_iconst (v := 4) hx hb dL_law_27 (by decide) ?_
    refine lv_isub hx hb dL_law_28 ?_
    have t4 : (nI L - 4).toInt = (L : Int) - 4 := pk_sub_toInt (a := L) (b := 4) (by omega) (by omega)
    refine lv_icmp_gt (tgt := 1388) hx hb dL_law_29 (by decide) (fun _ => ?_) (fun c1 => ?_)
    · refine lv_iconst (v := 1) hx hb dL_law_1388 (by decide) ?_
      refine W.widen (k := 607796) (n := 7272716) (by omega) (by omega) ?_
      exact hend _ _ _ hS
    · have hi4 : i + 4 ≤ L := by
        have h1 := Int32.not_lt.mp c1
        rw [Int32.le_iff_toInt_le] at h1
        have h2 : (nI i).toInt = (i : Int) := nI_toInt (by omega)
        have h3 : (Int32.ofNat L - 4).toInt = (L : Int) - 4 := t4
        rw [h2] at h1
        have h4 : (i : Int) ≤ (L : Int) - 4 := h3 ▸ h1
        omega
      have hj : j < 512 := by omega
      have hro : cells + 1 ≤ 607796 ∧ slots + 6 ≤ 7272716 := ⟨by omega, by omega⟩
      have next : ∀ (tx : Tx) (is : Is) (wa : Wa) (st : St) (hi : Hi) (mo : Mo) (out : Nat → Int64) (H : Heap) (locs : List Loc) (ls : Array Slot), J (j + 1) tx is wa st hi mo → va_P g.1 vwCl (wLaw g ad am o tx is wa st hi mo out) H → va_D A (wLaw g ad am o tx is wa st hi mo out) → va_S A s.heap H locs → lv_has ls 9 [(0, .ref b), (1, .ref (ad 0 0)), (2, .ref (am 0)), (3, .ref o), (4, .int (nI i))] → W p l e room_1 s m args below meth c H locs (cells + 1) (slots + 6) Q (F0 m 1382 ls []) := by
        intro tx is wa st hi mo out H locs ls hJ hP hD hS hl
        refine lv_iinc (v := nI (i + 4)) (lv' := [(4, .int (nI (i + 4))), (0, .ref b), (1, .ref (ad 0 0)), (2, .ref (am 0)), (3, .ref o)]) hx hb dL_law_1382 hl (k := 4) rfl (nI_add i 4) (by decide) rfl (fun ls hl => ?_)
        refine lv_goto (tgt := 23) hx hb dL_law_1385 (by decide) ?_
        exact ih (i + 4) (j + 1) (cells + 1) (slots + 6) (by omega) (by omega) (by omega) (by omega) (by omega) hJ hP hD hS (lv_sub hl [1, 2, 3, 4, 0] rfl)
      obtain ⟨op0, op1, op2, op3, op4, op5, op6, op7, op8, op9, op10, op11, op12, op13, op14, op15, op16, op17, op18, op19, op20, op21, op22, op23, op24, opR⟩ := hops
      refine lv_aload_n hx hb dL_law_32 rfl (lv_at hl 0 rfl) ?_
      refine lv_iload hx hb dL_law_33 (lv_at hl 4 rfl) ?_
      refine va_sld hx hb hXs hbl hbA hS (vp_in_nI (by omega) (by omega)) dL_law_35 ?_
      refine lv_bipush (v := 31) hx hb dL_law_36 (by decide) ?_
      refine lv_iand hx hb dL_law_38 ?_
      generalize xs (nI i).toNatClampNeg &&& 31 = v
      by_cases c10 : v = 0
      · refine lv_tableIn (x := v) (off := 113) (tgt := 152) hx hb dL_law_39 (by rw [c10]; decide) (by rw [c10]; decide) (by rw [c10]; decide) (by decide) ?_
        exact law_add hst LC ad am o i j cells slots hL hi4 hj hro hJ hP hD hS hl op0 next
      by_cases c11 : v = 1
      · refine lv_tableIn (x := v) (off := 157) (tgt := 196) hx hb dL_law_39 (by rw [c11]; decide) (by rw [c11]; decide) (by rw [c11]; decide) (by decide) ?_
        exact law_set hst LC ad am o i j cells slots hL hi4 hj hro hJ hP hD hS hl op1 next
      by_cases c12 : v = 2
      · refine lv_tableIn (x := v) (off := 225) (tgt := 264) hx hb dL_law_39 (by rw [c12]; decide) (by rw [c12]; decide) (by rw [c12]; decide) (by decide) ?_
        exact law_bar hst LC ad am o i j cells slots hL hi4 hj hro hJ hP hD hS hl op2 next
      by_cases c13 : v = 3
      · refine lv_tableIn (x := v) (off := 293) (tgt := 332) hx hb dL_law_39 (by rw [c13]; decide) (by rw [c13]; decide) (by rw [c13]; decide) (by decide) ?_
        exact law_put hst LC ad am o i j cells slots hL hi4 hj hro hJ hP hD hS hl op3 next
      by_cases c14 : v = 4
      · refine lv_tableIn (x := v) (off := 373) (tgt := 412) hx hb dL_law_39 (by rw [c14]; decide) (by rw [c14]; decide) (by rw [c14]; decide) (by decide) ?_
        exact law_climb hst LC ad am o i j cells slots hL hi4 hj hro hJ hP hD hS hl op4 next
      by_cases c15 : v = 5
      · refine lv_tableIn (x := v) (off := 441) (tgt := 480) hx hb dL_law_39 (by rw [c15]; decide) (by rw [c15]; decide) (by rw [c15]; decide) (by decide) ?_
        exact law_turn hst LC ad am o i j cells slots hL hi4 hj hro hJ hP hD hS hl op5 next
      by_cases c16 : v = 6
      · refine lv_tableIn (x := v) (off := 454) (tgt := 493) hx hb dL_law_39 (by rw [c16]; decide) (by rw [c16]; decide) (by rw [c16]; decide) (by decide) ?_
        exact law_leave hst LC ad am o i j cells slots hL hi4 hj hro hJ hP hD hS hl op6 next
      by_cases c17 : v = 7
      · refine lv_tableIn (x := v) (off := 510) (tgt := 549) hx hb dL_law_39 (by rw [c17]; decide) (by rw [c17]; decide) (by rw [c17]; decide) (by decide) ?_
        exact law_append hst LC ad am o i j cells slots hL hi4 hj hro hJ hP hD hS hl op7 next
      by_cases c18 : v = 8
      · refine lv_tableIn (x := v) (off := 566) (tgt := 605) hx hb dL_law_39 (by rw [c18]; decide) (by rw [c18]; decide) (by rw [c18]; decide) (by decide) ?_
        exact law_clearBuffer hst LC ad am o i j cells slots hL hi4 hj hro hJ hP hD hS hl op8 next
      by_cases c19 : v = 9
      · refine lv_tableIn (x := v) (off := 579) (tgt := 618) hx hb dL_law_39 (by rw [c19]; decide) (by rw [c19]; decide) (by rw [c19]; decide) (by decide) ?_
        exact law_firstError hst LC ad am o i j cells slots hL hi4 hj hro hJ hP hD hS hl op9 next
      by_cases c20 : v = 10
      · refine lv_tableIn (x := v) (off := 635) (tgt := 674) hx hb dL_law_39 (by rw [c20]; decide) (by rw [c20]; decide) (by rw [c20]; decide) (by decide) ?_
        exact law_play hst LC ad am o i j cells slots hL hi4 hj hro hJ hP hD hS hl op10 next
      by_cases c21 : v = 11
      · refine lv_tableIn (x := v) (off := 679) (tgt := 718) hx hb dL_law_39 (by rw [c21]; decide) (by rw [c21]; decide) (by rw [c21]; decide) (by decide) ?_
        exact law_keep hst LC ad am o i j cells slots hL hi4 hj hro hJ hP hD hS hl op11 next
      by_cases c22 : v = 12
      · refine lv_tableIn (x := v) (off := 692) (tgt := 731) hx hb dL_law_39 (by rw [c22]; decide) (by rw [c22]; decide) (by rw [c22]; decide) (by decide) ?_
        exact law_goBack hst LC ad am o i j cells slots hL hi4 hj hro hJ hP hD hS hl op12 next
      by_cases c23 : v = 13
      · refine lv_tableIn (x := v) (off := 736) (tgt := 775) hx hb dL_law_39 (by rw [c23]; decide) (by rw [c23]; decide) (by rw [c23]; decide) (by decide) ?_
        exact law_undo hst LC ad am o i j cells slots hL hi4 hj hro hJ hP hD hS hl op13 next
      by_cases c24 : v = 14
      · refine lv_tableIn (x := v) (off := 780) (tgt := 819) hx hb dL_law_39 (by rw [c24]; decide) (by rw [c24]; decide) (by rw [c24]; decide) (by decide) ?_
        exact law_word hst LC ad am o i j cells slots hL hi4 hj hro hJ hP hD hS hl op14 next
      by_cases c25 : v = 15
      · refine lv_tableIn (x := v) (off := 848) (tgt := 887) hx hb dL_law_39 (by rw [c25]; decide) (by rw [c25]; decide) (by rw [c25]; decide) (by decide) ?_
        exact law_climber hst LC ad am o i j cells slots hL hi4 hj hro hJ hP hD hS hl op15 next
      by_cases c26 : v = 16
      · refine lv_tableIn (x := v) (off := 916) (tgt := 955) hx hb dL_law_39 (by rw [c26]; decide) (by rw [c26]; decide) (by rw [c26]; decide) (by decide) ?_
        exact law_count hst LC ad am o i j cells slots hL hi4 hj hro hJ hP hD hS hl op16 next
      by_cases c27 : v = 17
      · refine lv_tableIn (x := v) (off := 972) (tgt := 1011) hx hb dL_law_39 (by rw [c27]; decide) (by rw [c27]; decide) (by rw [c27]; decide) (by decide) ?_
        exact law_setting hst LC ad am o i j cells slots hL hi4 hj hro hJ hP hD hS hl op17 next
      by_cases c28 : v = 18
      · refine lv_tableIn (x := v) (off := 1028) (tgt := 1067) hx hb dL_law_39 (by rw [c28]; decide) (by rw [c28]; decide) (by rw [c28]; decide) (by decide) ?_
        exact law_why hst LC ad am o i j cells slots hL hi4 hj hro hJ hP hD hS hl op18 next
      by_cases c29 : v = 19
      · refine lv_tableIn (x := v) (off := 1096) (tgt := 1135) hx hb dL_law_39 (by rw [c29]; decide) (by rw [c29]; decide) (by rw [c29]; decide) (by decide) ?_
        exact law_plain hst LC ad am o i j cells slots hL hi4 hj hro hJ hP hD hS hl op19 next
      by_cases c30 : v = 20
      · refine lv_tableIn (x := v) (off := 1164) (tgt := 1203) hx hb dL_law_39 (by rw [c30]; decide) (by rw [c30]; decide) (by rw [c30]; decide) (by decide) ?_
        exact law_ifPut hst LC ad am o i j cells slots hL hi4 hj hro hJ hP hD hS hl op20 next
      by_cases c31 : v = 21
      · refine lv_tableIn (x := v) (off := 1232) (tgt := 1271) hx hb dL_law_39 (by rw [c31]; decide) (by rw [c31]; decide) (by rw [c31]; decide) (by decide) ?_
        exact law_safest hst LC ad am o i j cells slots hL hi4 hj hro hJ hP hD hS hl op21 next
      by_cases c32 : v = 22
      · refine lv_tableIn (x := v) (off := 1245) (tgt := 1284) hx hb dL_law_39 (by rw [c32]; decide) (by rw [c32]; decide) (by rw [c32]; decide) (by decide) ?_
        exact law_linkShare hst LC ad am o i j cells slots hL hi4 hj hro hJ hP hD hS hl op22 next
      by_cases c33 : v = 23
      · refine lv_tableIn (x := v) (off := 1286) (tgt := 1325) hx hb dL_law_39 (by rw [c33]; decide) (by rw [c33]; decide) (by rw [c33]; decide) (by decide) ?_
        exact law_meanLadder hst LC ad am o i j cells slots hL hi4 hj hro hJ hP hD hS hl op23 next
      by_cases c34 : v = 24
      · refine lv_tableIn (x := v) (off := 1329) (tgt := 1368) hx hb dL_law_39 (by rw [c34]; decide) (by rw [c34]; decide) (by rw [c34]; decide) (by decide) ?_
        exact law_digest hst LC ad am o i j cells slots hL hi4 hj hro hJ hP hD hS hl op24 next
      have n0 : ¬ v.toInt = 0 := fun q => c10 (Int32.toInt_inj.mp (by rw [q]; rfl))
      have n1 : ¬ v.toInt = 1 := fun q => c11 (Int32.toInt_inj.mp (by rw [q]; rfl))
      have n2 : ¬ v.toInt = 2 := fun q => c12 (Int32.toInt_inj.mp (by rw [q]; rfl))
      have n3 : ¬ v.toInt = 3 := fun q => c13 (Int32.toInt_inj.mp (by rw [q]; rfl))
      have n4 : ¬ v.toInt = 4 := fun q => c14 (Int32.toInt_inj.mp (by rw [q]; rfl))
      have n5 : ¬ v.toInt = 5 := fun q => c15 (Int32.toInt_inj.mp (by rw [q]; rfl))
      have n6 : ¬ v.toInt = 6 := fun q => c16 (Int32.toInt_inj.mp (by rw [q]; rfl))
      have n7 : ¬ v.toInt = 7 := fun q => c17 (Int32.toInt_inj.mp (by rw [q]; rfl))
      have n8 : ¬ v.toInt = 8 := fun q => c18 (Int32.toInt_inj.mp (by rw [q]; rfl))
      have n9 : ¬ v.toInt = 9 := fun q => c19 (Int32.toInt_inj.mp (by rw [q]; rfl))
      have n10 : ¬ v.toInt = 10 := fun q => c20 (Int32.toInt_inj.mp (by rw [q]; rfl))
      have n11 : ¬ v.toInt = 11 := fun q => c21 (Int32.toInt_inj.mp (by rw [q]; rfl))
      have n12 : ¬ v.toInt = 12 := fun q => c22 (Int32.toInt_inj.mp (by rw [q]; rfl))
      have n13 : ¬ v.toInt = 13 := fun q => c23 (Int32.toInt_inj.mp (by rw [q]; rfl))
      have n14 : ¬ v.toInt = 14 := fun q => c24 (Int32.toInt_inj.mp (by rw [q]; rfl))
      have n15 : ¬ v.toInt = 15 := fun q => c25 (Int32.toInt_inj.mp (by rw [q]; rfl))
      have n16 : ¬ v.toInt = 16 := fun q => c26 (Int32.toInt_inj.mp (by rw [q]; rfl))
      have n17 : ¬ v.toInt = 17 := fun q => c27 (Int32.toInt_inj.mp (by rw [q]; rfl))
      have n18 : ¬ v.toInt = 18 := fun q => c28 (Int32.toInt_inj.mp (by rw [q]; rfl))
      have n19 : ¬ v.toInt = 19 := fun q => c29 (Int32.toInt_inj.mp (by rw [q]; rfl))
      have n20 : ¬ v.toInt = 20 := fun q => c30 (Int32.toInt_inj.mp (by rw [q]; rfl))
      have n21 : ¬ v.toInt = 21 := fun q => c31 (Int32.toInt_inj.mp (by rw [q]; rfl))
      have n22 : ¬ v.toInt = 22 := fun q => c32 (Int32.toInt_inj.mp (by rw [q]; rfl))
      have n23 : ¬ v.toInt = 23 := fun q => c33 (Int32.toInt_inj.mp (by rw [q]; rfl))
      have n24 : ¬ v.toInt = 24 := fun q => c34 (Int32.toInt_inj.mp (by rw [q]; rfl))
      refine lv_tableOut (x := v) (tgt := 1382) hx hb dL_law_39 (by omega) (by decide) ?_
      refine W.widen (k := cells + 1) (n := slots + 6) (Nat.le_add_right _ _) (Nat.le_add_right _ _) ?_
      exact next _ _ _ _ _ _ _ _ _ _ (opR j tx is wa st hi mo hj hJ) hP hD hS hl
end LAW
