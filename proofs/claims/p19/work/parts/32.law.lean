noncomputable def mL_law_1135 (L : Nat) (xs : Nat → Int32) (k18 : Int → Int → Int → Mem → Option (Int × Mem)) (l1 l2 l3 : Int) (M : Mem) : Option (Int × Mem) :=
  k18 l1 l2 (wI (l3 + 6)) M
noncomputable def mL_law_1112 (L : Nat) (xs : Nat → Int32) (k18 : Int → Int → Int → Mem → Option (Int × Mem)) (l1 l2 l3 : Int) (M : Mem) : Option (Int × Mem) :=
  (aX L xs (wI (l3 + 1))).bind fun a1117 =>
  (gK 8 M l1).bind fun _ =>
  (mX8_again l1 a1117 M).bind fun q1118 =>
  (aX L xs (wI (l3 + 1))).bind fun a1127 =>
  (gK 9 q1118.2 l2).bind fun _ =>
  (mX9_again l2 a1127 q1118.2).bind fun q1128 =>
  mL_law_1135 L xs k18 l1 l2 l3 q1128.2
noncomputable def mL_law_1089 (L : Nat) (xs : Nat → Int32) (k18 : Int → Int → Int → Mem → Option (Int × Mem)) (l1 l2 l3 : Int) (M : Mem) : Option (Int × Mem) :=
  (aX L xs (wI (l3 + 1))).bind fun a1094 =>
  (gK 8 M l1).bind fun _ =>
  (mX8_image l1 a1094 M).bind fun q1095 =>
  (aX L xs (wI (l3 + 1))).bind fun a1104 =>
  (gK 9 q1095.2 l2).bind fun _ =>
  (mX9_image l2 a1104 q1095.2).bind fun q1105 =>
  mL_law_1135 L xs k18 l1 l2 l3 q1105.2
noncomputable def mL_law_1066 (L : Nat) (xs : Nat → Int32) (k18 : Int → Int → Int → Mem → Option (Int × Mem)) (l1 l2 l3 : Int) (M : Mem) : Option (Int × Mem) :=
  (aX L xs (wI (l3 + 1))).bind fun a1071 =>
  (gK 8 M l1).bind fun _ =>
  (mX8_many l1 a1071 M).bind fun q1072 =>
  (aX L xs (wI (l3 + 1))).bind fun a1081 =>
  (gK 9 q1072.2 l2).bind fun _ =>
  (mX9_many l2 a1081 q1072.2).bind fun q1082 =>
  mL_law_1135 L xs k18 l1 l2 l3 q1082.2
noncomputable def mL_law_1053 (L : Nat) (xs : Nat → Int32) (k18 : Int → Int → Int → Mem → Option (Int × Mem)) (l1 l2 l3 : Int) (M : Mem) : Option (Int × Mem) :=
  (gK 8 M l1).bind fun _ =>
  (mX8_against l1 M).bind fun q1054 =>
  (gK 9 q1054.2 l2).bind fun _ =>
  (mX9_against l2 q1054.2).bind fun q1059 =>
  mL_law_1135 L xs k18 l1 l2 l3 q1059.2
noncomputable def mL_law_1030 (L : Nat) (xs : Nat → Int32) (k18 : Int → Int → Int → Mem → Option (Int × Mem)) (l1 l2 l3 : Int) (M : Mem) : Option (Int × Mem) :=
  (aX L xs (wI (l3 + 1))).bind fun a1035 =>
  (gK 8 M l1).bind fun _ =>
  (mX8_holds l1 a1035 M).bind fun q1036 =>
  (aX L xs (wI (l3 + 1))).bind fun a1045 =>
  (gK 9 q1036.2 l2).bind fun _ =>
  (mX9_holds l2 a1045 q1036.2).bind fun q1046 =>
  mL_law_1135 L xs k18 l1 l2 l3 q1046.2
noncomputable def mL_law_1017 (L : Nat) (xs : Nat → Int32) (k18 : Int → Int → Int → Mem → Option (Int × Mem)) (l1 l2 l3 : Int) (M : Mem) : Option (Int × Mem) :=
  (gK 8 M l1).bind fun _ =>
  (mX8_near l1 M).bind fun q1018 =>
  (gK 9 q1018.2 l2).bind fun _ =>
  (mX9_near l2 q1018.2).bind fun q1023 =>
  mL_law_1135 L xs k18 l1 l2 l3 q1023.2
noncomputable def mL_law_994 (L : Nat) (xs : Nat → Int32) (k18 : Int → Int → Int → Mem → Option (Int × Mem)) (l1 l2 l3 : Int) (M : Mem) : Option (Int × Mem) :=
  (aX L xs (wI (l3 + 1))).bind fun a999 =>
  (gK 8 M l1).bind fun _ =>
  (mX8_settle l1 a999 M).bind fun q1000 =>
  (aX L xs (wI (l3 + 1))).bind fun a1009 =>
  (gK 9 q1000.2 l2).bind fun _ =>
  (mX9_settle l2 a1009 q1000.2).bind fun q1010 =>
  mL_law_1135 L xs k18 l1 l2 l3 q1010.2
noncomputable def mL_law_981 (L : Nat) (xs : Nat → Int32) (k18 : Int → Int → Int → Mem → Option (Int × Mem)) (l1 l2 l3 : Int) (M : Mem) : Option (Int × Mem) :=
  (gK 8 M l1).bind fun _ =>
  (mX8_questions l1 M).bind fun q982 =>
  (gK 9 q982.2 l2).bind fun _ =>
  (mX9_questions l2 q982.2).bind fun q987 =>
  mL_law_1135 L xs k18 l1 l2 l3 q987.2
noncomputable def mL_law_958 (L : Nat) (xs : Nat → Int32) (k18 : Int → Int → Int → Mem → Option (Int × Mem)) (l1 l2 l3 : Int) (M : Mem) : Option (Int × Mem) :=
  (aX L xs (wI (l3 + 1))).bind fun a963 =>
  (gK 8 M l1).bind fun _ =>
  (mX8_without l1 a963 M).bind fun q964 =>
  (aX L xs (wI (l3 + 1))).bind fun a973 =>
  (gK 9 q964.2 l2).bind fun _ =>
  (mX9_without l2 a973 q964.2).bind fun q974 =>
  mL_law_1135 L xs k18 l1 l2 l3 q974.2
noncomputable def mL_law_905 (L : Nat) (xs : Nat → Int32) (k18 : Int → Int → Int → Mem → Option (Int × Mem)) (l1 l2 l3 : Int) (M : Mem) : Option (Int × Mem) :=
  (aX L xs (wI (l3 + 1))).bind fun a910 =>
  (aX L xs (wI (l3 + 2))).bind fun a915 =>
  (aX L xs (wI (l3 + 3))).bind fun a920 =>
  (aX L xs (wI (l3 + 4))).bind fun a925 =>
  (gK 8 M l1).bind fun _ =>
  (mX8_cause l1 a910 a915 a920 a925 M).bind fun q926 =>
  (aX L xs (wI (l3 + 1))).bind fun a935 =>
  (aX L xs (wI (l3 + 2))).bind fun a940 =>
  (aX L xs (wI (l3 + 3))).bind fun a945 =>
  (aX L xs (wI (l3 + 4))).bind fun a950 =>
  (gK 9 q926.2 l2).bind fun _ =>
  (mX9_cause l2 a935 a940 a945 a950 q926.2).bind fun q951 =>
  mL_law_1135 L xs k18 l1 l2 l3 q951.2
noncomputable def mL_law_862 (L : Nat) (xs : Nat → Int32) (k18 : Int → Int → Int → Mem → Option (Int × Mem)) (l1 l2 l3 : Int) (M : Mem) : Option (Int × Mem) :=
  (aX L xs (wI (l3 + 1))).bind fun a867 =>
  (aX L xs (wI (l3 + 2))).bind fun a872 =>
  (aX L xs (wI (l3 + 3))).bind fun a877 =>
  (gK 8 M l1).bind fun _ =>
  (mX8_sure l1 a867 a872 a877 M).bind fun q878 =>
  (aX L xs (wI (l3 + 1))).bind fun a887 =>
  (aX L xs (wI (l3 + 2))).bind fun a892 =>
  (aX L xs (wI (l3 + 3))).bind fun a897 =>
  (gK 9 q878.2 l2).bind fun _ =>
  (mX9_sure l2 a887 a892 a897 q878.2).bind fun q898 =>
  mL_law_1135 L xs k18 l1 l2 l3 q898.2
noncomputable def mL_law_839 (L : Nat) (xs : Nat → Int32) (k18 : Int → Int → Int → Mem → Option (Int × Mem)) (l1 l2 l3 : Int) (M : Mem) : Option (Int × Mem) :=
  (aX L xs (wI (l3 + 1))).bind fun a844 =>
  (gK 8 M l1).bind fun _ =>
  (mX8_core l1 a844 M).bind fun q845 =>
  (aX L xs (wI (l3 + 1))).bind fun a854 =>
  (gK 9 q845.2 l2).bind fun _ =>
  (mX9_core l2 a854 q845.2).bind fun q855 =>
  mL_law_1135 L xs k18 l1 l2 l3 q855.2
noncomputable def mL_law_816 (L : Nat) (xs : Nat → Int32) (k18 : Int → Int → Int → Mem → Option (Int × Mem)) (l1 l2 l3 : Int) (M : Mem) : Option (Int × Mem) :=
  (aX L xs (wI (l3 + 1))).bind fun a821 =>
  (gK 8 M l1).bind fun _ =>
  (mX8_least l1 a821 M).bind fun q822 =>
  (aX L xs (wI (l3 + 1))).bind fun a831 =>
  (gK 9 q822.2 l2).bind fun _ =>
  (mX9_least l2 a831 q822.2).bind fun q832 =>
  mL_law_1135 L xs k18 l1 l2 l3 q832.2
noncomputable def mL_law_803 (L : Nat) (xs : Nat → Int32) (k18 : Int → Int → Int → Mem → Option (Int × Mem)) (l1 l2 l3 : Int) (M : Mem) : Option (Int × Mem) :=
  (gK 8 M l1).bind fun _ =>
  (mX8_name l1 M).bind fun q804 =>
  (gK 9 q804.2 l2).bind fun _ =>
  (mX9_name l2 q804.2).bind fun q809 =>
  mL_law_1135 L xs k18 l1 l2 l3 q809.2
noncomputable def mL_law_780 (L : Nat) (xs : Nat → Int32) (k18 : Int → Int → Int → Mem → Option (Int × Mem)) (l1 l2 l3 : Int) (M : Mem) : Option (Int × Mem) :=
  (aX L xs (wI (l3 + 1))).bind fun a785 =>
  (gK 8 M l1).bind fun _ =>
  (mX8_form l1 a785 M).bind fun q786 =>
  (aX L xs (wI (l3 + 1))).bind fun a795 =>
  (gK 9 q786.2 l2).bind fun _ =>
  (mX9_form l2 a795 q786.2).bind fun q796 =>
  mL_law_1135 L xs k18 l1 l2 l3 q796.2
noncomputable def mL_law_767 (L : Nat) (xs : Nat → Int32) (k18 : Int → Int → Int → Mem → Option (Int × Mem)) (l1 l2 l3 : Int) (M : Mem) : Option (Int × Mem) :=
  (gK 8 M l1).bind fun _ =>
  (mX8_forms l1 M).bind fun q768 =>
  (gK 9 q768.2 l2).bind fun _ =>
  (mX9_forms l2 q768.2).bind fun q773 =>
  mL_law_1135 L xs k18 l1 l2 l3 q773.2
noncomputable def mL_law_754 (L : Nat) (xs : Nat → Int32) (k18 : Int → Int → Int → Mem → Option (Int × Mem)) (l1 l2 l3 : Int) (M : Mem) : Option (Int × Mem) :=
  (gK 8 M l1).bind fun _ =>
  (mX8_worlds l1 M).bind fun q755 =>
  (gK 9 q755.2 l2).bind fun _ =>
  (mX9_worlds l2 q755.2).bind fun q760 =>
  mL_law_1135 L xs k18 l1 l2 l3 q760.2
noncomputable def mL_law_721 (L : Nat) (xs : Nat → Int32) (k18 : Int → Int → Int → Mem → Option (Int × Mem)) (l1 l2 l3 : Int) (M : Mem) : Option (Int × Mem) :=
  (aX L xs (wI (l3 + 1))).bind fun a726 =>
  (aX L xs (wI (l3 + 2))).bind fun a731 =>
  (gK 8 M l1).bind fun _ =>
  (mX8_breaks l1 a726 a731 M).bind fun q732 =>
  (aX L xs (wI (l3 + 1))).bind fun a740 =>
  (aX L xs (wI (l3 + 2))).bind fun a745 =>
  (gK 9 q732.2 l2).bind fun _ =>
  (mX9_breaks l2 a740 a745 q732.2).bind fun q746 =>
  if q732.1 = q746.1 then
    mL_law_1135 L xs k18 l1 l2 l3 q746.2
  else
    some (0, q746.2)
noncomputable def mL_law_698 (L : Nat) (xs : Nat → Int32) (k18 : Int → Int → Int → Mem → Option (Int × Mem)) (l1 l2 l3 : Int) (M : Mem) : Option (Int × Mem) :=
  (aX L xs (wI (l3 + 1))).bind fun a703 =>
  (gK 8 M l1).bind fun _ =>
  (mX8_so l1 a703 M).bind fun q704 =>
  (aX L xs (wI (l3 + 1))).bind fun a713 =>
  (gK 9 q704.2 l2).bind fun _ =>
  (mX9_so l2 a713 q704.2).bind fun q714 =>
  mL_law_1135 L xs k18 l1 l2 l3 q714.2
noncomputable def mL_law_675 (L : Nat) (xs : Nat → Int32) (k18 : Int → Int → Int → Mem → Option (Int × Mem)) (l1 l2 l3 : Int) (M : Mem) : Option (Int × Mem) :=
  (aX L xs (wI (l3 + 1))).bind fun a680 =>
  (gK 8 M l1).bind fun _ =>
  (mX8_view l1 a680 M).bind fun q681 =>
  (aX L xs (wI (l3 + 1))).bind fun a690 =>
  (gK 9 q681.2 l2).bind fun _ =>
  (mX9_view l2 a690 q681.2).bind fun q691 =>
  mL_law_1135 L xs k18 l1 l2 l3 q691.2
noncomputable def mL_law_652 (L : Nat) (xs : Nat → Int32) (k18 : Int → Int → Int → Mem → Option (Int × Mem)) (l1 l2 l3 : Int) (M : Mem) : Option (Int × Mem) :=
  (aX L xs (wI (l3 + 1))).bind fun a657 =>
  (gK 8 M l1).bind fun _ =>
  (mX8_day l1 a657 M).bind fun q658 =>
  (aX L xs (wI (l3 + 1))).bind fun a667 =>
  (gK 9 q658.2 l2).bind fun _ =>
  (mX9_day l2 a667 q658.2).bind fun q668 =>
  mL_law_1135 L xs k18 l1 l2 l3 q668.2
noncomputable def mL_law_629 (L : Nat) (xs : Nat → Int32) (k18 : Int → Int → Int → Mem → Option (Int × Mem)) (l1 l2 l3 : Int) (M : Mem) : Option (Int × Mem) :=
  (aX L xs (wI (l3 + 1))).bind fun a634 =>
  (gK 8 M l1).bind fun _ =>
  (mX8_strike l1 a634 M).bind fun q635 =>
  (aX L xs (wI (l3 + 1))).bind fun a644 =>
  (gK 9 q635.2 l2).bind fun _ =>
  (mX9_strike l2 a644 q635.2).bind fun q645 =>
  mL_law_1135 L xs k18 l1 l2 l3 q645.2
noncomputable def mL_law_606 (L : Nat) (xs : Nat → Int32) (k18 : Int → Int → Int → Mem → Option (Int × Mem)) (l1 l2 l3 : Int) (M : Mem) : Option (Int × Mem) :=
  (aX L xs (wI (l3 + 1))).bind fun a611 =>
  (gK 8 M l1).bind fun _ =>
  (mX8_fault l1 a611 M).bind fun q612 =>
  (aX L xs (wI (l3 + 1))).bind fun a621 =>
  (gK 9 q612.2 l2).bind fun _ =>
  (mX9_fault l2 a621 q612.2).bind fun q622 =>
  mL_law_1135 L xs k18 l1 l2 l3 q622.2
noncomputable def mL_law_593 (L : Nat) (xs : Nat → Int32) (k18 : Int → Int → Int → Mem → Option (Int × Mem)) (l1 l2 l3 : Int) (M : Mem) : Option (Int × Mem) :=
  (gK 8 M l1).bind fun _ =>
  (mX8_guess l1 M).bind fun q594 =>
  (gK 9 q594.2 l2).bind fun _ =>
  (mX9_guess l2 q594.2).bind fun q599 =>
  mL_law_1135 L xs k18 l1 l2 l3 q599.2
noncomputable def mL_law_580 (L : Nat) (xs : Nat → Int32) (k18 : Int → Int → Int → Mem → Option (Int × Mem)) (l1 l2 l3 : Int) (M : Mem) : Option (Int × Mem) :=
  (gK 8 M l1).bind fun _ =>
  (mX8_story l1 M).bind fun q581 =>
  (gK 9 q581.2 l2).bind fun _ =>
  (mX9_story l2 q581.2).bind fun q586 =>
  mL_law_1135 L xs k18 l1 l2 l3 q586.2
noncomputable def mL_law_557 (L : Nat) (xs : Nat → Int32) (k18 : Int → Int → Int → Mem → Option (Int × Mem)) (l1 l2 l3 : Int) (M : Mem) : Option (Int × Mem) :=
  (aX L xs (wI (l3 + 1))).bind fun a562 =>
  (gK 8 M l1).bind fun _ =>
  (mX8_end l1 a562 M).bind fun q563 =>
  (aX L xs (wI (l3 + 1))).bind fun a572 =>
  (gK 9 q563.2 l2).bind fun _ =>
  (mX9_end l2 a572 q563.2).bind fun q573 =>
  mL_law_1135 L xs k18 l1 l2 l3 q573.2
noncomputable def mL_law_494 (L : Nat) (xs : Nat → Int32) (k18 : Int → Int → Int → Mem → Option (Int × Mem)) (l1 l2 l3 : Int) (M : Mem) : Option (Int × Mem) :=
  (aX L xs (wI (l3 + 1))).bind fun a499 =>
  (aX L xs (wI (l3 + 2))).bind fun a504 =>
  (aX L xs (wI (l3 + 3))).bind fun a509 =>
  (aX L xs (wI (l3 + 4))).bind fun a514 =>
  (aX L xs (wI (l3 + 5))).bind fun a519 =>
  (gK 8 M l1).bind fun _ =>
  (mX8_feed l1 a499 a504 a509 a514 a519 M).bind fun q520 =>
  (aX L xs (wI (l3 + 1))).bind fun a529 =>
  (aX L xs (wI (l3 + 2))).bind fun a534 =>
  (aX L xs (wI (l3 + 3))).bind fun a539 =>
  (aX L xs (wI (l3 + 4))).bind fun a544 =>
  (aX L xs (wI (l3 + 5))).bind fun a549 =>
  (gK 9 q520.2 l2).bind fun _ =>
  (mX9_feed l2 a529 a534 a539 a544 a549 q520.2).bind fun q550 =>
  mL_law_1135 L xs k18 l1 l2 l3 q550.2
noncomputable def mL_law_471 (L : Nat) (xs : Nat → Int32) (k18 : Int → Int → Int → Mem → Option (Int × Mem)) (l1 l2 l3 : Int) (M : Mem) : Option (Int × Mem) :=
  (aX L xs (wI (l3 + 1))).bind fun a476 =>
  (gK 8 M l1).bind fun _ =>
  (mX8_apart l1 a476 M).bind fun q477 =>
  (aX L xs (wI (l3 + 1))).bind fun a486 =>
  (gK 9 q477.2 l2).bind fun _ =>
  (mX9_apart l2 a486 q477.2).bind fun q487 =>
  mL_law_1135 L xs k18 l1 l2 l3 q487.2
noncomputable def mL_law_448 (L : Nat) (xs : Nat → Int32) (k18 : Int → Int → Int → Mem → Option (Int × Mem)) (l1 l2 l3 : Int) (M : Mem) : Option (Int × Mem) :=
  (aX L xs (wI (l3 + 1))).bind fun a453 =>
  (gK 8 M l1).bind fun _ =>
  (mX8_keep l1 a453 M).bind fun q454 =>
  (aX L xs (wI (l3 + 1))).bind fun a463 =>
  (gK 9 q454.2 l2).bind fun _ =>
  (mX9_keep l2 a463 q454.2).bind fun q464 =>
  mL_law_1135 L xs k18 l1 l2 l3 q464.2
noncomputable def mL_law_441 (L : Nat) (xs : Nat → Int32) (k18 : Int → Int → Int → Mem → Option (Int × Mem)) (l1 l2 l3 s0 s1 s2 s3 s4 : Int) (M : Mem) : Option (Int × Mem) :=
  (gK 9 M s0).bind fun _ =>
  (mX9_known s0 s1 s2 s3 s4 M).bind fun q441 =>
  mL_law_1135 L xs k18 l1 l2 l3 q441.2
noncomputable def mL_law_408 (L : Nat) (xs : Nat → Int32) (k18 : Int → Int → Int → Mem → Option (Int × Mem)) (l1 l2 l3 s0 s1 s2 s3 s4 : Int) (M : Mem) : Option (Int × Mem) :=
  (gK 8 M s0).bind fun _ =>
  (mX8_known s0 s1 s2 s3 s4 M).bind fun q408 =>
  (aX L xs (wI (l3 + 1))).bind fun a417 =>
  (aX L xs (wI (l3 + 2))).bind fun a422 =>
  (aX L xs (wI (l3 + 3))).bind fun a427 =>
  (aX L xs (wI (l3 + 4))).bind fun a432 =>
  if a432 = 0 then
    mL_law_441 L xs k18 l1 l2 l3 l2 a417 a422 a427 0 q408.2
  else
    mL_law_441 L xs k18 l1 l2 l3 l2 a417 a422 a427 1 q408.2
noncomputable def mL_law_379 (L : Nat) (xs : Nat → Int32) (k18 : Int → Int → Int → Mem → Option (Int × Mem)) (l1 l2 l3 : Int) (M : Mem) : Option (Int × Mem) :=
  (aX L xs (wI (l3 + 1))).bind fun a384 =>
  (aX L xs (wI (l3 + 2))).bind fun a389 =>
  (aX L xs (wI (l3 + 3))).bind fun a394 =>
  (aX L xs (wI (l3 + 4))).bind fun a399 =>
  if a399 = 0 then
    mL_law_408 L xs k18 l1 l2 l3 l1 a384 a389 a394 0 M
  else
    mL_law_408 L xs k18 l1 l2 l3 l1 a384 a389 a394 1 M
noncomputable def mL_law_336 (L : Nat) (xs : Nat → Int32) (k18 : Int → Int → Int → Mem → Option (Int × Mem)) (l1 l2 l3 : Int) (M : Mem) : Option (Int × Mem) :=
  (aX L xs (wI (l3 + 1))).bind fun a341 =>
  (aX L xs (wI (l3 + 2))).bind fun a346 =>
  (aX L xs (wI (l3 + 3))).bind fun a351 =>
  (gK 8 M l1).bind fun _ =>
  (mX8_fact l1 a341 a346 a351 M).bind fun q352 =>
  (aX L xs (wI (l3 + 1))).bind fun a361 =>
  (aX L xs (wI (l3 + 2))).bind fun a366 =>
  (aX L xs (wI (l3 + 3))).bind fun a371 =>
  (gK 9 q352.2 l2).bind fun _ =>
  (mX9_fact l2 a361 a366 a371 q352.2).bind fun q372 =>
  mL_law_1135 L xs k18 l1 l2 l3 q372.2
noncomputable def mL_law_329 (L : Nat) (xs : Nat → Int32) (k18 : Int → Int → Int → Mem → Option (Int × Mem)) (l1 l2 l3 s0 s1 s2 s3 s4 : Int) (M : Mem) : Option (Int × Mem) :=
  (gK 9 M s0).bind fun _ =>
  (mX9_tell s0 s1 s2 s3 s4 M).bind fun q329 =>
  mL_law_1135 L xs k18 l1 l2 l3 q329.2
noncomputable def mL_law_296 (L : Nat) (xs : Nat → Int32) (k18 : Int → Int → Int → Mem → Option (Int × Mem)) (l1 l2 l3 s0 s1 s2 s3 s4 : Int) (M : Mem) : Option (Int × Mem) :=
  (gK 8 M s0).bind fun _ =>
  (mX8_tell s0 s1 s2 s3 s4 M).bind fun q296 =>
  (aX L xs (wI (l3 + 1))).bind fun a305 =>
  (aX L xs (wI (l3 + 2))).bind fun a310 =>
  (aX L xs (wI (l3 + 3))).bind fun a315 =>
  (aX L xs (wI (l3 + 4))).bind fun a320 =>
  if a320 = 0 then
    mL_law_329 L xs k18 l1 l2 l3 l2 a305 a310 a315 0 q296.2
  else
    mL_law_329 L xs k18 l1 l2 l3 l2 a305 a310 a315 1 q296.2
noncomputable def mL_law_267 (L : Nat) (xs : Nat → Int32) (k18 : Int → Int → Int → Mem → Option (Int × Mem)) (l1 l2 l3 : Int) (M : Mem) : Option (Int × Mem) :=
  (aX L xs (wI (l3 + 1))).bind fun a272 =>
  (aX L xs (wI (l3 + 2))).bind fun a277 =>
  (aX L xs (wI (l3 + 3))).bind fun a282 =>
  (aX L xs (wI (l3 + 4))).bind fun a287 =>
  if a287 = 0 then
    mL_law_296 L xs k18 l1 l2 l3 l1 a272 a277 a282 0 M
  else
    mL_law_296 L xs k18 l1 l2 l3 l1 a272 a277 a282 1 M
noncomputable def mL_law_254 (L : Nat) (xs : Nat → Int32) (k18 : Int → Int → Int → Mem → Option (Int × Mem)) (l1 l2 l3 : Int) (M : Mem) : Option (Int × Mem) :=
  (gK 8 M l1).bind fun _ =>
  (mX8_facts l1 M).bind fun q255 =>
  (gK 9 q255.2 l2).bind fun _ =>
  (mX9_facts l2 q255.2).bind fun q260 =>
  mL_law_1135 L xs k18 l1 l2 l3 q260.2
noncomputable def mL_law_221 (L : Nat) (xs : Nat → Int32) (k18 : Int → Int → Int → Mem → Option (Int × Mem)) (l1 l2 l3 : Int) (M : Mem) : Option (Int × Mem) :=
  (aX L xs (wI (l3 + 1))).bind fun a226 =>
  (aX L xs (wI (l3 + 2))).bind fun a231 =>
  (gK 8 M l1).bind fun _ =>
  (mX8_relation l1 a226 a231 M).bind fun q232 =>
  (aX L xs (wI (l3 + 1))).bind fun a241 =>
  (aX L xs (wI (l3 + 2))).bind fun a246 =>
  (gK 9 q232.2 l2).bind fun _ =>
  (mX9_relation l2 a241 a246 q232.2).bind fun q247 =>
  mL_law_1135 L xs k18 l1 l2 l3 q247.2
noncomputable def mL_law_188 (L : Nat) (xs : Nat → Int32) (k18 : Int → Int → Int → Mem → Option (Int × Mem)) (l1 l2 l3 : Int) (M : Mem) : Option (Int × Mem) :=
  (aX L xs (wI (l3 + 1))).bind fun a193 =>
  (aX L xs (wI (l3 + 2))).bind fun a198 =>
  (gK 8 M l1).bind fun _ =>
  (mX8_size l1 a193 a198 M).bind fun q199 =>
  (aX L xs (wI (l3 + 1))).bind fun a208 =>
  (aX L xs (wI (l3 + 2))).bind fun a213 =>
  (gK 9 q199.2 l2).bind fun _ =>
  (mX9_size l2 a208 a213 q199.2).bind fun q214 =>
  mL_law_1135 L xs k18 l1 l2 l3 q214.2
noncomputable def bL_law_18 (L : Nat) (xs : Nat → Int32) (k18 : Int → Int → Int → Mem → Option (Int × Mem)) (l1 l2 l3 : Int) (M : Mem) : Option (Int × Mem) :=
  if wI ((L : Int) - 6) < l3 then
    some (1, M)
  else
    (aX L xs l3).bind fun a29 =>
    if iand a29 63 = 0 then
      mL_law_188 L xs k18 l1 l2 l3 M
    else
    if iand a29 63 = 1 then
      mL_law_221 L xs k18 l1 l2 l3 M
    else
    if iand a29 63 = 2 then
      mL_law_254 L xs k18 l1 l2 l3 M
    else
    if iand a29 63 = 3 then
      mL_law_267 L xs k18 l1 l2 l3 M
    else
    if iand a29 63 = 4 then
      mL_law_336 L xs k18 l1 l2 l3 M
    else
    if iand a29 63 = 5 then
      mL_law_379 L xs k18 l1 l2 l3 M
    else
    if iand a29 63 = 6 then
      mL_law_448 L xs k18 l1 l2 l3 M
    else
    if iand a29 63 = 7 then
      mL_law_471 L xs k18 l1 l2 l3 M
    else
    if iand a29 63 = 8 then
      mL_law_494 L xs k18 l1 l2 l3 M
    else
    if iand a29 63 = 9 then
      mL_law_557 L xs k18 l1 l2 l3 M
    else
    if iand a29 63 = 10 then
      mL_law_580 L xs k18 l1 l2 l3 M
    else
    if iand a29 63 = 11 then
      mL_law_593 L xs k18 l1 l2 l3 M
    else
    if iand a29 63 = 12 then
      mL_law_606 L xs k18 l1 l2 l3 M
    else
    if iand a29 63 = 13 then
      mL_law_629 L xs k18 l1 l2 l3 M
    else
    if iand a29 63 = 14 then
      mL_law_652 L xs k18 l1 l2 l3 M
    else
    if iand a29 63 = 15 then
      mL_law_675 L xs k18 l1 l2 l3 M
    else
    if iand a29 63 = 16 then
      mL_law_698 L xs k18 l1 l2 l3 M
    else
    if iand a29 63 = 17 then
      mL_law_721 L xs k18 l1 l2 l3 M
    else
    if iand a29 63 = 18 then
      mL_law_754 L xs k18 l1 l2 l3 M
    else
    if iand a29 63 = 19 then
      mL_law_767 L xs k18 l1 l2 l3 M
    else
    if iand a29 63 = 20 then
      mL_law_780 L xs k18 l1 l2 l3 M
    else
    if iand a29 63 = 21 then
      mL_law_803 L xs k18 l1 l2 l3 M
    else
    if iand a29 63 = 22 then
      mL_law_816 L xs k18 l1 l2 l3 M
    else
    if iand a29 63 = 23 then
      mL_law_839 L xs k18 l1 l2 l3 M
    else
    if iand a29 63 = 24 then
      mL_law_862 L xs k18 l1 l2 l3 M
    else
    if iand a29 63 = 25 then
      mL_law_905 L xs k18 l1 l2 l3 M
    else
    if iand a29 63 = 26 then
      mL_law_958 L xs k18 l1 l2 l3 M
    else
    if iand a29 63 = 27 then
      mL_law_981 L xs k18 l1 l2 l3 M
    else
    if iand a29 63 = 28 then
      mL_law_994 L xs k18 l1 l2 l3 M
    else
    if iand a29 63 = 29 then
      mL_law_1017 L xs k18 l1 l2 l3 M
    else
    if iand a29 63 = 30 then
      mL_law_1030 L xs k18 l1 l2 l3 M
    else
    if iand a29 63 = 31 then
      mL_law_1053 L xs k18 l1 l2 l3 M
    else
    if iand a29 63 = 32 then
      mL_law_1066 L xs k18 l1 l2 l3 M
    else
    if iand a29 63 = 33 then
      mL_law_1089 L xs k18 l1 l2 l3 M
    else
    if iand a29 63 = 34 then
      mL_law_1112 L xs k18 l1 l2 l3 M
    else
    mL_law_1135 L xs k18 l1 l2 l3 M
noncomputable def mL_law_18 (L : Nat) (xs : Nat → Int32) : Nat → Int → Int → Int → Mem → Option (Int × Mem)
  | 0 => fun _ _ _ _ => none
  | fu + 1 => bL_law_18 L xs (mL_law_18 L xs fu)
noncomputable def mL_law (L : Nat) (xs : Nat → Int32) (M : Mem) : Option (Int × Mem) :=
  (some (nO 8 M)).bind fun q0 =>
  (gK 8 q0.2 q0.1).bind fun _ =>
  (mX8_init q0.1 q0.2).bind fun q4 =>
  (some (nO 9 q4.2)).bind fun q8 =>
  (gK 9 q8.2 q8.1).bind fun _ =>
  (mX9_init q8.1 q8.2).bind fun q12 =>
  mL_law_18 L xs FL q0.1 q8.1 0 q12.2
theorem tL_law_1135 {E : En} {p : Program} {l : Launch} {e : Env} {s : State} {m : MethodId} {b : Nat} {below : List Frame} {meth : Method} {c : Code} {nm : String} {L : Nat} {xs : Nat → Int32} {q : Int × Mem} {KF NF : Nat} {k18 : Int → Int → Int → Mem → Option (Int × Mem)} (hk18 : ∀ {l1 l2 l3 : Int} {M : Mem}, k18 l1 l2 l3 M = some q → G E p l e room_1 s m #[Value.ref b] below meth c 4 (lw_Z below #[Value.ref b] s) KF NF M 18 [(0, vR (-50)), (1, vR l1), (2, vR l2), (3, vI l3)] []) {l1 l2 l3 : Int} {M : Mem} (F : Fx E p s m #[Value.ref b] meth c code 4 R_law (some .boolean) nm) (X : LX E s b L xs) (hq : q.1 = 1) (h : mL_law_1135 L xs k18 l1 l2 l3 M = some q) : G E p l e room_1 s m #[Value.ref b] below meth c 4 (lw_Z below #[Value.ref b] s) KF NF M 1135 [(0, vR (-50)), (1, vR l1), (2, vR l2), (3, vI l3)] [] := by
  unfold mL_law_1135 at h
  refine r_iinc (j := 3) (ls' := [(3, vI (wI (l3 + 6))), (0, vR (-50)), (1, vR l1), (2, vR l2)]) F rfl (by decide) rfl dL_law_1135 ?_
  refine r_goto (tgt := 18) F (by decide) dL_law_1138 ?_
  refine r_sub [1, 2, 3, 0] (ls' := [(0, vR (-50)), (1, vR l1), (2, vR l2), (3, vI (wI (l3 + 6)))]) rfl ?_
  refine r_wide (k' := KF) (n' := NF) (by omega) (by omega) ?_
  exact hk18 h
theorem tL_law_1112 {E : En} {p : Program} {l : Launch} {e : Env} {s : State} {m : MethodId} {b : Nat} {below : List Frame} {meth : Method} {c : Code} {nm : String} {L : Nat} {xs : Nat → Int32} {q : Int × Mem} {KF NF : Nat} {k18 : Int → Int → Int → Mem → Option (Int × Mem)} (hk18 : ∀ {l1 l2 l3 : Int} {M : Mem}, k18 l1 l2 l3 M = some q → G E p l e room_1 s m #[Value.ref b] below meth c 4 (lw_Z below #[Value.ref b] s) KF NF M 18 [(0, vR (-50)), (1, vR l1), (2, vR l2), (3, vI l3)] []) {l1 l2 l3 : Int} {M : Mem} (F : Fx E p s m #[Value.ref b] meth c code 4 R_law (some .boolean) nm) (X : LX E s b L xs) (hq : q.1 = 1) (h : mL_law_1112 L xs k18 l1 l2 l3 M = some q) : G E p l e room_1 s m #[Value.ref b] below meth c 4 (lw_Z below #[Value.ref b] s) (KF + 6) (NF + 206) M 1112 [(0, vR (-50)), (1, vR l1), (2, vR l2), (3, vI l3)] [] := by
  unfold mL_law_1112 at h
  refine r_aload_n (j := 1) F rfl rfl dL_law_1112 ?_
  refine r_aload_n (j := 0) F rfl rfl dL_law_1113 ?_
  refine r_iload_n (j := 3) F rfl rfl dL_law_1114 ?_
  refine r_iconst F rfl dL_law_1115 ?_
  refine r_iadd F dL_law_1116 ?_
  replace h := bind_so h
  obtain ⟨a1117, h1117, h⟩ := h
  refine r_scld F X h1117 dL_law_1117 ?_
  replace h := bind_so h
  obtain ⟨_, g1118, h⟩ := h
  replace h := bind_so h
  obtain ⟨q1118, h1118, h⟩ := h
  refine r_callVK (as := [vI a1117]) (rv := (some (vI q1118.1))) (kc := 0) (nc := 0) (tX8_again h1118) clok_8 F (gK_so g1118) tw_1286 tw_1287 tw_1288 tw_1289 tw_112 ⟨by decide, by decide, show (parseMethodDescriptor yX8_again.desc).map (fun d => d.parameters.length) = some 1 by decide +kernel⟩ ⟨by decide, by decide⟩ (Nat.le_of_ble_eq_true rfl) dL_law_1118 (by omega) ?_
  refine r_pop F rfl dL_law_1121 ?_
  refine r_aload_n (j := 2) F rfl rfl dL_law_1122 ?_
  refine r_aload_n (j := 0) F rfl rfl dL_law_1123 ?_
  refine r_iload_n (j := 3) F rfl rfl dL_law_1124 ?_
  refine r_iconst F rfl dL_law_1125 ?_
  refine r_iadd F dL_law_1126 ?_
  replace h := bind_so h
  obtain ⟨a1127, h1127, h⟩ := h
  refine r_scld F X h1127 dL_law_1127 ?_
  replace h := bind_so h
  obtain ⟨_, g1128, h⟩ := h
  replace h := bind_so h
  obtain ⟨q1128, h1128, h⟩ := h
  refine r_callVK (as := [vI a1127]) (rv := (some (vI q1128.1))) (kc := 0) (nc := 0) (tX9_again h1128) clok_9 F (gK_so g1128) tw_1903 tw_1904 tw_1905 tw_1906 tw_122 ⟨by decide, by decide, show (parseMethodDescriptor yX9_again.desc).map (fun d => d.parameters.length) = some 1 by decide +kernel⟩ ⟨by decide, by decide⟩ (Nat.le_of_ble_eq_true rfl) dL_law_1128 (by omega) ?_
  refine r_pop F rfl dL_law_1131 ?_
  refine r_goto (tgt := 1135) F (by decide) dL_law_1132 ?_
  refine r_sub [0, 1, 2, 3] (ls' := [(0, vR (-50)), (1, vR l1), (2, vR l2), (3, vI l3)]) rfl ?_
  refine r_wide (k' := KF) (n' := NF) (by omega) (by omega) ?_
  exact tL_law_1135 (fun h => hk18 h) F X hq h
theorem tL_law_1089 {E : En} {p : Program} {l : Launch} {e : Env} {s : State} {m : MethodId} {b : Nat} {below : List Frame} {meth : Method} {c : Code} {nm : String} {L : Nat} {xs : Nat → Int32} {q : Int × Mem} {KF NF : Nat} {k18 : Int → Int → Int → Mem → Option (Int × Mem)} (hk18 : ∀ {l1 l2 l3 : Int} {M : Mem}, k18 l1 l2 l3 M = some q → G E p l e room_1 s m #[Value.ref b] below meth c 4 (lw_Z below #[Value.ref b] s) KF NF M 18 [(0, vR (-50)), (1, vR l1), (2, vR l2), (3, vI l3)] []) {l1 l2 l3 : Int} {M : Mem} (F : Fx E p s m #[Value.ref b] meth c code 4 R_law (some .boolean) nm) (X : LX E s b L xs) (hq : q.1 = 1) (h : mL_law_1089 L xs k18 l1 l2 l3 M = some q) : G E p l e room_1 s m #[Value.ref b] below meth c 4 (lw_Z below #[Value.ref b] s) (KF + 6) (NF + 206) M 1089 [(0, vR (-50)), (1, vR l1), (2, vR l2), (3, vI l3)] [] := by
  unfold mL_law_1089 at h
  refine r_aload_n (j := 1) F rfl rfl dL_law_1089 ?_
  refine r_aload_n (j := 0) F rfl rfl dL_law_1090 ?_
  refine r_iload_n (j := 3) F rfl rfl dL_law_1091 ?_
  refine r_iconst F rfl dL_law_1092 ?_
  refine r_iadd F dL_law_1093 ?_
  replace h := bind_so h
  obtain ⟨a1094, h1094, h⟩ := h
  refine r_scld F X h1094 dL_law_1094 ?_
  replace h := bind_so h
  obtain ⟨_, g1095, h⟩ := h
  replace h := bind_so h
  obtain ⟨q1095, h1095, h⟩ := h
  refine r_callVK (as := [vI a1094]) (rv := (some (vI q1095.1))) (kc := 0) (nc := 0) (tX8_image h1095) clok_8 F (gK_so g1095) tw_1268 tw_1269 tw_1270 tw_1271 tw_112 ⟨by decide, by decide, show (parseMethodDescriptor yX8_image.desc).map (fun d => d.parameters.length) = some 1 by decide +kernel⟩ ⟨by decide, by decide⟩ (Nat.le_of_ble_eq_true rfl) dL_law_1095 (by omega) ?_
  refine r_pop F rfl dL_law_1098 ?_
  refine r_aload_n (j := 2) F rfl rfl dL_law_1099 ?_
  refine r_aload_n (j := 0) F rfl rfl dL_law_1100 ?_
  refine r_iload_n (j := 3) F rfl rfl dL_law_1101 ?_
  refine r_iconst F rfl dL_law_1102 ?_
  refine r_iadd F dL_law_1103 ?_
  replace h := bind_so h
  obtain ⟨a1104, h1104, h⟩ := h
  refine r_scld F X h1104 dL_law_1104 ?_
  replace h := bind_so h
  obtain ⟨_, g1105, h⟩ := h
  replace h := bind_so h
  obtain ⟨q1105, h1105, h⟩ := h
  refine r_callVK (as := [vI a1104]) (rv := (some (vI q1105.1))) (kc := 0) (nc := 0) (tX9_image h1105) clok_9 F (gK_so g1105) tw_1892 tw_1893 tw_1894 tw_1895 tw_122 ⟨by decide, by decide, show (parseMethodDescriptor yX9_image.desc).map (fun d => d.parameters.length) = some 1 by decide +kernel⟩ ⟨by decide, by decide⟩ (Nat.le_of_ble_eq_true rfl) dL_law_1105 (by omega) ?_
  refine r_pop F rfl dL_law_1108 ?_
  refine r_goto (tgt := 1135) F (by decide) dL_law_1109 ?_
  refine r_sub [0, 1, 2, 3] (ls' := [(0, vR (-50)), (1, vR l1), (2, vR l2), (3, vI l3)]) rfl ?_
  refine r_wide (k' := KF) (n' := NF) (by omega) (by omega) ?_
  exact tL_law_1135 (fun h => hk18 h) F X hq h
theorem tL_law_1066 {E : En} {p : Program} {l : Launch} {e : Env} {s : State} {m : MethodId} {b : Nat} {below : List Frame} {meth : Method} {c : Code} {nm : String} {L : Nat} {xs : Nat → Int32} {q : Int × Mem} {KF NF : Nat} {k18 : Int → Int → Int → Mem → Option (Int × Mem)} (hk18 : ∀ {l1 l2 l3 : Int} {M : Mem}, k18 l1 l2 l3 M = some q → G E p l e room_1 s m #[Value.ref b] below meth c 4 (lw_Z below #[Value.ref b] s) KF NF M 18 [(0, vR (-50)), (1, vR l1), (2, vR l2), (3, vI l3)] []) {l1 l2 l3 : Int} {M : Mem} (F : Fx E p s m #[Value.ref b] meth c code 4 R_law (some .boolean) nm) (X : LX E s b L xs) (hq : q.1 = 1) (h : mL_law_1066 L xs k18 l1 l2 l3 M = some q) : G E p l e room_1 s m #[Value.ref b] below meth c 4 (lw_Z below #[Value.ref b] s) (KF + 6) (NF + 206) M 1066 [(0, vR (-50)), (1, vR l1), (2, vR l2), (3, vI l3)] [] := by
  unfold mL_law_1066 at h
  refine r_aload_n (j := 1) F rfl rfl dL_law_1066 ?_
  refine r_aload_n (j := 0) F rfl rfl dL_law_1067 ?_
  refine r_iload_n (j := 3) F rfl rfl dL_law_1068 ?_
  refine r_iconst F rfl dL_law_1069 ?_
  refine r_iadd F dL_law_1070 ?_
  replace h := bind_so h
  obtain ⟨a1071, h1071, h⟩ := h
  refine r_scld F X h1071 dL_law_1071 ?_
  replace h := bind_so h
  obtain ⟨_, g1072, h⟩ := h
  replace h := bind_so h
  obtain ⟨q1072, h1072, h⟩ := h
  refine r_callVK (as := [vI a1071]) (rv := (some (vI q1072.1))) (kc := 0) (nc := 0) (tX8_many h1072) clok_8 F (gK_so g1072) tw_1263 tw_1264 tw_1265 tw_1266 tw_112 ⟨by decide, by decide, show (parseMethodDescriptor yX8_many.desc).map (fun d => d.parameters.length) = some 1 by decide +kernel⟩ ⟨by decide, by decide⟩ (Nat.le_of_ble_eq_true rfl) dL_law_1072 (by omega) ?_
  refine r_pop F rfl dL_law_1075 ?_
  refine r_aload_n (j := 2) F rfl rfl dL_law_1076 ?_
  refine r_aload_n (j := 0) F rfl rfl dL_law_1077 ?_
  refine r_iload_n (j := 3) F rfl rfl dL_law_1078 ?_
  refine r_iconst F rfl dL_law_1079 ?_
  refine r_iadd F dL_law_1080 ?_
  replace h := bind_so h
  obtain ⟨a1081, h1081, h⟩ := h
  refine r_scld F X h1081 dL_law_1081 ?_
  replace h := bind_so h
  obtain ⟨_, g1082, h⟩ := h
  replace h := bind_so h
  obtain ⟨q1082, h1082, h⟩ := h
  refine r_callVK (as := [vI a1081]) (rv := (some (vI q1082.1))) (kc := 0) (nc := 0) (tX9_many h1082) clok_9 F (gK_so g1082) tw_1888 tw_1889 tw_1890 tw_1891 tw_122 ⟨by decide, by decide, show (parseMethodDescriptor yX9_many.desc).map (fun d => d.parameters.length) = some 1 by decide +kernel⟩ ⟨by decide, by decide⟩ (Nat.le_of_ble_eq_true rfl) dL_law_1082 (by omega) ?_
  refine r_pop F rfl dL_law_1085 ?_
  refine r_goto (tgt := 1135) F (by decide) dL_law_1086 ?_
  refine r_sub [0, 1, 2, 3] (ls' := [(0, vR (-50)), (1, vR l1), (2, vR l2), (3, vI l3)]) rfl ?_
  refine r_wide (k' := KF) (n' := NF) (by omega) (by omega) ?_
  exact tL_law_1135 (fun h => hk18 h) F X hq h
theorem tL_law_1053 {E : En} {p : Program} {l : Launch} {e : Env} {s : State} {m : MethodId} {b : Nat} {below : List Frame} {meth : Method} {c : Code} {nm : String} {L : Nat} {xs : Nat → Int32} {q : Int × Mem} {KF NF : Nat} {k18 : Int → Int → Int → Mem → Option (Int × Mem)} (hk18 : ∀ {l1 l2 l3 : Int} {M : Mem}, k18 l1 l2 l3 M = some q → G E p l e room_1 s m #[Value.ref b] below meth c 4 (lw_Z below #[Value.ref b] s) KF NF M 18 [(0, vR (-50)), (1, vR l1), (2, vR l2), (3, vI l3)] []) {l1 l2 l3 : Int} {M : Mem} (F : Fx E p s m #[Value.ref b] meth c code 4 R_law (some .boolean) nm) (X : LX E s b L xs) (hq : q.1 = 1) (h : mL_law_1053 L xs k18 l1 l2 l3 M = some q) : G E p l e room_1 s m #[Value.ref b] below meth c 4 (lw_Z below #[Value.ref b] s) (KF + 6) (NF + 206) M 1053 [(0, vR (-50)), (1, vR l1), (2, vR l2), (3, vI l3)] [] := by
  unfold mL_law_1053 at h
  refine r_aload_n (j := 1) F rfl rfl dL_law_1053 ?_
  replace h := bind_so h
  obtain ⟨_, g1054, h⟩ := h
  replace h := bind_so h
  obtain ⟨q1054, h1054, h⟩ := h
  refine r_callVK (as := []) (rv := (some (vI q1054.1))) (kc := 0) (nc := 0) (tX8_against h1054) clok_8 F (gK_so g1054) tw_1251 tw_1252 tw_1253 tw_1254 tw_112 ⟨by decide, by decide, show (parseMethodDescriptor yX8_against.desc).map (fun d => d.parameters.length) = some 0 by decide +kernel⟩ ⟨by decide, by decide⟩ (Nat.le_of_ble_eq_true rfl) dL_law_1054 (by omega) ?_
  refine r_pop F rfl dL_law_1057 ?_
  refine r_aload_n (j := 2) F rfl rfl dL_law_1058 ?_
  replace h := bind_so h
  obtain ⟨_, g1059, h⟩ := h
  replace h := bind_so h
  obtain ⟨q1059, h1059, h⟩ := h
  refine r_callVK (as := []) (rv := (some (vI q1059.1))) (kc := 0) (nc := 0) (tX9_against h1059) clok_9 F (gK_so g1059) tw_1884 tw_1885 tw_1886 tw_1887 tw_122 ⟨by decide, by decide, show (parseMethodDescriptor yX9_against.desc).map (fun d => d.parameters.length) = some 0 by decide +kernel⟩ ⟨by decide, by decide⟩ (Nat.le_of_ble_eq_true rfl) dL_law_1059 (by omega) ?_
  refine r_pop F rfl dL_law_1062 ?_
  refine r_goto (tgt := 1135) F (by decide) dL_law_1063 ?_
  refine r_sub [0, 1, 2, 3] (ls' := [(0, vR (-50)), (1, vR l1), (2, vR l2), (3, vI l3)]) rfl ?_
  refine r_wide (k' := KF) (n' := NF) (by omega) (by omega) ?_
  exact tL_law_1135 (fun h => hk18 h) F X hq h
theorem tL_law_1030 {E : En} {p : Program} {l : Launch} {e : Env} {s : State} {m : MethodId} {b : Nat} {below : List Frame} {meth : Method} {c : Code} {nm : String} {L : Nat} {xs : Nat → Int32} {q : Int × Mem} {KF NF : Nat} {k18 : Int → Int → Int → Mem → Option (Int × Mem)} (hk18 : ∀ {l1 l2 l3 : Int} {M : Mem}, k18 l1 l2 l3 M = some q → G E p l e room_1 s m #[Value.ref b] below meth c 4 (lw_Z below #[Value.ref b] s) KF NF M 18 [(0, vR (-50)), (1, vR l1), (2, vR l2), (3, vI l3)] []) {l1 l2 l3 : Int} {M : Mem} (F : Fx E p s m #[Value.ref b] meth c code 4 R_law (some .boolean) nm) (X : LX E s b L xs) (hq : q.1 = 1) (h : mL_law_1030 L xs k18 l1 l2 l3 M = some q) : G E p l e room_1 s m #[Value.ref b] below meth c 4 (lw_Z below #[Value.ref b] s) (KF + 6) (NF + 206) M 1030 [(0, vR (-50)), (1, vR l1), (2, vR l2), (3, vI l3)] [] := by
  unfold mL_law_1030 at h
  refine r_aload_n (j := 1) F rfl rfl dL_law_1030 ?_
  refine r_aload_n (j := 0) F rfl rfl dL_law_1031 ?_
  refine r_iload_n (j := 3) F rfl rfl dL_law_1032 ?_
  refine r_iconst F rfl dL_law_1033 ?_
  refine r_iadd F dL_law_1034 ?_
  replace h := bind_so h
  obtain ⟨a1035, h1035, h⟩ := h
  refine r_scld F X h1035 dL_law_1035 ?_
  replace h := bind_so h
  obtain ⟨_, g1036, h⟩ := h
  replace h := bind_so h
  obtain ⟨q1036, h1036, h⟩ := h
  refine r_callVK (as := [vI a1035]) (rv := (some (vI q1036.1))) (kc := 0) (nc := 0) (tX8_holds h1036) clok_8 F (gK_so g1036) tw_1239 tw_1240 tw_1241 tw_1242 tw_112 ⟨by decide, by decide, show (parseMethodDescriptor yX8_holds.desc).map (fun d => d.parameters.length) = some 1 by decide +kernel⟩ ⟨by decide, by decide⟩ (Nat.le_of_ble_eq_true rfl) dL_law_1036 (by omega) ?_
  refine r_pop F rfl dL_law_1039 ?_
  refine r_aload_n (j := 2) F rfl rfl dL_law_1040 ?_
  refine r_aload_n (j := 0) F rfl rfl dL_law_1041 ?_
  refine r_iload_n (j := 3) F rfl rfl dL_law_1042 ?_
  refine r_iconst F rfl dL_law_1043 ?_
  refine r_iadd F dL_law_1044 ?_
  replace h := bind_so h
  obtain ⟨a1045, h1045, h⟩ := h
  refine r_scld F X h1045 dL_law_1045 ?_
  replace h := bind_so h
  obtain ⟨_, g1046, h⟩ := h
  replace h := bind_so h
  obtain ⟨q1046, h1046, h⟩ := h
  refine r_callVK (as := [vI a1045]) (rv := (some (vI q1046.1))) (kc := 0) (nc := 0) (tX9_holds h1046) clok_9 F (gK_so g1046) tw_1880 tw_1881 tw_1882 tw_1883 tw_122 ⟨by decide, by decide, show (parseMethodDescriptor yX9_holds.desc).map (fun d => d.parameters.length) = some 1 by decide +kernel⟩ ⟨by decide, by decide⟩ (Nat.le_of_ble_eq_true rfl) dL_law_1046 (by omega) ?_
  refine r_pop F rfl dL_law_1049 ?_
  refine r_goto (tgt := 1135) F (by decide) dL_law_1050 ?_
  refine r_sub [0, 1, 2, 3] (ls' := [(0, vR (-50)), (1, vR l1), (2, vR l2), (3, vI l3)]) rfl ?_
  refine r_wide (k' := KF) (n' := NF) (by omega) (by omega) ?_
  exact tL_law_1135 (fun h => hk18 h) F X hq h
theorem tL_law_1017 {E : En} {p : Program} {l : Launch} {e : Env} {s : State} {m : MethodId} {b : Nat} {below : List Frame} {meth : Method} {c : Code} {nm : String} {L : Nat} {xs : Nat → Int32} {q : Int × Mem} {KF NF : Nat} {k18 : Int → Int → Int → Mem → Option (Int × Mem)} (hk18 : ∀ {l1 l2 l3 : Int} {M : Mem}, k18 l1 l2 l3 M = some q → G E p l e room_1 s m #[Value.ref b] below meth c 4 (lw_Z below #[Value.ref b] s) KF NF M 18 [(0, vR (-50)), (1, vR l1), (2, vR l2), (3, vI l3)] []) {l1 l2 l3 : Int} {M : Mem} (F : Fx E p s m #[Value.ref b] meth c code 4 R_law (some .boolean) nm) (X : LX E s b L xs) (hq : q.1 = 1) (h : mL_law_1017 L xs k18 l1 l2 l3 M = some q) : G E p l e room_1 s m #[Value.ref b] below meth c 4 (lw_Z below #[Value.ref b] s) (KF + 6) (NF + 206) M 1017 [(0, vR (-50)), (1, vR l1), (2, vR l2), (3, vI l3)] [] := by
  unfold mL_law_1017 at h
  refine r_aload_n (j := 1) F rfl rfl dL_law_1017 ?_
  replace h := bind_so h
  obtain ⟨_, g1018, h⟩ := h
  replace h := bind_so h
  obtain ⟨q1018, h1018, h⟩ := h
  refine r_callVK (as := []) (rv := (some (vI q1018.1))) (kc := 0) (nc := 0) (tX8_near h1018) clok_8 F (gK_so g1018) tw_1227 tw_1228 tw_1229 tw_1230 tw_112 ⟨by decide, by decide, show (parseMethodDescriptor yX8_near.desc).map (fun d => d.parameters.length) = some 0 by decide +kernel⟩ ⟨by decide, by decide⟩ (Nat.le_of_ble_eq_true rfl) dL_law_1018 (by omega) ?_
  refine r_pop F rfl dL_law_1021 ?_
  refine r_aload_n (j := 2) F rfl rfl dL_law_1022 ?_
  replace h := bind_so h
  obtain ⟨_, g1023, h⟩ := h
  replace h := bind_so h
  obtain ⟨q1023, h1023, h⟩ := h
  refine r_callVK (as := []) (rv := (some (vI q1023.1))) (kc := 0) (nc := 0) (tX9_near h1023) clok_9 F (gK_so g1023) tw_1876 tw_1877 tw_1878 tw_1879 tw_122 ⟨by decide, by decide, show (parseMethodDescriptor yX9_near.desc).map (fun d => d.parameters.length) = some 0 by decide +kernel⟩ ⟨by decide, by decide⟩ (Nat.le_of_ble_eq_true rfl) dL_law_1023 (by omega) ?_
  refine r_pop F rfl dL_law_1026 ?_
  refine r_goto (tgt := 1135) F (by decide) dL_law_1027 ?_
  refine r_sub [0, 1, 2, 3] (ls' := [(0, vR (-50)), (1, vR l1), (2, vR l2), (3, vI l3)]) rfl ?_
  refine r_wide (k' := KF) (n' := NF) (by omega) (by omega) ?_
  exact tL_law_1135 (fun h => hk18 h) F X hq h
theorem tL_law_994 {E : En} {p : Program} {l : Launch} {e : Env} {s : State} {m : MethodId} {b : Nat} {below : List Frame} {meth : Method} {c : Code} {nm : String} {L : Nat} {xs : Nat → Int32} {q : Int × Mem} {KF NF : Nat} {k18 : Int → Int → Int → Mem → Option (Int × Mem)} (hk18 : ∀ {l1 l2 l3 : Int} {M : Mem}, k18 l1 l2 l3 M = some q → G E p l e room_1 s m #[Value.ref b] below meth c 4 (lw_Z below #[Value.ref b] s) KF NF M 18 [(0, vR (-50)), (1, vR l1), (2, vR l2), (3, vI l3)] []) {l1 l2 l3 : Int} {M : Mem} (F : Fx E p s m #[Value.ref b] meth c code 4 R_law (some .boolean) nm) (X : LX E s b L xs) (hq : q.1 = 1) (h : mL_law_994 L xs k18 l1 l2 l3 M = some q) : G E p l e room_1 s m #[Value.ref b] below meth c 4 (lw_Z below #[Value.ref b] s) (KF + 6) (NF + 206) M 994 [(0, vR (-50)), (1, vR l1), (2, vR l2), (3, vI l3)] [] := by
  unfold mL_law_994 at h
  refine r_aload_n (j := 1) F rfl rfl dL_law_994 ?_
  refine r_aload_n (j := 0) F rfl rfl dL_law_995 ?_
  refine r_iload_n (j := 3) F rfl rfl dL_law_996 ?_
  refine r_iconst F rfl dL_law_997 ?_
  refine r_iadd F dL_law_998 ?_
  replace h := bind_so h
  obtain ⟨a999, h999, h⟩ := h
  refine r_scld F X h999 dL_law_999 ?_
  replace h := bind_so h
  obtain ⟨_, g1000, h⟩ := h
  replace h := bind_so h
  obtain ⟨q1000, h1000, h⟩ := h
  refine r_callVK (as := [vI a999]) (rv := (some (vI q1000.1))) (kc := 0) (nc := 0) (tX8_settle h1000) clok_8 F (gK_so g1000) tw_1198 tw_1199 tw_1200 tw_1201 tw_112 ⟨by decide, by decide, show (parseMethodDescriptor yX8_settle.desc).map (fun d => d.parameters.length) = some 1 by decide +kernel⟩ ⟨by decide, by decide⟩ (Nat.le_of_ble_eq_true rfl) dL_law_1000 (by omega) ?_
  refine r_pop F rfl dL_law_1003 ?_
  refine r_aload_n (j := 2) F rfl rfl dL_law_1004 ?_
  refine r_aload_n (j := 0) F rfl rfl dL_law_1005 ?_
  refine r_iload_n (j := 3) F rfl rfl dL_law_1006 ?_
  refine r_iconst F rfl dL_law_1007 ?_
  refine r_iadd F dL_law_1008 ?_
  replace h := bind_so h
  obtain ⟨a1009, h1009, h⟩ := h
  refine r_scld F X h1009 dL_law_1009 ?_
  replace h := bind_so h
  obtain ⟨_, g1010, h⟩ := h
  replace h := bind_so h
  obtain ⟨q1010, h1010, h⟩ := h
  refine r_callVK (as := [vI a1009]) (rv := (some (vI q1010.1))) (kc := 0) (nc := 0) (tX9_settle h1010) clok_9 F (gK_so g1010) tw_1872 tw_1873 tw_1874 tw_1875 tw_122 ⟨by decide, by decide, show (parseMethodDescriptor yX9_settle.desc).map (fun d => d.parameters.length) = some 1 by decide +kernel⟩ ⟨by decide, by decide⟩ (Nat.le_of_ble_eq_true rfl) dL_law_1010 (by omega) ?_
  refine r_pop F rfl dL_law_1013 ?_
  refine r_goto (tgt := 1135) F (by decide) dL_law_1014 ?_
  refine r_sub [0, 1, 2, 3] (ls' := [(0, vR (-50)), (1, vR l1), (2, vR l2), (3, vI l3)]) rfl ?_
  refine r_wide (k' := KF) (n' := NF) (by omega) (by omega) ?_
  exact tL_law_1135 (fun h => hk18 h) F X hq h
theorem tL_law_981 {E : En} {p : Program} {l : Launch} {e : Env} {s : State} {m : MethodId} {b : Nat} {below : List Frame} {meth : Method} {c : Code} {nm : String} {L : Nat} {xs : Nat → Int32} {q : Int × Mem} {KF NF : Nat} {k18 : Int → Int → Int → Mem → Option (Int × Mem)} (hk18 : ∀ {l1 l2 l3 : Int} {M : Mem}, k18 l1 l2 l3 M = some q → G E p l e room_1 s m #[Value.ref b] below meth c 4 (lw_Z below #[Value.ref b] s) KF NF M 18 [(0, vR (-50)), (1, vR l1), (2, vR l2), (3, vI l3)] []) {l1 l2 l3 : Int} {M : Mem} (F : Fx E p s m #[Value.ref b] meth c code 4 R_law (some .boolean) nm) (X : LX E s b L xs) (hq : q.1 = 1) (h : mL_law_981 L xs k18 l1 l2 l3 M = some q) : G E p l e room_1 s m #[Value.ref b] below meth c 4 (lw_Z below #[Value.ref b] s) (KF + 6) (NF + 206) M 981 [(0, vR (-50)), (1, vR l1), (2, vR l2), (3, vI l3)] [] := by
  unfold mL_law_981 at h
  refine r_aload_n (j := 1) F rfl rfl dL_law_981 ?_
  replace h := bind_so h
  obtain ⟨_, g982, h⟩ := h
  replace h := bind_so h
  obtain ⟨q982, h982, h⟩ := h
  refine r_callVK (as := []) (rv := (some (vI q982.1))) (kc := 0) (nc := 0) (tX8_questions h982) clok_8 F (gK_so g982) tw_1183 tw_1184 tw_1185 tw_1186 tw_112 ⟨by decide, by decide, show (parseMethodDescriptor yX8_questions.desc).map (fun d => d.parameters.length) = some 0 by decide +kernel⟩ ⟨by decide, by decide⟩ (Nat.le_of_ble_eq_true rfl) dL_law_982 (by omega) ?_
  refine r_pop F rfl dL_law_985 ?_
  refine r_aload_n (j := 2) F rfl rfl dL_law_986 ?_
  replace h := bind_so h
  obtain ⟨_, g987, h⟩ := h
  replace h := bind_so h
  obtain ⟨q987, h987, h⟩ := h
  refine r_callVK (as := []) (rv := (some (vI q987.1))) (kc := 0) (nc := 0) (tX9_questions h987) clok_9 F (gK_so g987) tw_1860 tw_1861 tw_1862 tw_1863 tw_122 ⟨by decide, by decide, show (parseMethodDescriptor yX9_questions.desc).map (fun d => d.parameters.length) = some 0 by decide +kernel⟩ ⟨by decide, by decide⟩ (Nat.le_of_ble_eq_true rfl) dL_law_987 (by omega) ?_
  refine r_pop F rfl dL_law_990 ?_
  refine r_goto (tgt := 1135) F (by decide) dL_law_991 ?_
  refine r_sub [0, 1, 2, 3] (ls' := [(0, vR (-50)), (1, vR l1), (2, vR l2), (3, vI l3)]) rfl ?_
  refine r_wide (k' := KF) (n' := NF) (by omega) (by omega) ?_
  exact tL_law_1135 (fun h => hk18 h) F X hq h
theorem tL_law_958 {E : En} {p : Program} {l : Launch} {e : Env} {s : State} {m : MethodId} {b : Nat} {below : List Frame} {meth : Method} {c : Code} {nm : String} {L : Nat} {xs : Nat → Int32} {q : Int × Mem} {KF NF : Nat} {k18 : Int → Int → Int → Mem → Option (Int × Mem)} (hk18 : ∀ {l1 l2 l3 : Int} {M : Mem}, k18 l1 l2 l3 M = some q → G E p l e room_1 s m #[Value.ref b] below meth c 4 (lw_Z below #[Value.ref b] s) KF NF M 18 [(0, vR (-50)), (1, vR l1), (2, vR l2), (3, vI l3)] []) {l1 l2 l3 : Int} {M : Mem} (F : Fx E p s m #[Value.ref b] meth c code 4 R_law (some .boolean) nm) (X : LX E s b L xs) (hq : q.1 = 1) (h : mL_law_958 L xs k18 l1 l2 l3 M = some q) : G E p l e room_1 s m #[Value.ref b] below meth c 4 (lw_Z below #[Value.ref b] s) (KF + 6) (NF + 206) M 958 [(0, vR (-50)), (1, vR l1), (2, vR l2), (3, vI l3)] [] := by
  unfold mL_law_958 at h
  refine r_aload_n (j := 1) F rfl rfl dL_law_958 ?_
  refine r_aload_n (j := 0) F rfl rfl dL_law_959 ?_
  refine r_iload_n (j := 3) F rfl rfl dL_law_960 ?_
  refine r_iconst F rfl dL_law_961 ?_
  refine r_iadd F dL_law_962 ?_
  replace h := bind_so h
  obtain ⟨a963, h963, h⟩ := h
  refine r_scld F X h963 dL_law_963 ?_
  replace h := bind_so h
  obtain ⟨_, g964, h⟩ := h
  replace h := bind_so h
  obtain ⟨q964, h964, h⟩ := h
  refine r_callVK (as := [vI a963]) (rv := (some (vI q964.1))) (kc := 0) (nc := 0) (tX8_without h964) clok_8 F (gK_so g964) tw_1174 tw_1175 tw_1176 tw_1177 tw_112 ⟨by decide, by decide, show (parseMethodDescriptor yX8_without.desc).map (fun d => d.parameters.length) = some 1 by decide +kernel⟩ ⟨by decide, by decide⟩ (Nat.le_of_ble_eq_true rfl) dL_law_964 (by omega) ?_
  refine r_pop F rfl dL_law_967 ?_
  refine r_aload_n (j := 2) F rfl rfl dL_law_968 ?_
  refine r_aload_n (j := 0) F rfl rfl dL_law_969 ?_
  refine r_iload_n (j := 3) F rfl rfl dL_law_970 ?_
  refine r_iconst F rfl dL_law_971 ?_
  refine r_iadd F dL_law_972 ?_
  replace h := bind_so h
  obtain ⟨a973, h973, h⟩ := h
  refine r_scld F X h973 dL_law_973 ?_
  replace h := bind_so h
  obtain ⟨_, g974, h⟩ := h
  replace h := bind_so h
  obtain ⟨q974, h974, h⟩ := h
  refine r_callVK (as := [vI a973]) (rv := (some (vI q974.1))) (kc := 0) (nc := 0) (tX9_without h974) clok_9 F (gK_so g974) tw_1856 tw_1857 tw_1858 tw_1859 tw_122 ⟨by decide, by decide, show (parseMethodDescriptor yX9_without.desc).map (fun d => d.parameters.length) = some 1 by decide +kernel⟩ ⟨by decide, by decide⟩ (Nat.le_of_ble_eq_true rfl) dL_law_974 (by omega) ?_
  refine r_pop F rfl dL_law_977 ?_
  refine r_goto (tgt := 1135) F (by decide) dL_law_978 ?_
  refine r_sub [0, 1, 2, 3] (ls' := [(0, vR (-50)), (1, vR l1), (2, vR l2), (3, vI l3)]) rfl ?_
  refine r_wide (k' := KF) (n' := NF) (by omega) (by omega) ?_
  exact tL_law_1135 (fun h => hk18 h) F X hq h
theorem tL_law_905 {E : En} {p : Program} {l : Launch} {e : Env} {s : State} {m : MethodId} {b : Nat} {below : List Frame} {meth : Method} {c : Code} {nm : String} {L : Nat} {xs : Nat → Int32} {q : Int × Mem} {KF NF : Nat} {k18 : Int → Int → Int → Mem → Option (Int × Mem)} (hk18 : ∀ {l1 l2 l3 : Int} {M : Mem}, k18 l1 l2 l3 M = some q → G E p l e room_1 s m #[Value.ref b] below meth c 4 (lw_Z below #[Value.ref b] s) KF NF M 18 [(0, vR (-50)), (1, vR l1), (2, vR l2), (3, vI l3)] []) {l1 l2 l3 : Int} {M : Mem} (F : Fx E p s m #[Value.ref b] meth c code 4 R_law (some .boolean) nm) (X : LX E s b L xs) (hq : q.1 = 1) (h : mL_law_905 L xs k18 l1 l2 l3 M = some q) : G E p l e room_1 s m #[Value.ref b] below meth c 4 (lw_Z below #[Value.ref b] s) (KF + 6) (NF + 206) M 905 [(0, vR (-50)), (1, vR l1), (2, vR l2), (3, vI l3)] [] := by
  unfold mL_law_905 at h
  refine r_aload_n (j := 1) F rfl rfl dL_law_905 ?_
  refine r_aload_n (j := 0) F rfl rfl dL_law_906 ?_
  refine r_iload_n (j := 3) F rfl rfl dL_law_907 ?_
  refine r_iconst F rfl dL_law_908 ?_
  refine r_iadd F dL_law_909 ?_
  replace h := bind_so h
  obtain ⟨a910, h910, h⟩ := h
  refine r_scld F X h910 dL_law_910 ?_
  refine r_aload_n (j := 0) F rfl rfl dL_law_911 ?_
  refine r_iload_n (j := 3) F rfl rfl dL_law_912 ?_
  refine r_iconst F rfl dL_law_913 ?_
  refine r_iadd F dL_law_914 ?_
  replace h := bind_so h
  obtain ⟨a915, h915, h⟩ := h
  refine r_scld F X h915 dL_law_915 ?_
  refine r_aload_n (j := 0) F rfl rfl dL_law_916 ?_
  refine r_iload_n (j := 3) F rfl rfl dL_law_917 ?_
  refine r_iconst F rfl dL_law_918 ?_
  refine r_iadd F dL_law_919 ?_
  replace h := bind_so h
  obtain ⟨a920, h920, h⟩ := h
  refine r_scld F X h920 dL_law_920 ?_
  refine r_aload_n (j := 0) F rfl rfl dL_law_921 ?_
  refine r_iload_n (j := 3) F rfl rfl dL_law_922 ?_
  refine r_iconst F rfl dL_law_923 ?_
  refine r_iadd F dL_law_924 ?_
  replace h := bind_so h
  obtain ⟨a925, h925, h⟩ := h
  refine r_scld F X h925 dL_law_925 ?_
  replace h := bind_so h
  obtain ⟨_, g926, h⟩ := h
  replace h := bind_so h
  obtain ⟨q926, h926, h⟩ := h
  refine r_callVK (as := [vI a910, vI a915, vI a920, vI a925]) (rv := (some (vI q926.1))) (kc := 0) (nc := 0) (tX8_cause h926) clok_8 F (gK_so g926) tw_1166 tw_1167 tw_1168 tw_1169 tw_112 ⟨by decide, by decide, show (parseMethodDescriptor yX8_cause.desc).map (fun d => d.parameters.length) = some 4 by decide +kernel⟩ ⟨by decide, by decide⟩ (Nat.le_of_ble_eq_true rfl) dL_law_926 (by omega) ?_
  refine r_pop F rfl dL_law_929 ?_
  refine r_aload_n (j := 2) F rfl rfl dL_law_930 ?_
  refine r_aload_n (j := 0) F rfl rfl dL_law_931 ?_
  refine r_iload_n (j := 3) F rfl rfl dL_law_932 ?_
  refine r_iconst F rfl dL_law_933 ?_
  refine r_iadd F dL_law_934 ?_
  replace h := bind_so h
  obtain ⟨a935, h935, h⟩ := h
  refine r_scld F X h935 dL_law_935 ?_
  refine r_aload_n (j := 0) F rfl rfl dL_law_936 ?_
  refine r_iload_n (j := 3) F rfl rfl dL_law_937 ?_
  refine r_iconst F rfl dL_law_938 ?_
  refine r_iadd F dL_law_939 ?_
  replace h := bind_so h
  obtain ⟨a940, h940, h⟩ := h
  refine r_scld F X h940 dL_law_940 ?_
  refine r_aload_n (j := 0) F rfl rfl dL_law_941 ?_
  refine r_iload_n (j := 3) F rfl rfl dL_law_942 ?_
  refine r_iconst F rfl dL_law_943 ?_
  refine r_iadd F dL_law_944 ?_
  replace h := bind_so h
  obtain ⟨a945, h945, h⟩ := h
  refine r_scld F X h945 dL_law_945 ?_
  refine r_aload_n (j := 0) F rfl rfl dL_law_946 ?_
  refine r_iload_n (j := 3) F rfl rfl dL_law_947 ?_
  refine r_iconst F rfl dL_law_948 ?_
  refine r_iadd F dL_law_949 ?_
  replace h := bind_so h
  obtain ⟨a950, h950, h⟩ := h
  refine r_scld F X h950 dL_law_950 ?_
  replace h := bind_so h
  obtain ⟨_, g951, h⟩ := h
  replace h := bind_so h
  obtain ⟨q951, h951, h⟩ := h
  refine r_callVK (as := [vI a935, vI a940, vI a945, vI a950]) (rv := (some (vI q951.1))) (kc := 0) (nc := 0) (tX9_cause h951) clok_9 F (gK_so g951) tw_1852 tw_1853 tw_1854 tw_1855 tw_122 ⟨by decide, by decide, show (parseMethodDescriptor yX9_cause.desc).map (fun d => d.parameters.length) = some 4 by decide +kernel⟩ ⟨by decide, by decide⟩ (Nat.le_of_ble_eq_true rfl) dL_law_951 (by omega) ?_
  refine r_pop F rfl dL_law_954 ?_
  refine r_goto (tgt := 1135) F (by decide) dL_law_955 ?_
  refine r_sub [0, 1, 2, 3] (ls' := [(0, vR (-50)), (1, vR l1), (2, vR l2), (3, vI l3)]) rfl ?_
  refine r_wide (k' := KF) (n' := NF) (by omega) (by omega) ?_
  exact tL_law_1135 (fun h => hk18 h) F X hq h
theorem tL_law_862 {E : En} {p : Program} {l : Launch} {e : Env} {s : State} {m : MethodId} {b : Nat} {below : List Frame} {meth : Method} {c : Code} {nm : String} {L : Nat} {xs : Nat → Int32} {q : Int × Mem} {KF NF : Nat} {k18 : Int → Int → Int → Mem → Option (Int × Mem)} (hk18 : ∀ {l1 l2 l3 : Int} {M : Mem}, k18 l1 l2 l3 M = some q → G E p l e room_1 s m #[Value.ref b] below meth c 4 (lw_Z below #[Value.ref b] s) KF NF M 18 [(0, vR (-50)), (1, vR l1), (2, vR l2), (3, vI l3)] []) {l1 l2 l3 : Int} {M : Mem} (F : Fx E p s m #[Value.ref b] meth c code 4 R_law (some .boolean) nm) (X : LX E s b L xs) (hq : q.1 = 1) (h : mL_law_862 L xs k18 l1 l2 l3 M = some q) : G E p l e room_1 s m #[Value.ref b] below meth c 4 (lw_Z below #[Value.ref b] s) (KF + 6) (NF + 206) M 862 [(0, vR (-50)), (1, vR l1), (2, vR l2), (3, vI l3)] [] := by
  unfold mL_law_862 at h
  refine r_aload_n (j := 1) F rfl rfl dL_law_862 ?_
  refine r_aload_n (j := 0) F rfl rfl dL_law_863 ?_
  refine r_iload_n (j := 3) F rfl rfl dL_law_864 ?_
  refine r_iconst F rfl dL_law_865 ?_
  refine r_iadd F dL_law_866 ?_
  replace h := bind_so h
  obtain ⟨a867, h867, h⟩ := h
  refine r_scld F X h867 dL_law_867 ?_
  refine r_aload_n (j := 0) F rfl rfl dL_law_868 ?_
  refine r_iload_n (j := 3) F rfl rfl dL_law_869 ?_
  refine r_iconst F rfl dL_law_870 ?_
  refine r_iadd F dL_law_871 ?_
  replace h := bind_so h
  obtain ⟨a872, h872, h⟩ := h
  refine r_scld F X h872 dL_law_872 ?_
  refine r_aload_n (j := 0) F rfl rfl dL_law_873 ?_
  refine r_iload_n (j := 3) F rfl rfl dL_law_874 ?_
  refine r_iconst F rfl dL_law_875 ?_
  refine r_iadd F dL_law_876 ?_
  replace h := bind_so h
  obtain ⟨a877, h877, h⟩ := h
  refine r_scld F X h877 dL_law_877 ?_
  replace h := bind_so h
  obtain ⟨_, g878, h⟩ := h
  replace h := bind_so h
  obtain ⟨q878, h878, h⟩ := h
  refine r_callVK (as := [vI a867, vI a872, vI a877]) (rv := (some (vI q878.1))) (kc := 0) (nc := 0) (tX8_sure h878) clok_8 F (gK_so g878) tw_1154 tw_1155 tw_1156 tw_1157 tw_112 ⟨by decide, by decide, show (parseMethodDescriptor yX8_sure.desc).map (fun d => d.parameters.length) = some 3 by decide +kernel⟩ ⟨by decide, by decide⟩ (Nat.le_of_ble_eq_true rfl) dL_law_878 (by omega) ?_
  refine r_pop F rfl dL_law_881 ?_
  refine r_aload_n (j := 2) F rfl rfl dL_law_882 ?_
  refine r_aload_n (j := 0) F rfl rfl dL_law_883 ?_
  refine r_iload_n (j := 3) F rfl rfl dL_law_884 ?_
  refine r_iconst F rfl dL_law_885 ?_
  refine r_iadd F dL_law_886 ?_
  replace h := bind_so h
  obtain ⟨a887, h887, h⟩ := h
  refine r_scld F X h887 dL_law_887 ?_
  refine r_aload_n (j := 0) F rfl rfl dL_law_888 ?_
  refine r_iload_n (j := 3) F rfl rfl dL_law_889 ?_
  refine r_iconst F rfl dL_law_890 ?_
  refine r_iadd F dL_law_891 ?_
  replace h := bind_so h
  obtain ⟨a892, h892, h⟩ := h
  refine r_scld F X h892 dL_law_892 ?_
  refine r_aload_n (j := 0) F rfl rfl dL_law_893 ?_
  refine r_iload_n (j := 3) F rfl rfl dL_law_894 ?_
  refine r_iconst F rfl dL_law_895 ?_
  refine r_iadd F dL_law_896 ?_
  replace h := bind_so h
  obtain ⟨a897, h897, h⟩ := h
  refine r_scld F X h897 dL_law_897 ?_
  replace h := bind_so h
  obtain ⟨_, g898, h⟩ := h
  replace h := bind_so h
  obtain ⟨q898, h898, h⟩ := h
  refine r_callVK (as := [vI a887, vI a892, vI a897]) (rv := (some (vI q898.1))) (kc := 0) (nc := 0) (tX9_sure h898) clok_9 F (gK_so g898) tw_1844 tw_1845 tw_1846 tw_1847 tw_122 ⟨by decide, by decide, show (parseMethodDescriptor yX9_sure.desc).map (fun d => d.parameters.length) = some 3 by decide +kernel⟩ ⟨by decide, by decide⟩ (Nat.le_of_ble_eq_true rfl) dL_law_898 (by omega) ?_
  refine r_pop F rfl dL_law_901 ?_
  refine r_goto (tgt := 1135) F (by decide) dL_law_902 ?_
  refine r_sub [0, 1, 2, 3] (ls' := [(0, vR (-50)), (1, vR l1), (2, vR l2), (3, vI l3)]) rfl ?_
  refine r_wide (k' := KF) (n' := NF) (by omega) (by omega) ?_
  exact tL_law_1135 (fun h => hk18 h) F X hq h
theorem tL_law_839 {E : En} {p : Program} {l : Launch} {e : Env} {s : State} {m : MethodId} {b : Nat} {below : List Frame} {meth : Method} {c : Code} {nm : String} {L : Nat} {xs : Nat → Int32} {q : Int × Mem} {KF NF : Nat} {k18 : Int → Int → Int → Mem → Option (Int × Mem)} (hk18 : ∀ {l1 l2 l3 : Int} {M : Mem}, k18 l1 l2 l3 M = some q → G E p l e room_1 s m #[Value.ref b] below meth c 4 (lw_Z below #[Value.ref b] s) KF NF M 18 [(0, vR (-50)), (1, vR l1), (2, vR l2), (3, vI l3)] []) {l1 l2 l3 : Int} {M : Mem} (F : Fx E p s m #[Value.ref b] meth c code 4 R_law (some .boolean) nm) (X : LX E s b L xs) (hq : q.1 = 1) (h : mL_law_839 L xs k18 l1 l2 l3 M = some q) : G E p l e room_1 s m #[Value.ref b] below meth c 4 (lw_Z below #[Value.ref b] s) (KF + 6) (NF + 206) M 839 [(0, vR (-50)), (1, vR l1), (2, vR l2), (3, vI l3)] [] := by
  unfold mL_law_839 at h
  refine r_aload_n (j := 1) F rfl rfl dL_law_839 ?_
  refine r_aload_n (j := 0) F rfl rfl dL_law_840 ?_
  refine r_iload_n (j := 3) F rfl rfl dL_law_841 ?_
  refine r_iconst F rfl dL_law_842 ?_
  refine r_iadd F dL_law_843 ?_
  replace h := bind_so h
  obtain ⟨a844, h844, h⟩ := h
  refine r_scld F X h844 dL_law_844 ?_
  replace h := bind_so h
  obtain ⟨_, g845, h⟩ := h
  replace h := bind_so h
  obtain ⟨q845, h845, h⟩ := h
  refine r_callVK (as := [vI a844]) (rv := (some (vI q845.1))) (kc := 0) (nc := 0) (tX8_core h845) clok_8 F (gK_so g845) tw_1127 tw_1128 tw_1129 tw_1130 tw_112 ⟨by decide, by decide, show (parseMethodDescriptor yX8_core.desc).map (fun d => d.parameters.length) = some 1 by decide +kernel⟩ ⟨by decide, by decide⟩ (Nat.le_of_ble_eq_true rfl) dL_law_845 (by omega) ?_
  refine r_pop F rfl dL_law_848 ?_
  refine r_aload_n (j := 2) F rfl rfl dL_law_849 ?_
  refine r_aload_n (j := 0) F rfl rfl dL_law_850 ?_
  refine r_iload_n (j := 3) F rfl rfl dL_law_851 ?_
  refine r_iconst F rfl dL_law_852 ?_
  refine r_iadd F dL_law_853 ?_
  replace h := bind_so h
  obtain ⟨a854, h854, h⟩ := h
  refine r_scld F X h854 dL_law_854 ?_
  replace h := bind_so h
  obtain ⟨_, g855, h⟩ := h
  replace h := bind_so h
  obtain ⟨q855, h855, h⟩ := h
  refine r_callVK (as := [vI a854]) (rv := (some (vI q855.1))) (kc := 0) (nc := 0) (tX9_core h855) clok_9 F (gK_so g855) tw_1822 tw_1823 tw_1824 tw_1825 tw_122 ⟨by decide, by decide, show (parseMethodDescriptor yX9_core.desc).map (fun d => d.parameters.length) = some 1 by decide +kernel⟩ ⟨by decide, by decide⟩ (Nat.le_of_ble_eq_true rfl) dL_law_855 (by omega) ?_
  refine r_pop F rfl dL_law_858 ?_
  refine r_goto (tgt := 1135) F (by decide) dL_law_859 ?_
  refine r_sub [0, 1, 2, 3] (ls' := [(0, vR (-50)), (1, vR l1), (2, vR l2), (3, vI l3)]) rfl ?_
  refine r_wide (k' := KF) (n' := NF) (by omega) (by omega) ?_
  exact tL_law_1135 (fun h => hk18 h) F X hq h
theorem tL_law_816 {E : En} {p : Program} {l : Launch} {e : Env} {s : State} {m : MethodId} {b : Nat} {below : List Frame} {meth : Method} {c : Code} {nm : String} {L : Nat} {xs : Nat → Int32} {q : Int × Mem} {KF NF : Nat} {k18 : Int → Int → Int → Mem → Option (Int × Mem)} (hk18 : ∀ {l1 l2 l3 : Int} {M : Mem}, k18 l1 l2 l3 M = some q → G E p l e room_1 s m #[Value.ref b] below meth c 4 (lw_Z below #[Value.ref b] s) KF NF M 18 [(0, vR (-50)), (1, vR l1), (2, vR l2), (3, vI l3)] []) {l1 l2 l3 : Int} {M : Mem} (F : Fx E p s m #[Value.ref b] meth c code 4 R_law (some .boolean) nm) (X : LX E s b L xs) (hq : q.1 = 1) (h : mL_law_816 L xs k18 l1 l2 l3 M = some q) : G E p l e room_1 s m #[Value.ref b] below meth c 4 (lw_Z below #[Value.ref b] s) (KF + 6) (NF + 206) M 816 [(0, vR (-50)), (1, vR l1), (2, vR l2), (3, vI l3)] [] := by
  unfold mL_law_816 at h
  refine r_aload_n (j := 1) F rfl rfl dL_law_816 ?_
  refine r_aload_n (j := 0) F rfl rfl dL_law_817 ?_
  refine r_iload_n (j := 3) F rfl rfl dL_law_818 ?_
  refine r_iconst F rfl dL_law_819 ?_
  refine r_iadd F dL_law_820 ?_
  replace h := bind_so h
  obtain ⟨a821, h821, h⟩ := h
  refine r_scld F X h821 dL_law_821 ?_
  replace h := bind_so h
  obtain ⟨_, g822, h⟩ := h
  replace h := bind_so h
  obtain ⟨q822, h822, h⟩ := h
  refine r_callVK (as := [vI a821]) (rv := (some (vI q822.1))) (kc := 0) (nc := 0) (tX8_least h822) clok_8 F (gK_so g822) tw_1103 tw_1104 tw_1105 tw_1106 tw_112 ⟨by decide, by decide, show (parseMethodDescriptor yX8_least.desc).map (fun d => d.parameters.length) = some 1 by decide +kernel⟩ ⟨by decide, by decide⟩ (Nat.le_of_ble_eq_true rfl) dL_law_822 (by omega) ?_
  refine r_pop F rfl dL_law_825 ?_
  refine r_aload_n (j := 2) F rfl rfl dL_law_826 ?_
  refine r_aload_n (j := 0) F rfl rfl dL_law_827 ?_
  refine r_iload_n (j := 3) F rfl rfl dL_law_828 ?_
  refine r_iconst F rfl dL_law_829 ?_
  refine r_iadd F dL_law_830 ?_
  replace h := bind_so h
  obtain ⟨a831, h831, h⟩ := h
  refine r_scld F X h831 dL_law_831 ?_
  replace h := bind_so h
  obtain ⟨_, g832, h⟩ := h
  replace h := bind_so h
  obtain ⟨q832, h832, h⟩ := h
  refine r_callVK (as := [vI a831]) (rv := (some (vI q832.1))) (kc := 0) (nc := 0) (tX9_least h832) clok_9 F (gK_so g832) tw_1814 tw_1815 tw_1816 tw_1817 tw_122 ⟨by decide, by decide, show (parseMethodDescriptor yX9_least.desc).map (fun d => d.parameters.length) = some 1 by decide +kernel⟩ ⟨by decide, by decide⟩ (Nat.le_of_ble_eq_true rfl) dL_law_832 (by omega) ?_
  refine r_pop F rfl dL_law_835 ?_
  refine r_goto (tgt := 1135) F (by decide) dL_law_836 ?_
  refine r_sub [0, 1, 2, 3] (ls' := [(0, vR (-50)), (1, vR l1), (2, vR l2), (3, vI l3)]) rfl ?_
  refine r_wide (k' := KF) (n' := NF) (by omega) (by omega) ?_
  exact tL_law_1135 (fun h => hk18 h) F X hq h
theorem tL_law_803 {E : En} {p : Program} {l : Launch} {e : Env} {s : State} {m : MethodId} {b : Nat} {below : List Frame} {meth : Method} {c : Code} {nm : String} {L : Nat} {xs : Nat → Int32} {q : Int × Mem} {KF NF : Nat} {k18 : Int → Int → Int → Mem → Option (Int × Mem)} (hk18 : ∀ {l1 l2 l3 : Int} {M : Mem}, k18 l1 l2 l3 M = some q → G E p l e room_1 s m #[Value.ref b] below meth c 4 (lw_Z below #[Value.ref b] s) KF NF M 18 [(0, vR (-50)), (1, vR l1), (2, vR l2), (3, vI l3)] []) {l1 l2 l3 : Int} {M : Mem} (F : Fx E p s m #[Value.ref b] meth c code 4 R_law (some .boolean) nm) (X : LX E s b L xs) (hq : q.1 = 1) (h : mL_law_803 L xs k18 l1 l2 l3 M = some q) : G E p l e room_1 s m #[Value.ref b] below meth c 4 (lw_Z below #[Value.ref b] s) (KF + 6) (NF + 206) M 803 [(0, vR (-50)), (1, vR l1), (2, vR l2), (3, vI l3)] [] := by
  unfold mL_law_803 at h
  refine r_aload_n (j := 1) F rfl rfl dL_law_803 ?_
  replace h := bind_so h
  obtain ⟨_, g804, h⟩ := h
  replace h := bind_so h
  obtain ⟨q804, h804, h⟩ := h
  refine r_callVK (as := []) (rv := (some (vI q804.1))) (kc := 0) (nc := 0) (tX8_name h804) clok_8 F (gK_so g804) tw_1091 tw_1092 tw_1093 tw_1094 tw_112 ⟨by decide, by decide, show (parseMethodDescriptor yX8_name.desc).map (fun d => d.parameters.length) = some 0 by decide +kernel⟩ ⟨by decide, by decide⟩ (Nat.le_of_ble_eq_true rfl) dL_law_804 (by omega) ?_
  refine r_pop F rfl dL_law_807 ?_
  refine r_aload_n (j := 2) F rfl rfl dL_law_808 ?_
  replace h := bind_so h
  obtain ⟨_, g809, h⟩ := h
  replace h := bind_so h
  obtain ⟨q809, h809, h⟩ := h
  refine r_callVK (as := []) (rv := (some (vI q809.1))) (kc := 0) (nc := 0) (tX9_name h809) clok_9 F (gK_so g809) tw_1810 tw_1811 tw_1812 tw_1813 tw_122 ⟨by decide, by decide, show (parseMethodDescriptor yX9_name.desc).map (fun d => d.parameters.length) = some 0 by decide +kernel⟩ ⟨by decide, by decide⟩ (Nat.le_of_ble_eq_true rfl) dL_law_809 (by omega) ?_
  refine r_pop F rfl dL_law_812 ?_
  refine r_goto (tgt := 1135) F (by decide) dL_law_813 ?_
  refine r_sub [0, 1, 2, 3] (ls' := [(0, vR (-50)), (1, vR l1), (2, vR l2), (3, vI l3)]) rfl ?_
  refine r_wide (k' := KF) (n' := NF) (by omega) (by omega) ?_
  exact tL_law_1135 (fun h => hk18 h) F X hq h
theorem tL_law_780 {E : En} {p : Program} {l : Launch} {e : Env} {s : State} {m : MethodId} {b : Nat} {below : List Frame} {meth : Method} {c : Code} {nm : String} {L : Nat} {xs : Nat → Int32} {q : Int × Mem} {KF NF : Nat} {k18 : Int → Int → Int → Mem → Option (Int × Mem)} (hk18 : ∀ {l1 l2 l3 : Int} {M : Mem}, k18 l1 l2 l3 M = some q → G E p l e room_1 s m #[Value.ref b] below meth c 4 (lw_Z below #[Value.ref b] s) KF NF M 18 [(0, vR (-50)), (1, vR l1), (2, vR l2), (3, vI l3)] []) {l1 l2 l3 : Int} {M : Mem} (F : Fx E p s m #[Value.ref b] meth c code 4 R_law (some .boolean) nm) (X : LX E s b L xs) (hq : q.1 = 1) (h : mL_law_780 L xs k18 l1 l2 l3 M = some q) : G E p l e room_1 s m #[Value.ref b] below meth c 4 (lw_Z below #[Value.ref b] s) (KF + 6) (NF + 206) M 780 [(0, vR (-50)), (1, vR l1), (2, vR l2), (3, vI l3)] [] := by
  unfold mL_law_780 at h
  refine r_aload_n (j := 1) F rfl rfl dL_law_780 ?_
  refine r_aload_n (j := 0) F rfl rfl dL_law_781 ?_
  refine r_iload_n (j := 3) F rfl rfl dL_law_782 ?_
  refine r_iconst F rfl dL_law_783 ?_
  refine r_iadd F dL_law_784 ?_
  replace h := bind_so h
  obtain ⟨a785, h785, h⟩ := h
  refine r_scld F X h785 dL_law_785 ?_
  replace h := bind_so h
  obtain ⟨_, g786, h⟩ := h
  replace h := bind_so h
  obtain ⟨q786, h786, h⟩ := h
  refine r_callVK (as := [vI a785]) (rv := (some (vI q786.1))) (kc := 0) (nc := 0) (tX8_form h786) clok_8 F (gK_so g786) tw_1074 tw_1075 tw_1076 tw_1077 tw_112 ⟨by decide, by decide, show (parseMethodDescriptor yX8_form.desc).map (fun d => d.parameters.length) = some 1 by decide +kernel⟩ ⟨by decide, by decide⟩ (Nat.le_of_ble_eq_true rfl) dL_law_786 (by omega) ?_
  refine r_pop F rfl dL_law_789 ?_
  refine r_aload_n (j := 2) F rfl rfl dL_law_790 ?_
  refine r_aload_n (j := 0) F rfl rfl dL_law_791 ?_
  refine r_iload_n (j := 3) F rfl rfl dL_law_792 ?_
  refine r_iconst F rfl dL_law_793 ?_
  refine r_iadd F dL_law_794 ?_
  replace h := bind_so h
  obtain ⟨a795, h795, h⟩ := h
  refine r_scld F X h795 dL_law_795 ?_
  replace h := bind_so h
  obtain ⟨_, g796, h⟩ := h
  replace h := bind_so h
  obtain ⟨q796, h796, h⟩ := h
  refine r_callVK (as := [vI a795]) (rv := (some (vI q796.1))) (kc := 0) (nc := 0) (tX9_form h796) clok_9 F (gK_so g796) tw_1802 tw_1803 tw_1804 tw_1805 tw_122 ⟨by decide, by decide, show (parseMethodDescriptor yX9_form.desc).map (fun d => d.parameters.length) = some 1 by decide +kernel⟩ ⟨by decide, by decide⟩ (Nat.le_of_ble_eq_true rfl) dL_law_796 (by omega) ?_
  refine r_pop F rfl dL_law_799 ?_
  refine r_goto (tgt := 1135) F (by decide) dL_law_800 ?_
  refine r_sub [0, 1, 2, 3] (ls' := [(0, vR (-50)), (1, vR l1), (2, vR l2), (3, vI l3)]) rfl ?_
  refine r_wide (k' := KF) (n' := NF) (by omega) (by omega) ?_
  exact tL_law_1135 (fun h => hk18 h) F X hq h
theorem tL_law_767 {E : En} {p : Program} {l : Launch} {e : Env} {s : State} {m : MethodId} {b : Nat} {below : List Frame} {meth : Method} {c : Code} {nm : String} {L : Nat} {xs : Nat → Int32} {q : Int × Mem} {KF NF : Nat} {k18 : Int → Int → Int → Mem → Option (Int × Mem)} (hk18 : ∀ {l1 l2 l3 : Int} {M : Mem}, k18 l1 l2 l3 M = some q → G E p l e room_1 s m #[Value.ref b] below meth c 4 (lw_Z below #[Value.ref b] s) KF NF M 18 [(0, vR (-50)), (1, vR l1), (2, vR l2), (3, vI l3)] []) {l1 l2 l3 : Int} {M : Mem} (F : Fx E p s m #[Value.ref b] meth c code 4 R_law (some .boolean) nm) (X : LX E s b L xs) (hq : q.1 = 1) (h : mL_law_767 L xs k18 l1 l2 l3 M = some q) : G E p l e room_1 s m #[Value.ref b] below meth c 4 (lw_Z below #[Value.ref b] s) (KF + 6) (NF + 206) M 767 [(0, vR (-50)), (1, vR l1), (2, vR l2), (3, vI l3)] [] := by
  unfold mL_law_767 at h
  refine r_aload_n (j := 1) F rfl rfl dL_law_767 ?_
  replace h := bind_so h
  obtain ⟨_, g768, h⟩ := h
  replace h := bind_so h
  obtain ⟨q768, h768, h⟩ := h
  refine r_callVK (as := []) (rv := (some (vI q768.1))) (kc := 0) (nc := 0) (tX8_forms h768) clok_8 F (gK_so g768) tw_1040 tw_1041 tw_1042 tw_1043 tw_112 ⟨by decide, by decide, show (parseMethodDescriptor yX8_forms.desc).map (fun d => d.parameters.length) = some 0 by decide +kernel⟩ ⟨by decide, by decide⟩ (Nat.le_of_ble_eq_true rfl) dL_law_768 (by omega) ?_
  refine r_pop F rfl dL_law_771 ?_
  refine r_aload_n (j := 2) F rfl rfl dL_law_772 ?_
  replace h := bind_so h
  obtain ⟨_, g773, h⟩ := h
  replace h := bind_so h
  obtain ⟨q773, h773, h⟩ := h
  refine r_callVK (as := []) (rv := (some (vI q773.1))) (kc := 0) (nc := 0) (tX9_forms h773) clok_9 F (gK_so g773) tw_1790 tw_1791 tw_1792 tw_1793 tw_122 ⟨by decide, by decide, show (parseMethodDescriptor yX9_forms.desc).map (fun d => d.parameters.length) = some 0 by decide +kernel⟩ ⟨by decide, by decide⟩ (Nat.le_of_ble_eq_true rfl) dL_law_773 (by omega) ?_
  refine r_pop F rfl dL_law_776 ?_
  refine r_goto (tgt := 1135) F (by decide) dL_law_777 ?_
  refine r_sub [0, 1, 2, 3] (ls' := [(0, vR (-50)), (1, vR l1), (2, vR l2), (3, vI l3)]) rfl ?_
  refine r_wide (k' := KF) (n' := NF) (by omega) (by omega) ?_
  exact tL_law_1135 (fun h => hk18 h) F X hq h
theorem tL_law_754 {E : En} {p : Program} {l : Launch} {e : Env} {s : State} {m : MethodId} {b : Nat} {below : List Frame} {meth : Method} {c : Code} {nm : String} {L : Nat} {xs : Nat → Int32} {q : Int × Mem} {KF NF : Nat} {k18 : Int → Int → Int → Mem → Option (Int × Mem)} (hk18 : ∀ {l1 l2 l3 : Int} {M : Mem}, k18 l1 l2 l3 M = some q → G E p l e room_1 s m #[Value.ref b] below meth c 4 (lw_Z below #[Value.ref b] s) KF NF M 18 [(0, vR (-50)), (1, vR l1), (2, vR l2), (3, vI l3)] []) {l1 l2 l3 : Int} {M : Mem} (F : Fx E p s m #[Value.ref b] meth c code 4 R_law (some .boolean) nm) (X : LX E s b L xs) (hq : q.1 = 1) (h : mL_law_754 L xs k18 l1 l2 l3 M = some q) : G E p l e room_1 s m #[Value.ref b] below meth c 4 (lw_Z below #[Value.ref b] s) (KF + 6) (NF + 206) M 754 [(0, vR (-50)), (1, vR l1), (2, vR l2), (3, vI l3)] [] := by
  unfold mL_law_754 at h
  refine r_aload_n (j := 1) F rfl rfl dL_law_754 ?_
  replace h := bind_so h
  obtain ⟨_, g755, h⟩ := h
  replace h := bind_so h
  obtain ⟨q755, h755, h⟩ := h
  refine r_callVK (as := []) (rv := (some (vI q755.1))) (kc := 0) (nc := 0) (tX8_worlds h755) clok_8 F (gK_so g755) tw_957 tw_958 tw_959 tw_960 tw_112 ⟨by decide, by decide, show (parseMethodDescriptor yX8_worlds.desc).map (fun d => d.parameters.length) = some 0 by decide +kernel⟩ ⟨by decide, by decide⟩ (Nat.le_of_ble_eq_true rfl) dL_law_755 (by omega) ?_
  refine r_pop F rfl dL_law_758 ?_
  refine r_aload_n (j := 2) F rfl rfl dL_law_759 ?_
  replace h := bind_so h
  obtain ⟨_, g760, h⟩ := h
  replace h := bind_so h
  obtain ⟨q760, h760, h⟩ := h
  refine r_callVK (as := []) (rv := (some (vI q760.1))) (kc := 0) (nc := 0) (tX9_worlds h760) clok_9 F (gK_so g760) tw_1762 tw_1763 tw_1764 tw_1765 tw_122 ⟨by decide, by decide, show (parseMethodDescriptor yX9_worlds.desc).map (fun d => d.parameters.length) = some 0 by decide +kernel⟩ ⟨by decide, by decide⟩ (Nat.le_of_ble_eq_true rfl) dL_law_760 (by omega) ?_
  refine r_pop F rfl dL_law_763 ?_
  refine r_goto (tgt := 1135) F (by decide) dL_law_764 ?_
  refine r_sub [0, 1, 2, 3] (ls' := [(0, vR (-50)), (1, vR l1), (2, vR l2), (3, vI l3)]) rfl ?_
  refine r_wide (k' := KF) (n' := NF) (by omega) (by omega) ?_
  exact tL_law_1135 (fun h => hk18 h) F X hq h
theorem tL_law_721 {E : En} {p : Program} {l : Launch} {e : Env} {s : State} {m : MethodId} {b : Nat} {below : List Frame} {meth : Method} {c : Code} {nm : String} {L : Nat} {xs : Nat → Int32} {q : Int × Mem} {KF NF : Nat} {k18 : Int → Int → Int → Mem → Option (Int × Mem)} (hk18 : ∀ {l1 l2 l3 : Int} {M : Mem}, k18 l1 l2 l3 M = some q → G E p l e room_1 s m #[Value.ref b] below meth c 4 (lw_Z below #[Value.ref b] s) KF NF M 18 [(0, vR (-50)), (1, vR l1), (2, vR l2), (3, vI l3)] []) {l1 l2 l3 : Int} {M : Mem} (F : Fx E p s m #[Value.ref b] meth c code 4 R_law (some .boolean) nm) (X : LX E s b L xs) (hq : q.1 = 1) (h : mL_law_721 L xs k18 l1 l2 l3 M = some q) : G E p l e room_1 s m #[Value.ref b] below meth c 4 (lw_Z below #[Value.ref b] s) (KF + 6) (NF + 206) M 721 [(0, vR (-50)), (1, vR l1), (2, vR l2), (3, vI l3)] [] := by
  unfold mL_law_721 at h
  refine r_aload_n (j := 1) F rfl rfl dL_law_721 ?_
  refine r_aload_n (j := 0) F rfl rfl dL_law_722 ?_
  refine r_iload_n (j := 3) F rfl rfl dL_law_723 ?_
  refine r_iconst F rfl dL_law_724 ?_
  refine r_iadd F dL_law_725 ?_
  replace h := bind_so h
  obtain ⟨a726, h726, h⟩ := h
  refine r_scld F X h726 dL_law_726 ?_
  refine r_aload_n (j := 0) F rfl rfl dL_law_727 ?_
  refine r_iload_n (j := 3) F rfl rfl dL_law_728 ?_
  refine r_iconst F rfl dL_law_729 ?_
  refine r_iadd F dL_law_730 ?_
  replace h := bind_so h
  obtain ⟨a731, h731, h⟩ := h
  refine r_scld F X h731 dL_law_731 ?_
  replace h := bind_so h
  obtain ⟨_, g732, h⟩ := h
  replace h := bind_so h
  obtain ⟨q732, h732, h⟩ := h
  refine r_callVK (as := [vI a726, vI a731]) (rv := (some (vI q732.1))) (kc := 0) (nc := 0) (tX8_breaks h732) clok_8 F (gK_so g732) tw_941 tw_942 tw_943 tw_944 tw_112 ⟨by decide, by decide, show (parseMethodDescriptor yX8_breaks.desc).map (fun d => d.parameters.length) = some 2 by decide +kernel⟩ ⟨by decide, by decide⟩ (Nat.le_of_ble_eq_true rfl) dL_law_732 (by omega) ?_
  refine r_aload_n (j := 2) F rfl rfl dL_law_735 ?_
  refine r_aload_n (j := 0) F rfl rfl dL_law_736 ?_
  refine r_iload_n (j := 3) F rfl rfl dL_law_737 ?_
  refine r_iconst F rfl dL_law_738 ?_
  refine r_iadd F dL_law_739 ?_
  replace h := bind_so h
  obtain ⟨a740, h740, h⟩ := h
  refine r_scld F X h740 dL_law_740 ?_
  refine r_aload_n (j := 0) F rfl rfl dL_law_741 ?_
  refine r_iload_n (j := 3) F rfl rfl dL_law_742 ?_
  refine r_iconst F rfl dL_law_743 ?_
  refine r_iadd F dL_law_744 ?_
  replace h := bind_so h
  obtain ⟨a745, h745, h⟩ := h
  refine r_scld F X h745 dL_law_745 ?_
  replace h := bind_so h
  obtain ⟨_, g746, h⟩ := h
  replace h := bind_so h
  obtain ⟨q746, h746, h⟩ := h
  refine r_callVK (as := [vI a740, vI a745]) (rv := (some (vI q746.1))) (kc := 0) (nc := 0) (tX9_breaks h746) clok_9 F (gK_so g746) tw_1758 tw_1759 tw_1760 tw_1761 tw_122 ⟨by decide, by decide, show (parseMethodDescriptor yX9_breaks.desc).map (fun d => d.parameters.length) = some 2 by decide +kernel⟩ ⟨by decide, by decide⟩ (Nat.le_of_ble_eq_true rfl) dL_law_746 (by omega) ?_
  refine r_icmp_eq (tgt := 1135) F (by decide) dL_law_749 (fun hc => ?_) (fun hc => ?_)
  · replace h := ite_p h hc
    refine r_sub [0, 1, 2, 3] (ls' := [(0, vR (-50)), (1, vR l1), (2, vR l2), (3, vI l3)]) rfl ?_
    refine r_wide (k' := KF) (n' := NF) (by omega) (by omega) ?_
    exact tL_law_1135 (fun h => hk18 h) F X hq h
  · replace h := ite_n h hc
    refine r_iconst F rfl dL_law_752 ?_
    obtain rfl := Option.some.inj h
    exact absurd hq (show ¬ ((0 : Int) = 1) by decide)
theorem tL_law_698 {E : En} {p : Program} {l : Launch} {e : Env} {s : State} {m : MethodId} {b : Nat} {below : List Frame} {meth : Method} {c : Code} {nm : String} {L : Nat} {xs : Nat → Int32} {q : Int × Mem} {KF NF : Nat} {k18 : Int → Int → Int → Mem → Option (Int × Mem)} (hk18 : ∀ {l1 l2 l3 : Int} {M : Mem}, k18 l1 l2 l3 M = some q → G E p l e room_1 s m #[Value.ref b] below meth c 4 (lw_Z below #[Value.ref b] s) KF NF M 18 [(0, vR (-50)), (1, vR l1), (2, vR l2), (3, vI l3)] []) {l1 l2 l3 : Int} {M : Mem} (F : Fx E p s m #[Value.ref b] meth c code 4 R_law (some .boolean) nm) (X : LX E s b L xs) (hq : q.1 = 1) (h : mL_law_698 L xs k18 l1 l2 l3 M = some q) : G E p l e room_1 s m #[Value.ref b] below meth c 4 (lw_Z below #[Value.ref b] s) (KF + 6) (NF + 206) M 698 [(0, vR (-50)), (1, vR l1), (2, vR l2), (3, vI l3)] [] := by
  unfold mL_law_698 at h
  refine r_aload_n (j := 1) F rfl rfl dL_law_698 ?_
  refine r_aload_n (j := 0) F rfl rfl dL_law_699 ?_
  refine r_iload_n (j := 3) F rfl rfl dL_law_700 ?_
  refine r_iconst F rfl dL_law_701 ?_
  refine r_iadd F dL_law_702 ?_
  replace h := bind_so h
  obtain ⟨a703, h703, h⟩ := h
  refine r_scld F X h703 dL_law_703 ?_
  replace h := bind_so h
  obtain ⟨_, g704, h⟩ := h
  replace h := bind_so h
  obtain ⟨q704, h704, h⟩ := h
  refine r_callVK (as := [vI a703]) (rv := (some (vI q704.1))) (kc := 0) (nc := 0) (tX8_so h704) clok_8 F (gK_so g704) tw_878 tw_879 tw_880 tw_881 tw_112 ⟨by decide, by decide, show (parseMethodDescriptor yX8_so.desc).map (fun d => d.parameters.length) = some 1 by decide +kernel⟩ ⟨by decide, by decide⟩ (Nat.le_of_ble_eq_true rfl) dL_law_704 (by omega) ?_
  refine r_pop F rfl dL_law_707 ?_
  refine r_aload_n (j := 2) F rfl rfl dL_law_708 ?_
  refine r_aload_n (j := 0) F rfl rfl dL_law_709 ?_
  refine r_iload_n (j := 3) F rfl rfl dL_law_710 ?_
  refine r_iconst F rfl dL_law_711 ?_
  refine r_iadd F dL_law_712 ?_
  replace h := bind_so h
  obtain ⟨a713, h713, h⟩ := h
  refine r_scld F X h713 dL_law_713 ?_
  replace h := bind_so h
  obtain ⟨_, g714, h⟩ := h
  replace h := bind_so h
  obtain ⟨q714, h714, h⟩ := h
  refine r_callVK (as := [vI a713]) (rv := (some (vI q714.1))) (kc := 0) (nc := 0) (tX9_so h714) clok_9 F (gK_so g714) tw_1712 tw_1713 tw_1714 tw_1715 tw_122 ⟨by decide, by decide, show (parseMethodDescriptor yX9_so.desc).map (fun d => d.parameters.length) = some 1 by decide +kernel⟩ ⟨by decide, by decide⟩ (Nat.le_of_ble_eq_true rfl) dL_law_714 (by omega) ?_
  refine r_pop F rfl dL_law_717 ?_
  refine r_goto (tgt := 1135) F (by decide) dL_law_718 ?_
  refine r_sub [0, 1, 2, 3] (ls' := [(0, vR (-50)), (1, vR l1), (2, vR l2), (3, vI l3)]) rfl ?_
  refine r_wide (k' := KF) (n' := NF) (by omega) (by omega) ?_
  exact tL_law_1135 (fun h => hk18 h) F X hq h
theorem tL_law_675 {E : En} {p : Program} {l : Launch} {e : Env} {s : State} {m : MethodId} {b : Nat} {below : List Frame} {meth : Method} {c : Code} {nm : String} {L : Nat} {xs : Nat → Int32} {q : Int × Mem} {KF NF : Nat} {k18 : Int → Int → Int → Mem → Option (Int × Mem)} (hk18 : ∀ {l1 l2 l3 : Int} {M : Mem}, k18 l1 l2 l3 M = some q → G E p l e room_1 s m #[Value.ref b] below meth c 4 (lw_Z below #[Value.ref b] s) KF NF M 18 [(0, vR (-50)), (1, vR l1), (2, vR l2), (3, vI l3)] []) {l1 l2 l3 : Int} {M : Mem} (F : Fx E p s m #[Value.ref b] meth c code 4 R_law (some .boolean) nm) (X : LX E s b L xs) (hq : q.1 = 1) (h : mL_law_675 L xs k18 l1 l2 l3 M = some q) : G E p l e room_1 s m #[Value.ref b] below meth c 4 (lw_Z below #[Value.ref b] s) (KF + 6) (NF + 206) M 675 [(0, vR (-50)), (1, vR l1), (2, vR l2), (3, vI l3)] [] := by
  unfold mL_law_675 at h
  refine r_aload_n (j := 1) F rfl rfl dL_law_675 ?_
  refine r_aload_n (j := 0) F rfl rfl dL_law_676 ?_
  refine r_iload_n (j := 3) F rfl rfl dL_law_677 ?_
  refine r_iconst F rfl dL_law_678 ?_
  refine r_iadd F dL_law_679 ?_
  replace h := bind_so h
  obtain ⟨a680, h680, h⟩ := h
  refine r_scld F X h680 dL_law_680 ?_
  replace h := bind_so h
  obtain ⟨_, g681, h⟩ := h
  replace h := bind_so h
  obtain ⟨q681, h681, h⟩ := h
  refine r_callVK (as := [vI a680]) (rv := (some (vI q681.1))) (kc := 0) (nc := 0) (tX8_view h681) clok_8 F (gK_so g681) tw_874 tw_875 tw_876 tw_877 tw_112 ⟨by decide, by decide, show (parseMethodDescriptor yX8_view.desc).map (fun d => d.parameters.length) = some 1 by decide +kernel⟩ ⟨by decide, by decide⟩ (Nat.le_of_ble_eq_true rfl) dL_law_681 (by omega) ?_
  refine r_pop F rfl dL_law_684 ?_
  refine r_aload_n (j := 2) F rfl rfl dL_law_685 ?_
  refine r_aload_n (j := 0) F rfl rfl dL_law_686 ?_
  refine r_iload_n (j := 3) F rfl rfl dL_law_687 ?_
  refine r_iconst F rfl dL_law_688 ?_
  refine r_iadd F dL_law_689 ?_
  replace h := bind_so h
  obtain ⟨a690, h690, h⟩ := h
  refine r_scld F X h690 dL_law_690 ?_
  replace h := bind_so h
  obtain ⟨_, g691, h⟩ := h
  replace h := bind_so h
  obtain ⟨q691, h691, h⟩ := h
  refine r_callVK (as := [vI a690]) (rv := (some (vI q691.1))) (kc := 0) (nc := 0) (tX9_view h691) clok_9 F (gK_so g691) tw_1708 tw_1709 tw_1710 tw_1711 tw_122 ⟨by decide, by decide, show (parseMethodDescriptor yX9_view.desc).map (fun d => d.parameters.length) = some 1 by decide +kernel⟩ ⟨by decide, by decide⟩ (Nat.le_of_ble_eq_true rfl) dL_law_691 (by omega) ?_
  refine r_pop F rfl dL_law_694 ?_
  refine r_goto (tgt := 1135) F (by decide) dL_law_695 ?_
  refine r_sub [0, 1, 2, 3] (ls' := [(0, vR (-50)), (1, vR l1), (2, vR l2), (3, vI l3)]) rfl ?_
  refine r_wide (k' := KF) (n' := NF) (by omega) (by omega) ?_
  exact tL_law_1135 (fun h => hk18 h) F X hq h
theorem tL_law_652 {E : En} {p : Program} {l : Launch} {e : Env} {s : State} {m : MethodId} {b : Nat} {below : List Frame} {meth : Method} {c : Code} {nm : String} {L : Nat} {xs : Nat → Int32} {q : Int × Mem} {KF NF : Nat} {k18 : Int → Int → Int → Mem → Option (Int × Mem)} (hk18 : ∀ {l1 l2 l3 : Int} {M : Mem}, k18 l1 l2 l3 M = some q → G E p l e room_1 s m #[Value.ref b] below meth c 4 (lw_Z below #[Value.ref b] s) KF NF M 18 [(0, vR (-50)), (1, vR l1), (2, vR l2), (3, vI l3)] []) {l1 l2 l3 : Int} {M : Mem} (F : Fx E p s m #[Value.ref b] meth c code 4 R_law (some .boolean) nm) (X : LX E s b L xs) (hq : q.1 = 1) (h : mL_law_652 L xs k18 l1 l2 l3 M = some q) : G E p l e room_1 s m #[Value.ref b] below meth c 4 (lw_Z below #[Value.ref b] s) (KF + 6) (NF + 206) M 652 [(0, vR (-50)), (1, vR l1), (2, vR l2), (3, vI l3)] [] := by
  unfold mL_law_652 at h
  refine r_aload_n (j := 1) F rfl rfl dL_law_652 ?_
  refine r_aload_n (j := 0) F rfl rfl dL_law_653 ?_
  refine r_iload_n (j := 3) F rfl rfl dL_law_654 ?_
  refine r_iconst F rfl dL_law_655 ?_
  refine r_iadd F dL_law_656 ?_
  replace h := bind_so h
  obtain ⟨a657, h657, h⟩ := h
  refine r_scld F X h657 dL_law_657 ?_
  replace h := bind_so h
  obtain ⟨_, g658, h⟩ := h
  replace h := bind_so h
  obtain ⟨q658, h658, h⟩ := h
  refine r_callVK (as := [vI a657]) (rv := (some (vI q658.1))) (kc := 0) (nc := 0) (tX8_day h658) clok_8 F (gK_so g658) tw_870 tw_871 tw_872 tw_873 tw_112 ⟨by decide, by decide, show (parseMethodDescriptor yX8_day.desc).map (fun d => d.parameters.length) = some 1 by decide +kernel⟩ ⟨by decide, by decide⟩ (Nat.le_of_ble_eq_true rfl) dL_law_658 (by omega) ?_
  refine r_pop F rfl dL_law_661 ?_
  refine r_aload_n (j := 2) F rfl rfl dL_law_662 ?_
  refine r_aload_n (j := 0) F rfl rfl dL_law_663 ?_
  refine r_iload_n (j := 3) F rfl rfl dL_law_664 ?_
  refine r_iconst F rfl dL_law_665 ?_
  refine r_iadd F dL_law_666 ?_
  replace h := bind_so h
  obtain ⟨a667, h667, h⟩ := h
  refine r_scld F X h667 dL_law_667 ?_
  replace h := bind_so h
  obtain ⟨_, g668, h⟩ := h
  replace h := bind_so h
  obtain ⟨q668, h668, h⟩ := h
  refine r_callVK (as := [vI a667]) (rv := (some (vI q668.1))) (kc := 0) (nc := 0) (tX9_day h668) clok_9 F (gK_so g668) tw_1704 tw_1705 tw_1706 tw_1707 tw_122 ⟨by decide, by decide, show (parseMethodDescriptor yX9_day.desc).map (fun d => d.parameters.length) = some 1 by decide +kernel⟩ ⟨by decide, by decide⟩ (Nat.le_of_ble_eq_true rfl) dL_law_668 (by omega) ?_
  refine r_pop F rfl dL_law_671 ?_
  refine r_goto (tgt := 1135) F (by decide) dL_law_672 ?_
  refine r_sub [0, 1, 2, 3] (ls' := [(0, vR (-50)), (1, vR l1), (2, vR l2), (3, vI l3)]) rfl ?_
  refine r_wide (k' := KF) (n' := NF) (by omega) (by omega) ?_
  exact tL_law_1135 (fun h => hk18 h) F X hq h
theorem tL_law_629 {E : En} {p : Program} {l : Launch} {e : Env} {s : State} {m : MethodId} {b : Nat} {below : List Frame} {meth : Method} {c : Code} {nm : String} {L : Nat} {xs : Nat → Int32} {q : Int × Mem} {KF NF : Nat} {k18 : Int → Int → Int → Mem → Option (Int × Mem)} (hk18 : ∀ {l1 l2 l3 : Int} {M : Mem}, k18 l1 l2 l3 M = some q → G E p l e room_1 s m #[Value.ref b] below meth c 4 (lw_Z below #[Value.ref b] s) KF NF M 18 [(0, vR (-50)), (1, vR l1), (2, vR l2), (3, vI l3)] []) {l1 l2 l3 : Int} {M : Mem} (F : Fx E p s m #[Value.ref b] meth c code 4 R_law (some .boolean) nm) (X : LX E s b L xs) (hq : q.1 = 1) (h : mL_law_629 L xs k18 l1 l2 l3 M = some q) : G E p l e room_1 s m #[Value.ref b] below meth c 4 (lw_Z below #[Value.ref b] s) (KF + 6) (NF + 206) M 629 [(0, vR (-50)), (1, vR l1), (2, vR l2), (3, vI l3)] [] := by
  unfold mL_law_629 at h
  refine r_aload_n (j := 1) F rfl rfl dL_law_629 ?_
  refine r_aload_n (j := 0) F rfl rfl dL_law_630 ?_
  refine r_iload_n (j := 3) F rfl rfl dL_law_631 ?_
  refine r_iconst F rfl dL_law_632 ?_
  refine r_iadd F dL_law_633 ?_
  replace h := bind_so h
  obtain ⟨a634, h634, h⟩ := h
  refine r_scld F X h634 dL_law_634 ?_
  replace h := bind_so h
  obtain ⟨_, g635, h⟩ := h
  replace h := bind_so h
  obtain ⟨q635, h635, h⟩ := h
  refine r_callVK (as := [vI a634]) (rv := (some (vI q635.1))) (kc := 0) (nc := 0) (tX8_strike h635) clok_8 F (gK_so g635) tw_862 tw_863 tw_864 tw_865 tw_112 ⟨by decide, by decide, show (parseMethodDescriptor yX8_strike.desc).map (fun d => d.parameters.length) = some 1 by decide +kernel⟩ ⟨by decide, by decide⟩ (Nat.le_of_ble_eq_true rfl) dL_law_635 (by omega) ?_
  refine r_pop F rfl dL_law_638 ?_
  refine r_aload_n (j := 2) F rfl rfl dL_law_639 ?_
  refine r_aload_n (j := 0) F rfl rfl dL_law_640 ?_
  refine r_iload_n (j := 3) F rfl rfl dL_law_641 ?_
  refine r_iconst F rfl dL_law_642 ?_
  refine r_iadd F dL_law_643 ?_
  replace h := bind_so h
  obtain ⟨a644, h644, h⟩ := h
  refine r_scld F X h644 dL_law_644 ?_
  replace h := bind_so h
  obtain ⟨_, g645, h⟩ := h
  replace h := bind_so h
  obtain ⟨q645, h645, h⟩ := h
  refine r_callVK (as := [vI a644]) (rv := (some (vI q645.1))) (kc := 0) (nc := 0) (tX9_strike h645) clok_9 F (gK_so g645) tw_1700 tw_1701 tw_1702 tw_1703 tw_122 ⟨by decide, by decide, show (parseMethodDescriptor yX9_strike.desc).map (fun d => d.parameters.length) = some 1 by decide +kernel⟩ ⟨by decide, by decide⟩ (Nat.le_of_ble_eq_true rfl) dL_law_645 (by omega) ?_
  refine r_pop F rfl dL_law_648 ?_
  refine r_goto (tgt := 1135) F (by decide) dL_law_649 ?_
  refine r_sub [0, 1, 2, 3] (ls' := [(0, vR (-50)), (1, vR l1), (2, vR l2), (3, vI l3)]) rfl ?_
  refine r_wide (k' := KF) (n' := NF) (by omega) (by omega) ?_
  exact tL_law_1135 (fun h => hk18 h) F X hq h
theorem tL_law_606 {E : En} {p : Program} {l : Launch} {e : Env} {s : State} {m : MethodId} {b : Nat} {below : List Frame} {meth : Method} {c : Code} {nm : String} {L : Nat} {xs : Nat → Int32} {q : Int × Mem} {KF NF : Nat} {k18 : Int → Int → Int → Mem → Option (Int × Mem)} (hk18 : ∀ {l1 l2 l3 : Int} {M : Mem}, k18 l1 l2 l3 M = some q → G E p l e room_1 s m #[Value.ref b] below meth c 4 (lw_Z below #[Value.ref b] s) KF NF M 18 [(0, vR (-50)), (1, vR l1), (2, vR l2), (3, vI l3)] []) {l1 l2 l3 : Int} {M : Mem} (F : Fx E p s m #[Value.ref b] meth c code 4 R_law (some .boolean) nm) (X : LX E s b L xs) (hq : q.1 = 1) (h : mL_law_606 L xs k18 l1 l2 l3 M = some q) : G E p l e room_1 s m #[Value.ref b] below meth c 4 (lw_Z below #[Value.ref b] s) (KF + 6) (NF + 206) M 606 [(0, vR (-50)), (1, vR l1), (2, vR l2), (3, vI l3)] [] := by
  unfold mL_law_606 at h
  refine r_aload_n (j := 1) F rfl rfl dL_law_606 ?_
  refine r_aload_n (j := 0) F rfl rfl dL_law_607 ?_
  refine r_iload_n (j := 3) F rfl rfl dL_law_608 ?_
  refine r_iconst F rfl dL_law_609 ?_
  refine r_iadd F dL_law_610 ?_
  replace h := bind_so h
  obtain ⟨a611, h611, h⟩ := h
  refine r_scld F X h611 dL_law_611 ?_
  replace h := bind_so h
  obtain ⟨_, g612, h⟩ := h
  replace h := bind_so h
  obtain ⟨q612, h612, h⟩ := h
  refine r_callVK (as := [vI a611]) (rv := (some (vI q612.1))) (kc := 0) (nc := 0) (tX8_fault h612) clok_8 F (gK_so g612) tw_858 tw_859 tw_860 tw_861 tw_112 ⟨by decide, by decide, show (parseMethodDescriptor yX8_fault.desc).map (fun d => d.parameters.length) = some 1 by decide +kernel⟩ ⟨by decide, by decide⟩ (Nat.le_of_ble_eq_true rfl) dL_law_612 (by omega) ?_
  refine r_pop F rfl dL_law_615 ?_
  refine r_aload_n (j := 2) F rfl rfl dL_law_616 ?_
  refine r_aload_n (j := 0) F rfl rfl dL_law_617 ?_
  refine r_iload_n (j := 3) F rfl rfl dL_law_618 ?_
  refine r_iconst F rfl dL_law_619 ?_
  refine r_iadd F dL_law_620 ?_
  replace h := bind_so h
  obtain ⟨a621, h621, h⟩ := h
  refine r_scld F X h621 dL_law_621 ?_
  replace h := bind_so h
  obtain ⟨_, g622, h⟩ := h
  replace h := bind_so h
  obtain ⟨q622, h622, h⟩ := h
  refine r_callVK (as := [vI a621]) (rv := (some (vI q622.1))) (kc := 0) (nc := 0) (tX9_fault h622) clok_9 F (gK_so g622) tw_1696 tw_1697 tw_1698 tw_1699 tw_122 ⟨by decide, by decide, show (parseMethodDescriptor yX9_fault.desc).map (fun d => d.parameters.length) = some 1 by decide +kernel⟩ ⟨by decide, by decide⟩ (Nat.le_of_ble_eq_true rfl) dL_law_622 (by omega) ?_
  refine r_pop F rfl dL_law_625 ?_
  refine r_goto (tgt := 1135) F (by decide) dL_law_626 ?_
  refine r_sub [0, 1, 2, 3] (ls' := [(0, vR (-50)), (1, vR l1), (2, vR l2), (3, vI l3)]) rfl ?_
  refine r_wide (k' := KF) (n' := NF) (by omega) (by omega) ?_
  exact tL_law_1135 (fun h => hk18 h) F X hq h
theorem tL_law_593 {E : En} {p : Program} {l : Launch} {e : Env} {s : State} {m : MethodId} {b : Nat} {below : List Frame} {meth : Method} {c : Code} {nm : String} {L : Nat} {xs : Nat → Int32} {q : Int × Mem} {KF NF : Nat} {k18 : Int → Int → Int → Mem → Option (Int × Mem)} (hk18 : ∀ {l1 l2 l3 : Int} {M : Mem}, k18 l1 l2 l3 M = some q → G E p l e room_1 s m #[Value.ref b] below meth c 4 (lw_Z below #[Value.ref b] s) KF NF M 18 [(0, vR (-50)), (1, vR l1), (2, vR l2), (3, vI l3)] []) {l1 l2 l3 : Int} {M : Mem} (F : Fx E p s m #[Value.ref b] meth c code 4 R_law (some .boolean) nm) (X : LX E s b L xs) (hq : q.1 = 1) (h : mL_law_593 L xs k18 l1 l2 l3 M = some q) : G E p l e room_1 s m #[Value.ref b] below meth c 4 (lw_Z below #[Value.ref b] s) (KF + 6) (NF + 206) M 593 [(0, vR (-50)), (1, vR l1), (2, vR l2), (3, vI l3)] [] := by
  unfold mL_law_593 at h
  refine r_aload_n (j := 1) F rfl rfl dL_law_593 ?_
  replace h := bind_so h
  obtain ⟨_, g594, h⟩ := h
  replace h := bind_so h
  obtain ⟨q594, h594, h⟩ := h
  refine r_callVK (as := []) (rv := (some (vI q594.1))) (kc := 6) (nc := 206) (tX8_guess h594) clok_8 F (gK_so g594) tw_850 tw_851 tw_852 tw_853 tw_112 ⟨by decide, by decide, show (parseMethodDescriptor yX8_guess.desc).map (fun d => d.parameters.length) = some 0 by decide +kernel⟩ ⟨by decide, by decide⟩ (Nat.le_of_ble_eq_true rfl) dL_law_594 (by omega) ?_
  refine r_pop F rfl dL_law_597 ?_
  refine r_aload_n (j := 2) F rfl rfl dL_law_598 ?_
  replace h := bind_so h
  obtain ⟨_, g599, h⟩ := h
  replace h := bind_so h
  obtain ⟨q599, h599, h⟩ := h
  refine r_callVK (as := []) (rv := (some (vI q599.1))) (kc := 0) (nc := 0) (tX9_guess h599) clok_9 F (gK_so g599) tw_1692 tw_1693 tw_1694 tw_1695 tw_122 ⟨by decide, by decide, show (parseMethodDescriptor yX9_guess.desc).map (fun d => d.parameters.length) = some 0 by decide +kernel⟩ ⟨by decide, by decide⟩ (Nat.le_of_ble_eq_true rfl) dL_law_599 (by omega) ?_
  refine r_pop F rfl dL_law_602 ?_
  refine r_goto (tgt := 1135) F (by decide) dL_law_603 ?_
  refine r_sub [0, 1, 2, 3] (ls' := [(0, vR (-50)), (1, vR l1), (2, vR l2), (3, vI l3)]) rfl ?_
  refine r_wide (k' := KF) (n' := NF) (by omega) (by omega) ?_
  exact tL_law_1135 (fun h => hk18 h) F X hq h
theorem tL_law_580 {E : En} {p : Program} {l : Launch} {e : Env} {s : State} {m : MethodId} {b : Nat} {below : List Frame} {meth : Method} {c : Code} {nm : String} {L : Nat} {xs : Nat → Int32} {q : Int × Mem} {KF NF : Nat} {k18 : Int → Int → Int → Mem → Option (Int × Mem)} (hk18 : ∀ {l1 l2 l3 : Int} {M : Mem}, k18 l1 l2 l3 M = some q → G E p l e room_1 s m #[Value.ref b] below meth c 4 (lw_Z below #[Value.ref b] s) KF NF M 18 [(0, vR (-50)), (1, vR l1), (2, vR l2), (3, vI l3)] []) {l1 l2 l3 : Int} {M : Mem} (F : Fx E p s m #[Value.ref b] meth c code 4 R_law (some .boolean) nm) (X : LX E s b L xs) (hq : q.1 = 1) (h : mL_law_580 L xs k18 l1 l2 l3 M = some q) : G E p l e room_1 s m #[Value.ref b] below meth c 4 (lw_Z below #[Value.ref b] s) (KF + 6) (NF + 206) M 580 [(0, vR (-50)), (1, vR l1), (2, vR l2), (3, vI l3)] [] := by
  unfold mL_law_580 at h
  refine r_aload_n (j := 1) F rfl rfl dL_law_580 ?_
  replace h := bind_so h
  obtain ⟨_, g581, h⟩ := h
  replace h := bind_so h
  obtain ⟨q581, h581, h⟩ := h
  refine r_callVK (as := []) (rv := (some (vI q581.1))) (kc := 6) (nc := 206) (tX8_story h581) clok_8 F (gK_so g581) tw_644 tw_645 tw_646 tw_647 tw_112 ⟨by decide, by decide, show (parseMethodDescriptor yX8_story.desc).map (fun d => d.parameters.length) = some 0 by decide +kernel⟩ ⟨by decide, by decide⟩ (Nat.le_of_ble_eq_true rfl) dL_law_581 (by omega) ?_
  refine r_pop F rfl dL_law_584 ?_
  refine r_aload_n (j := 2) F rfl rfl dL_law_585 ?_
  replace h := bind_so h
  obtain ⟨_, g586, h⟩ := h
  replace h := bind_so h
  obtain ⟨q586, h586, h⟩ := h
  refine r_callVK (as := []) (rv := (some (vI q586.1))) (kc := 0) (nc := 0) (tX9_story h586) clok_9 F (gK_so g586) tw_1595 tw_1596 tw_1597 tw_1598 tw_122 ⟨by decide, by decide, show (parseMethodDescriptor yX9_story.desc).map (fun d => d.parameters.length) = some 0 by decide +kernel⟩ ⟨by decide, by decide⟩ (Nat.le_of_ble_eq_true rfl) dL_law_586 (by omega) ?_
  refine r_pop F rfl dL_law_589 ?_
  refine r_goto (tgt := 1135) F (by decide) dL_law_590 ?_
  refine r_sub [0, 1, 2, 3] (ls' := [(0, vR (-50)), (1, vR l1), (2, vR l2), (3, vI l3)]) rfl ?_
  refine r_wide (k' := KF) (n' := NF) (by omega) (by omega) ?_
  exact tL_law_1135 (fun h => hk18 h) F X hq h
theorem tL_law_557 {E : En} {p : Program} {l : Launch} {e : Env} {s : State} {m : MethodId} {b : Nat} {below : List Frame} {meth : Method} {c : Code} {nm : String} {L : Nat} {xs : Nat → Int32} {q : Int × Mem} {KF NF : Nat} {k18 : Int → Int → Int → Mem → Option (Int × Mem)} (hk18 : ∀ {l1 l2 l3 : Int} {M : Mem}, k18 l1 l2 l3 M = some q → G E p l e room_1 s m #[Value.ref b] below meth c 4 (lw_Z below #[Value.ref b] s) KF NF M 18 [(0, vR (-50)), (1, vR l1), (2, vR l2), (3, vI l3)] []) {l1 l2 l3 : Int} {M : Mem} (F : Fx E p s m #[Value.ref b] meth c code 4 R_law (some .boolean) nm) (X : LX E s b L xs) (hq : q.1 = 1) (h : mL_law_557 L xs k18 l1 l2 l3 M = some q) : G E p l e room_1 s m #[Value.ref b] below meth c 4 (lw_Z below #[Value.ref b] s) (KF + 6) (NF + 206) M 557 [(0, vR (-50)), (1, vR l1), (2, vR l2), (3, vI l3)] [] := by
  unfold mL_law_557 at h
  refine r_aload_n (j := 1) F rfl rfl dL_law_557 ?_
  refine r_aload_n (j := 0) F rfl rfl dL_law_558 ?_
  refine r_iload_n (j := 3) F rfl rfl dL_law_559 ?_
  refine r_iconst F rfl dL_law_560 ?_
  refine r_iadd F dL_law_561 ?_
  replace h := bind_so h
  obtain ⟨a562, h562, h⟩ := h
  refine r_scld F X h562 dL_law_562 ?_
  replace h := bind_so h
  obtain ⟨_, g563, h⟩ := h
  replace h := bind_so h
  obtain ⟨q563, h563, h⟩ := h
  refine r_callVK (as := [vI a562]) (rv := (some (vI q563.1))) (kc := 0) (nc := 0) (tX8_end h563) clok_8 F (gK_so g563) tw_640 tw_641 tw_642 tw_643 tw_112 ⟨by decide, by decide, show (parseMethodDescriptor yX8_end.desc).map (fun d => d.parameters.length) = some 1 by decide +kernel⟩ ⟨by decide, by decide⟩ (Nat.le_of_ble_eq_true rfl) dL_law_563 (by omega) ?_
  refine r_pop F rfl dL_law_566 ?_
  refine r_aload_n (j := 2) F rfl rfl dL_law_567 ?_
  refine r_aload_n (j := 0) F rfl rfl dL_law_568 ?_
  refine r_iload_n (j := 3) F rfl rfl dL_law_569 ?_
  refine r_iconst F rfl dL_law_570 ?_
  refine r_iadd F dL_law_571 ?_
  replace h := bind_so h
  obtain ⟨a572, h572, h⟩ := h
  refine r_scld F X h572 dL_law_572 ?_
  replace h := bind_so h
  obtain ⟨_, g573, h⟩ := h
  replace h := bind_so h
  obtain ⟨q573, h573, h⟩ := h
  refine r_callVK (as := [vI a572]) (rv := (some (vI q573.1))) (kc := 0) (nc := 0) (tX9_end h573) clok_9 F (gK_so g573) tw_1591 tw_1592 tw_1593 tw_1594 tw_122 ⟨by decide, by decide, show (parseMethodDescriptor yX9_end.desc).map (fun d => d.parameters.length) = some 1 by decide +kernel⟩ ⟨by decide, by decide⟩ (Nat.le_of_ble_eq_true rfl) dL_law_573 (by omega) ?_
  refine r_pop F rfl dL_law_576 ?_
  refine r_goto (tgt := 1135) F (by decide) dL_law_577 ?_
  refine r_sub [0, 1, 2, 3] (ls' := [(0, vR (-50)), (1, vR l1), (2, vR l2), (3, vI l3)]) rfl ?_
  refine r_wide (k' := KF) (n' := NF) (by omega) (by omega) ?_
  exact tL_law_1135 (fun h => hk18 h) F X hq h
theorem tL_law_494 {E : En} {p : Program} {l : Launch} {e : Env} {s : State} {m : MethodId} {b : Nat} {below : List Frame} {meth : Method} {c : Code} {nm : String} {L : Nat} {xs : Nat → Int32} {q : Int × Mem} {KF NF : Nat} {k18 : Int → Int → Int → Mem → Option (Int × Mem)} (hk18 : ∀ {l1 l2 l3 : Int} {M : Mem}, k18 l1 l2 l3 M = some q → G E p l e room_1 s m #[Value.ref b] below meth c 4 (lw_Z below #[Value.ref b] s) KF NF M 18 [(0, vR (-50)), (1, vR l1), (2, vR l2), (3, vI l3)] []) {l1 l2 l3 : Int} {M : Mem} (F : Fx E p s m #[Value.ref b] meth c code 4 R_law (some .boolean) nm) (X : LX E s b L xs) (hq : q.1 = 1) (h : mL_law_494 L xs k18 l1 l2 l3 M = some q) : G E p l e room_1 s m #[Value.ref b] below meth c 4 (lw_Z below #[Value.ref b] s) (KF + 6) (NF + 206) M 494 [(0, vR (-50)), (1, vR l1), (2, vR l2), (3, vI l3)] [] := by
  unfold mL_law_494 at h
  refine r_aload_n (j := 1) F rfl rfl dL_law_494 ?_
  refine r_aload_n (j := 0) F rfl rfl dL_law_495 ?_
  refine r_iload_n (j := 3) F rfl rfl dL_law_496 ?_
  refine r_iconst F rfl dL_law_497 ?_
  refine r_iadd F dL_law_498 ?_
  replace h := bind_so h
  obtain ⟨a499, h499, h⟩ := h
  refine r_scld F X h499 dL_law_499 ?_
  refine r_aload_n (j := 0) F rfl rfl dL_law_500 ?_
  refine r_iload_n (j := 3) F rfl rfl dL_law_501 ?_
  refine r_iconst F rfl dL_law_502 ?_
  refine r_iadd F dL_law_503 ?_
  replace h := bind_so h
  obtain ⟨a504, h504, h⟩ := h
  refine r_scld F X h504 dL_law_504 ?_
  refine r_aload_n (j := 0) F rfl rfl dL_law_505 ?_
  refine r_iload_n (j := 3) F rfl rfl dL_law_506 ?_
  refine r_iconst F rfl dL_law_507 ?_
  refine r_iadd F dL_law_508 ?_
  replace h := bind_so h
  obtain ⟨a509, h509, h⟩ := h
  refine r_scld F X h509 dL_law_509 ?_
  refine r_aload_n (j := 0) F rfl rfl dL_law_510 ?_
  refine r_iload_n (j := 3) F rfl rfl dL_law_511 ?_
  refine r_iconst F rfl dL_law_512 ?_
  refine r_iadd F dL_law_513 ?_
  replace h := bind_so h
  obtain ⟨a514, h514, h⟩ := h
  refine r_scld F X h514 dL_law_514 ?_
  refine r_aload_n (j := 0) F rfl rfl dL_law_515 ?_
  refine r_iload_n (j := 3) F rfl rfl dL_law_516 ?_
  refine r_iconst F rfl dL_law_517 ?_
  refine r_iadd F dL_law_518 ?_
  replace h := bind_so h
  obtain ⟨a519, h519, h⟩ := h
  refine r_scld F X h519 dL_law_519 ?_
  replace h := bind_so h
  obtain ⟨_, g520, h⟩ := h
  replace h := bind_so h
  obtain ⟨q520, h520, h⟩ := h
  refine r_callVK (as := [vI a499, vI a504, vI a509, vI a514, vI a519]) (rv := (some (vI q520.1))) (kc := 0) (nc := 0) (tX8_feed h520) clok_8 F (gK_so g520) tw_632 tw_633 tw_634 tw_635 tw_112 ⟨by decide, by decide, show (parseMethodDescriptor yX8_feed.desc).map (fun d => d.parameters.length) = some 5 by decide +kernel⟩ ⟨by decide, by decide⟩ (Nat.le_of_ble_eq_true rfl) dL_law_520 (by omega) ?_
  refine r_pop F rfl dL_law_523 ?_
  refine r_aload_n (j := 2) F rfl rfl dL_law_524 ?_
  refine r_aload_n (j := 0) F rfl rfl dL_law_525 ?_
  refine r_iload_n (j := 3) F rfl rfl dL_law_526 ?_
  refine r_iconst F rfl dL_law_527 ?_
  refine r_iadd F dL_law_528 ?_
  replace h := bind_so h
  obtain ⟨a529, h529, h⟩ := h
  refine r_scld F X h529 dL_law_529 ?_
  refine r_aload_n (j := 0) F rfl rfl dL_law_530 ?_
  refine r_iload_n (j := 3) F rfl rfl dL_law_531 ?_
  refine r_iconst F rfl dL_law_532 ?_
  refine r_iadd F dL_law_533 ?_
  replace h := bind_so h
  obtain ⟨a534, h534, h⟩ := h
  refine r_scld F X h534 dL_law_534 ?_
  refine r_aload_n (j := 0) F rfl rfl dL_law_535 ?_
  refine r_iload_n (j := 3) F rfl rfl dL_law_536 ?_
  refine r_iconst F rfl dL_law_537 ?_
  refine r_iadd F dL_law_538 ?_
  replace h := bind_so h
  obtain ⟨a539, h539, h⟩ := h
  refine r_scld F X h539 dL_law_539 ?_
  refine r_aload_n (j := 0) F rfl rfl dL_law_540 ?_
  refine r_iload_n (j := 3) F rfl rfl dL_law_541 ?_
  refine r_iconst F rfl dL_law_542 ?_
  refine r_iadd F dL_law_543 ?_
  replace h := bind_so h
  obtain ⟨a544, h544, h⟩ := h
  refine r_scld F X h544 dL_law_544 ?_
  refine r_aload_n (j := 0) F rfl rfl dL_law_545 ?_
  refine r_iload_n (j := 3) F rfl rfl dL_law_546 ?_
  refine r_iconst F rfl dL_law_547 ?_
  refine r_iadd F dL_law_548 ?_
  replace h := bind_so h
  obtain ⟨a549, h549, h⟩ := h
  refine r_scld F X h549 dL_law_549 ?_
  replace h := bind_so h
  obtain ⟨_, g550, h⟩ := h
  replace h := bind_so h
  obtain ⟨q550, h550, h⟩ := h
  refine r_callVK (as := [vI a529, vI a534, vI a539, vI a544, vI a549]) (rv := (some (vI q550.1))) (kc := 0) (nc := 0) (tX9_feed h550) clok_9 F (gK_so g550) tw_1583 tw_1584 tw_1585 tw_1586 tw_122 ⟨by decide, by decide, show (parseMethodDescriptor yX9_feed.desc).map (fun d => d.parameters.length) = some 5 by decide +kernel⟩ ⟨by decide, by decide⟩ (Nat.le_of_ble_eq_true rfl) dL_law_550 (by omega) ?_
  refine r_pop F rfl dL_law_553 ?_
  refine r_goto (tgt := 1135) F (by decide) dL_law_554 ?_
  refine r_sub [0, 1, 2, 3] (ls' := [(0, vR (-50)), (1, vR l1), (2, vR l2), (3, vI l3)]) rfl ?_
  refine r_wide (k' := KF) (n' := NF) (by omega) (by omega) ?_
  exact tL_law_1135 (fun h => hk18 h) F X hq h
theorem tL_law_471 {E : En} {p : Program} {l : Launch} {e : Env} {s : State} {m : MethodId} {b : Nat} {below : List Frame} {meth : Method} {c : Code} {nm : String} {L : Nat} {xs : Nat → Int32} {q : Int × Mem} {KF NF : Nat} {k18 : Int → Int → Int → Mem → Option (Int × Mem)} (hk18 : ∀ {l1 l2 l3 : Int} {M : Mem}, k18 l1 l2 l3 M = some q → G E p l e room_1 s m #[Value.ref b] below meth c 4 (lw_Z below #[Value.ref b] s) KF NF M 18 [(0, vR (-50)), (1, vR l1), (2, vR l2), (3, vI l3)] []) {l1 l2 l3 : Int} {M : Mem} (F : Fx E p s m #[Value.ref b] meth c code 4 R_law (some .boolean) nm) (X : LX E s b L xs) (hq : q.1 = 1) (h : mL_law_471 L xs k18 l1 l2 l3 M = some q) : G E p l e room_1 s m #[Value.ref b] below meth c 4 (lw_Z below #[Value.ref b] s) (KF + 6) (NF + 206) M 471 [(0, vR (-50)), (1, vR l1), (2, vR l2), (3, vI l3)] [] := by
  unfold mL_law_471 at h
  refine r_aload_n (j := 1) F rfl rfl dL_law_471 ?_
  refine r_aload_n (j := 0) F rfl rfl dL_law_472 ?_
  refine r_iload_n (j := 3) F rfl rfl dL_law_473 ?_
  refine r_iconst F rfl dL_law_474 ?_
  refine r_iadd F dL_law_475 ?_
  replace h := bind_so h
  obtain ⟨a476, h476, h⟩ := h
  refine r_scld F X h476 dL_law_476 ?_
  replace h := bind_so h
  obtain ⟨_, g477, h⟩ := h
  replace h := bind_so h
  obtain ⟨q477, h477, h⟩ := h
  refine r_callVK (as := [vI a476]) (rv := (some (vI q477.1))) (kc := 0) (nc := 0) (tX8_apart h477) clok_8 F (gK_so g477) tw_583 tw_584 tw_585 tw_586 tw_112 ⟨by decide, by decide, show (parseMethodDescriptor yX8_apart.desc).map (fun d => d.parameters.length) = some 1 by decide +kernel⟩ ⟨by decide, by decide⟩ (Nat.le_of_ble_eq_true rfl) dL_law_477 (by omega) ?_
  refine r_pop F rfl dL_law_480 ?_
  refine r_aload_n (j := 2) F rfl rfl dL_law_481 ?_
  refine r_aload_n (j := 0) F rfl rfl dL_law_482 ?_
  refine r_iload_n (j := 3) F rfl rfl dL_law_483 ?_
  refine r_iconst F rfl dL_law_484 ?_
  refine r_iadd F dL_law_485 ?_
  replace h := bind_so h
  obtain ⟨a486, h486, h⟩ := h
  refine r_scld F X h486 dL_law_486 ?_
  replace h := bind_so h
  obtain ⟨_, g487, h⟩ := h
  replace h := bind_so h
  obtain ⟨q487, h487, h⟩ := h
  refine r_callVK (as := [vI a486]) (rv := (some (vI q487.1))) (kc := 0) (nc := 0) (tX9_apart h487) clok_9 F (gK_so g487) tw_1550 tw_1551 tw_1552 tw_1553 tw_122 ⟨by decide, by decide, show (parseMethodDescriptor yX9_apart.desc).map (fun d => d.parameters.length) = some 1 by decide +kernel⟩ ⟨by decide, by decide⟩ (Nat.le_of_ble_eq_true rfl) dL_law_487 (by omega) ?_
  refine r_pop F rfl dL_law_490 ?_
  refine r_goto (tgt := 1135) F (by decide) dL_law_491 ?_
  refine r_sub [0, 1, 2, 3] (ls' := [(0, vR (-50)), (1, vR l1), (2, vR l2), (3, vI l3)]) rfl ?_
  refine r_wide (k' := KF) (n' := NF) (by omega) (by omega) ?_
  exact tL_law_1135 (fun h => hk18 h) F X hq h
theorem tL_law_448 {E : En} {p : Program} {l : Launch} {e : Env} {s : State} {m : MethodId} {b : Nat} {below : List Frame} {meth : Method} {c : Code} {nm : String} {L : Nat} {xs : Nat → Int32} {q : Int × Mem} {KF NF : Nat} {k18 : Int → Int → Int → Mem → Option (Int × Mem)} (hk18 : ∀ {l1 l2 l3 : Int} {M : Mem}, k18 l1 l2 l3 M = some q → G E p l e room_1 s m #[Value.ref b] below meth c 4 (lw_Z below #[Value.ref b] s) KF NF M 18 [(0, vR (-50)), (1, vR l1), (2, vR l2), (3, vI l3)] []) {l1 l2 l3 : Int} {M : Mem} (F : Fx E p s m #[Value.ref b] meth c code 4 R_law (some .boolean) nm) (X : LX E s b L xs) (hq : q.1 = 1) (h : mL_law_448 L xs k18 l1 l2 l3 M = some q) : G E p l e room_1 s m #[Value.ref b] below meth c 4 (lw_Z below #[Value.ref b] s) (KF + 6) (NF + 206) M 448 [(0, vR (-50)), (1, vR l1), (2, vR l2), (3, vI l3)] [] := by
  unfold mL_law_448 at h
  refine r_aload_n (j := 1) F rfl rfl dL_law_448 ?_
  refine r_aload_n (j := 0) F rfl rfl dL_law_449 ?_
  refine r_iload_n (j := 3) F rfl rfl dL_law_450 ?_
  refine r_iconst F rfl dL_law_451 ?_
  refine r_iadd F dL_law_452 ?_
  replace h := bind_so h
  obtain ⟨a453, h453, h⟩ := h
  refine r_scld F X h453 dL_law_453 ?_
  replace h := bind_so h
  obtain ⟨_, g454, h⟩ := h
  replace h := bind_so h
  obtain ⟨q454, h454, h⟩ := h
  refine r_callVK (as := [vI a453]) (rv := (some (vI q454.1))) (kc := 0) (nc := 0) (tX8_keep h454) clok_8 F (gK_so g454) tw_579 tw_580 tw_581 tw_582 tw_112 ⟨by decide, by decide, show (parseMethodDescriptor yX8_keep.desc).map (fun d => d.parameters.length) = some 1 by decide +kernel⟩ ⟨by decide, by decide⟩ (Nat.le_of_ble_eq_true rfl) dL_law_454 (by omega) ?_
  refine r_pop F rfl dL_law_457 ?_
  refine r_aload_n (j := 2) F rfl rfl dL_law_458 ?_
  refine r_aload_n (j := 0) F rfl rfl dL_law_459 ?_
  refine r_iload_n (j := 3) F rfl rfl dL_law_460 ?_
  refine r_iconst F rfl dL_law_461 ?_
  refine r_iadd F dL_law_462 ?_
  replace h := bind_so h
  obtain ⟨a463, h463, h⟩ := h
  refine r_scld F X h463 dL_law_463 ?_
  replace h := bind_so h
  obtain ⟨_, g464, h⟩ := h
  replace h := bind_so h
  obtain ⟨q464, h464, h⟩ := h
  refine r_callVK (as := [vI a463]) (rv := (some (vI q464.1))) (kc := 0) (nc := 0) (tX9_keep h464) clok_9 F (gK_so g464) tw_1546 tw_1547 tw_1548 tw_1549 tw_122 ⟨by decide, by decide, show (parseMethodDescriptor yX9_keep.desc).map (fun d => d.parameters.length) = some 1 by decide +kernel⟩ ⟨by decide, by decide⟩ (Nat.le_of_ble_eq_true rfl) dL_law_464 (by omega) ?_
  refine r_pop F rfl dL_law_467 ?_
  refine r_goto (tgt := 1135) F (by decide) dL_law_468 ?_
  refine r_sub [0, 1, 2, 3] (ls' := [(0, vR (-50)), (1, vR l1), (2, vR l2), (3, vI l3)]) rfl ?_
  refine r_wide (k' := KF) (n' := NF) (by omega) (by omega) ?_
  exact tL_law_1135 (fun h => hk18 h) F X hq h
theorem tL_law_441 {E : En} {p : Program} {l : Launch} {e : Env} {s : State} {m : MethodId} {b : Nat} {below : List Frame} {meth : Method} {c : Code} {nm : String} {L : Nat} {xs : Nat → Int32} {q : Int × Mem} {KF NF : Nat} {k18 : Int → Int → Int → Mem → Option (Int × Mem)} (hk18 : ∀ {l1 l2 l3 : Int} {M : Mem}, k18 l1 l2 l3 M = some q → G E p l e room_1 s m #[Value.ref b] below meth c 4 (lw_Z below #[Value.ref b] s) KF NF M 18 [(0, vR (-50)), (1, vR l1), (2, vR l2), (3, vI l3)] []) {l1 l2 l3 s0 s1 s2 s3 s4 : Int} {M : Mem} (F : Fx E p s m #[Value.ref b] meth c code 4 R_law (some .boolean) nm) (X : LX E s b L xs) (hq : q.1 = 1) (h : mL_law_441 L xs k18 l1 l2 l3 s0 s1 s2 s3 s4 M = some q) : G E p l e room_1 s m #[Value.ref b] below meth c 4 (lw_Z below #[Value.ref b] s) KF NF M 441 [(0, vR (-50)), (1, vR l1), (2, vR l2), (3, vI l3)] [vI s4, vI s3, vI s2, vI s1, vR s0] := by
  unfold mL_law_441 at h
  replace h := bind_so h
  obtain ⟨_, g441, h⟩ := h
  replace h := bind_so h
  obtain ⟨q441, h441, h⟩ := h
  refine r_callVK (as := [vI s1, vI s2, vI s3, vI s4]) (rv := (some (vI q441.1))) (kc := 0) (nc := 0) (tX9_known h441) clok_9 F (gK_so g441) tw_1542 tw_1543 tw_1544 tw_1545 tw_122 ⟨by decide, by decide, show (parseMethodDescriptor yX9_known.desc).map (fun d => d.parameters.length) = some 4 by decide +kernel⟩ ⟨by decide, by decide⟩ (Nat.le_of_ble_eq_true rfl) dL_law_441 (by omega) ?_
  refine r_pop F rfl dL_law_444 ?_
  refine r_goto (tgt := 1135) F (by decide) dL_law_445 ?_
  refine r_sub [0, 1, 2, 3] (ls' := [(0, vR (-50)), (1, vR l1), (2, vR l2), (3, vI l3)]) rfl ?_
  refine r_wide (k' := KF) (n' := NF) (by omega) (by omega) ?_
  exact tL_law_1135 (fun h => hk18 h) F X hq h
theorem tL_law_408 {E : En} {p : Program} {l : Launch} {e : Env} {s : State} {m : MethodId} {b : Nat} {below : List Frame} {meth : Method} {c : Code} {nm : String} {L : Nat} {xs : Nat → Int32} {q : Int × Mem} {KF NF : Nat} {k18 : Int → Int → Int → Mem → Option (Int × Mem)} (hk18 : ∀ {l1 l2 l3 : Int} {M : Mem}, k18 l1 l2 l3 M = some q → G E p l e room_1 s m #[Value.ref b] below meth c 4 (lw_Z below #[Value.ref b] s) KF NF M 18 [(0, vR (-50)), (1, vR l1), (2, vR l2), (3, vI l3)] []) {l1 l2 l3 s0 s1 s2 s3 s4 : Int} {M : Mem} (F : Fx E p s m #[Value.ref b] meth c code 4 R_law (some .boolean) nm) (X : LX E s b L xs) (hq : q.1 = 1) (h : mL_law_408 L xs k18 l1 l2 l3 s0 s1 s2 s3 s4 M = some q) : G E p l e room_1 s m #[Value.ref b] below meth c 4 (lw_Z below #[Value.ref b] s) KF NF M 408 [(0, vR (-50)), (1, vR l1), (2, vR l2), (3, vI l3)] [vI s4, vI s3, vI s2, vI s1, vR s0] := by
  unfold mL_law_408 at h
  replace h := bind_so h
  obtain ⟨_, g408, h⟩ := h
  replace h := bind_so h
  obtain ⟨q408, h408, h⟩ := h
  refine r_callVK (as := [vI s1, vI s2, vI s3, vI s4]) (rv := (some (vI q408.1))) (kc := 0) (nc := 0) (tX8_known h408) clok_8 F (gK_so g408) tw_563 tw_564 tw_565 tw_566 tw_112 ⟨by decide, by decide, show (parseMethodDescriptor yX8_known.desc).map (fun d => d.parameters.length) = some 4 by decide +kernel⟩ ⟨by decide, by decide⟩ (Nat.le_of_ble_eq_true rfl) dL_law_408 (by omega) ?_
  refine r_pop F rfl dL_law_411 ?_
  refine r_aload_n (j := 2) F rfl rfl dL_law_412 ?_
  refine r_aload_n (j := 0) F rfl rfl dL_law_413 ?_
  refine r_iload_n (j := 3) F rfl rfl dL_law_414 ?_
  refine r_iconst F rfl dL_law_415 ?_
  refine r_iadd F dL_law_416 ?_
  replace h := bind_so h
  obtain ⟨a417, h417, h⟩ := h
  refine r_scld F X h417 dL_law_417 ?_
  refine r_aload_n (j := 0) F rfl rfl dL_law_418 ?_
  refine r_iload_n (j := 3) F rfl rfl dL_law_419 ?_
  refine r_iconst F rfl dL_law_420 ?_
  refine r_iadd F dL_law_421 ?_
  replace h := bind_so h
  obtain ⟨a422, h422, h⟩ := h
  refine r_scld F X h422 dL_law_422 ?_
  refine r_aload_n (j := 0) F rfl rfl dL_law_423 ?_
  refine r_iload_n (j := 3) F rfl rfl dL_law_424 ?_
  refine r_iconst F rfl dL_law_425 ?_
  refine r_iadd F dL_law_426 ?_
  replace h := bind_so h
  obtain ⟨a427, h427, h⟩ := h
  refine r_scld F X h427 dL_law_427 ?_
  refine r_aload_n (j := 0) F rfl rfl dL_law_428 ?_
  refine r_iload_n (j := 3) F rfl rfl dL_law_429 ?_
  refine r_iconst F rfl dL_law_430 ?_
  refine r_iadd F dL_law_431 ?_
  replace h := bind_so h
  obtain ⟨a432, h432, h⟩ := h
  refine r_scld F X h432 dL_law_432 ?_
  refine r_if_eq (tgt := 440) F (by decide) dL_law_433 (fun hc => ?_) (fun hc => ?_)
  · replace h := ite_p h hc
    refine r_iconst F rfl dL_law_440 ?_
    refine r_sub [0, 1, 2, 3] (ls' := [(0, vR (-50)), (1, vR l1), (2, vR l2), (3, vI l3)]) rfl ?_
    refine r_wide (k' := KF) (n' := NF) (by omega) (by omega) ?_
    exact tL_law_441 (fun h => hk18 h) F X hq h
  · replace h := ite_n h hc
    refine r_iconst F rfl dL_law_436 ?_
    refine r_goto (tgt := 441) F (by decide) dL_law_437 ?_
    refine r_sub [0, 1, 2, 3] (ls' := [(0, vR (-50)), (1, vR l1), (2, vR l2), (3, vI l3)]) rfl ?_
    refine r_wide (k' := KF) (n' := NF) (by omega) (by omega) ?_
    exact tL_law_441 (fun h => hk18 h) F X hq h
theorem tL_law_379 {E : En} {p : Program} {l : Launch} {e : Env} {s : State} {m : MethodId} {b : Nat} {below : List Frame} {meth : Method} {c : Code} {nm : String} {L : Nat} {xs : Nat → Int32} {q : Int × Mem} {KF NF : Nat} {k18 : Int → Int → Int → Mem → Option (Int × Mem)} (hk18 : ∀ {l1 l2 l3 : Int} {M : Mem}, k18 l1 l2 l3 M = some q → G E p l e room_1 s m #[Value.ref b] below meth c 4 (lw_Z below #[Value.ref b] s) KF NF M 18 [(0, vR (-50)), (1, vR l1), (2, vR l2), (3, vI l3)] []) {l1 l2 l3 : Int} {M : Mem} (F : Fx E p s m #[Value.ref b] meth c code 4 R_law (some .boolean) nm) (X : LX E s b L xs) (hq : q.1 = 1) (h : mL_law_379 L xs k18 l1 l2 l3 M = some q) : G E p l e room_1 s m #[Value.ref b] below meth c 4 (lw_Z below #[Value.ref b] s) (KF + 6) (NF + 206) M 379 [(0, vR (-50)), (1, vR l1), (2, vR l2), (3, vI l3)] [] := by
  unfold mL_law_379 at h
  refine r_aload_n (j := 1) F rfl rfl dL_law_379 ?_
  refine r_aload_n (j := 0) F rfl rfl dL_law_380 ?_
  refine r_iload_n (j := 3) F rfl rfl dL_law_381 ?_
  refine r_iconst F rfl dL_law_382 ?_
  refine r_iadd F dL_law_383 ?_
  replace h := bind_so h
  obtain ⟨a384, h384, h⟩ := h
  refine r_scld F X h384 dL_law_384 ?_
  refine r_aload_n (j := 0) F rfl rfl dL_law_385 ?_
  refine r_iload_n (j := 3) F rfl rfl dL_law_386 ?_
  refine r_iconst F rfl dL_law_387 ?_
  refine r_iadd F dL_law_388 ?_
  replace h := bind_so h
  obtain ⟨a389, h389, h⟩ := h
  refine r_scld F X h389 dL_law_389 ?_
  refine r_aload_n (j := 0) F rfl rfl dL_law_390 ?_
  refine r_iload_n (j := 3) F rfl rfl dL_law_391 ?_
  refine r_iconst F rfl dL_law_392 ?_
  refine r_iadd F dL_law_393 ?_
  replace h := bind_so h
  obtain ⟨a394, h394, h⟩ := h
  refine r_scld F X h394 dL_law_394 ?_
  refine r_aload_n (j := 0) F rfl rfl dL_law_395 ?_
  refine r_iload_n (j := 3) F rfl rfl dL_law_396 ?_
  refine r_iconst F rfl dL_law_397 ?_
  refine r_iadd F dL_law_398 ?_
  replace h := bind_so h
  obtain ⟨a399, h399, h⟩ := h
  refine r_scld F X h399 dL_law_399 ?_
  refine r_if_eq (tgt := 407) F (by decide) dL_law_400 (fun hc => ?_) (fun hc => ?_)
  · replace h := ite_p h hc
    refine r_iconst F rfl dL_law_407 ?_
    refine r_sub [0, 1, 2, 3] (ls' := [(0, vR (-50)), (1, vR l1), (2, vR l2), (3, vI l3)]) rfl ?_
    refine r_wide (k' := KF) (n' := NF) (by omega) (by omega) ?_
    exact tL_law_408 (fun h => hk18 h) F X hq h
  · replace h := ite_n h hc
    refine r_iconst F rfl dL_law_403 ?_
    refine r_goto (tgt := 408) F (by decide) dL_law_404 ?_
    refine r_sub [0, 1, 2, 3] (ls' := [(0, vR (-50)), (1, vR l1), (2, vR l2), (3, vI l3)]) rfl ?_
    refine r_wide (k' := KF) (n' := NF) (by omega) (by omega) ?_
    exact tL_law_408 (fun h => hk18 h) F X hq h
theorem tL_law_336 {E : En} {p : Program} {l : Launch} {e : Env} {s : State} {m : MethodId} {b : Nat} {below : List Frame} {meth : Method} {c : Code} {nm : String} {L : Nat} {xs : Nat → Int32} {q : Int × Mem} {KF NF : Nat} {k18 : Int → Int → Int → Mem → Option (Int × Mem)} (hk18 : ∀ {l1 l2 l3 : Int} {M : Mem}, k18 l1 l2 l3 M = some q → G E p l e room_1 s m #[Value.ref b] below meth c 4 (lw_Z below #[Value.ref b] s) KF NF M 18 [(0, vR (-50)), (1, vR l1), (2, vR l2), (3, vI l3)] []) {l1 l2 l3 : Int} {M : Mem} (F : Fx E p s m #[Value.ref b] meth c code 4 R_law (some .boolean) nm) (X : LX E s b L xs) (hq : q.1 = 1) (h : mL_law_336 L xs k18 l1 l2 l3 M = some q) : G E p l e room_1 s m #[Value.ref b] below meth c 4 (lw_Z below #[Value.ref b] s) (KF + 6) (NF + 206) M 336 [(0, vR (-50)), (1, vR l1), (2, vR l2), (3, vI l3)] [] := by
  unfold mL_law_336 at h
  refine r_aload_n (j := 1) F rfl rfl dL_law_336 ?_
  refine r_aload_n (j := 0) F rfl rfl dL_law_337 ?_
  refine r_iload_n (j := 3) F rfl rfl dL_law_338 ?_
  refine r_iconst F rfl dL_law_339 ?_
  refine r_iadd F dL_law_340 ?_
  replace h := bind_so h
  obtain ⟨a341, h341, h⟩ := h
  refine r_scld F X h341 dL_law_341 ?_
  refine r_aload_n (j := 0) F rfl rfl dL_law_342 ?_
  refine r_iload_n (j := 3) F rfl rfl dL_law_343 ?_
  refine r_iconst F rfl dL_law_344 ?_
  refine r_iadd F dL_law_345 ?_
  replace h := bind_so h
  obtain ⟨a346, h346, h⟩ := h
  refine r_scld F X h346 dL_law_346 ?_
  refine r_aload_n (j := 0) F rfl rfl dL_law_347 ?_
  refine r_iload_n (j := 3) F rfl rfl dL_law_348 ?_
  refine r_iconst F rfl dL_law_349 ?_
  refine r_iadd F dL_law_350 ?_
  replace h := bind_so h
  obtain ⟨a351, h351, h⟩ := h
  refine r_scld F X h351 dL_law_351 ?_
  replace h := bind_so h
  obtain ⟨_, g352, h⟩ := h
  replace h := bind_so h
  obtain ⟨q352, h352, h⟩ := h
  refine r_callVK (as := [vI a341, vI a346, vI a351]) (rv := (some (vI q352.1))) (kc := 0) (nc := 0) (tX8_fact h352) clok_8 F (gK_so g352) tw_559 tw_560 tw_561 tw_562 tw_112 ⟨by decide, by decide, show (parseMethodDescriptor yX8_fact.desc).map (fun d => d.parameters.length) = some 3 by decide +kernel⟩ ⟨by decide, by decide⟩ (Nat.le_of_ble_eq_true rfl) dL_law_352 (by omega) ?_
  refine r_pop F rfl dL_law_355 ?_
  refine r_aload_n (j := 2) F rfl rfl dL_law_356 ?_
  refine r_aload_n (j := 0) F rfl rfl dL_law_357 ?_
  refine r_iload_n (j := 3) F rfl rfl dL_law_358 ?_
  refine r_iconst F rfl dL_law_359 ?_
  refine r_iadd F dL_law_360 ?_
  replace h := bind_so h
  obtain ⟨a361, h361, h⟩ := h
  refine r_scld F X h361 dL_law_361 ?_
  refine r_aload_n (j := 0) F rfl rfl dL_law_362 ?_
  refine r_iload_n (j := 3) F rfl rfl dL_law_363 ?_
  refine r_iconst F rfl dL_law_364 ?_
  refine r_iadd F dL_law_365 ?_
  replace h := bind_so h
  obtain ⟨a366, h366, h⟩ := h
  refine r_scld F X h366 dL_law_366 ?_
  refine r_aload_n (j := 0) F rfl rfl dL_law_367 ?_
  refine r_iload_n (j := 3) F rfl rfl dL_law_368 ?_
  refine r_iconst F rfl dL_law_369 ?_
  refine r_iadd F dL_law_370 ?_
  replace h := bind_so h
  obtain ⟨a371, h371, h⟩ := h
  refine r_scld F X h371 dL_law_371 ?_
  replace h := bind_so h
  obtain ⟨_, g372, h⟩ := h
  replace h := bind_so h
  obtain ⟨q372, h372, h⟩ := h
  refine r_callVK (as := [vI a361, vI a366, vI a371]) (rv := (some (vI q372.1))) (kc := 0) (nc := 0) (tX9_fact h372) clok_9 F (gK_so g372) tw_1538 tw_1539 tw_1540 tw_1541 tw_122 ⟨by decide, by decide, show (parseMethodDescriptor yX9_fact.desc).map (fun d => d.parameters.length) = some 3 by decide +kernel⟩ ⟨by decide, by decide⟩ (Nat.le_of_ble_eq_true rfl) dL_law_372 (by omega) ?_
  refine r_pop F rfl dL_law_375 ?_
  refine r_goto (tgt := 1135) F (by decide) dL_law_376 ?_
  refine r_sub [0, 1, 2, 3] (ls' := [(0, vR (-50)), (1, vR l1), (2, vR l2), (3, vI l3)]) rfl ?_
  refine r_wide (k' := KF) (n' := NF) (by omega) (by omega) ?_
  exact tL_law_1135 (fun h => hk18 h) F X hq h
theorem tL_law_329 {E : En} {p : Program} {l : Launch} {e : Env} {s : State} {m : MethodId} {b : Nat} {below : List Frame} {meth : Method} {c : Code} {nm : String} {L : Nat} {xs : Nat → Int32} {q : Int × Mem} {KF NF : Nat} {k18 : Int → Int → Int → Mem → Option (Int × Mem)} (hk18 : ∀ {l1 l2 l3 : Int} {M : Mem}, k18 l1 l2 l3 M = some q → G E p l e room_1 s m #[Value.ref b] below meth c 4 (lw_Z below #[Value.ref b] s) KF NF M 18 [(0, vR (-50)), (1, vR l1), (2, vR l2), (3, vI l3)] []) {l1 l2 l3 s0 s1 s2 s3 s4 : Int} {M : Mem} (F : Fx E p s m #[Value.ref b] meth c code 4 R_law (some .boolean) nm) (X : LX E s b L xs) (hq : q.1 = 1) (h : mL_law_329 L xs k18 l1 l2 l3 s0 s1 s2 s3 s4 M = some q) : G E p l e room_1 s m #[Value.ref b] below meth c 4 (lw_Z below #[Value.ref b] s) KF NF M 329 [(0, vR (-50)), (1, vR l1), (2, vR l2), (3, vI l3)] [vI s4, vI s3, vI s2, vI s1, vR s0] := by
  unfold mL_law_329 at h
  replace h := bind_so h
  obtain ⟨_, g329, h⟩ := h
  replace h := bind_so h
  obtain ⟨q329, h329, h⟩ := h
  refine r_callVK (as := [vI s1, vI s2, vI s3, vI s4]) (rv := (some (vI q329.1))) (kc := 0) (nc := 0) (tX9_tell h329) clok_9 F (gK_so g329) tw_1522 tw_1523 tw_1524 tw_1525 tw_122 ⟨by decide, by decide, show (parseMethodDescriptor yX9_tell.desc).map (fun d => d.parameters.length) = some 4 by decide +kernel⟩ ⟨by decide, by decide⟩ (Nat.le_of_ble_eq_true rfl) dL_law_329 (by omega) ?_
  refine r_pop F rfl dL_law_332 ?_
  refine r_goto (tgt := 1135) F (by decide) dL_law_333 ?_
  refine r_sub [0, 1, 2, 3] (ls' := [(0, vR (-50)), (1, vR l1), (2, vR l2), (3, vI l3)]) rfl ?_
  refine r_wide (k' := KF) (n' := NF) (by omega) (by omega) ?_
  exact tL_law_1135 (fun h => hk18 h) F X hq h
theorem tL_law_296 {E : En} {p : Program} {l : Launch} {e : Env} {s : State} {m : MethodId} {b : Nat} {below : List Frame} {meth : Method} {c : Code} {nm : String} {L : Nat} {xs : Nat → Int32} {q : Int × Mem} {KF NF : Nat} {k18 : Int → Int → Int → Mem → Option (Int × Mem)} (hk18 : ∀ {l1 l2 l3 : Int} {M : Mem}, k18 l1 l2 l3 M = some q → G E p l e room_1 s m #[Value.ref b] below meth c 4 (lw_Z below #[Value.ref b] s) KF NF M 18 [(0, vR (-50)), (1, vR l1), (2, vR l2), (3, vI l3)] []) {l1 l2 l3 s0 s1 s2 s3 s4 : Int} {M : Mem} (F : Fx E p s m #[Value.ref b] meth c code 4 R_law (some .boolean) nm) (X : LX E s b L xs) (hq : q.1 = 1) (h : mL_law_296 L xs k18 l1 l2 l3 s0 s1 s2 s3 s4 M = some q) : G E p l e room_1 s m #[Value.ref b] below meth c 4 (lw_Z below #[Value.ref b] s) KF NF M 296 [(0, vR (-50)), (1, vR l1), (2, vR l2), (3, vI l3)] [vI s4, vI s3, vI s2, vI s1, vR s0] := by
  unfold mL_law_296 at h
  replace h := bind_so h
  obtain ⟨_, g296, h⟩ := h
  replace h := bind_so h
  obtain ⟨q296, h296, h⟩ := h
  refine r_callVK (as := [vI s1, vI s2, vI s3, vI s4]) (rv := (some (vI q296.1))) (kc := 0) (nc := 0) (tX8_tell h296) clok_8 F (gK_so g296) tw_542 tw_543 tw_544 tw_545 tw_112 ⟨by decide, by decide, show (parseMethodDescriptor yX8_tell.desc).map (fun d => d.parameters.length) = some 4 by decide +kernel⟩ ⟨by decide, by decide⟩ (Nat.le_of_ble_eq_true rfl) dL_law_296 (by omega) ?_
  refine r_pop F rfl dL_law_299 ?_
  refine r_aload_n (j := 2) F rfl rfl dL_law_300 ?_
  refine r_aload_n (j := 0) F rfl rfl dL_law_301 ?_
  refine r_iload_n (j := 3) F rfl rfl dL_law_302 ?_
  refine r_iconst F rfl dL_law_303 ?_
  refine r_iadd F dL_law_304 ?_
  replace h := bind_so h
  obtain ⟨a305, h305, h⟩ := h
  refine r_scld F X h305 dL_law_305 ?_
  refine r_aload_n (j := 0) F rfl rfl dL_law_306 ?_
  refine r_iload_n (j := 3) F rfl rfl dL_law_307 ?_
  refine r_iconst F rfl dL_law_308 ?_
  refine r_iadd F dL_law_309 ?_
  replace h := bind_so h
  obtain ⟨a310, h310, h⟩ := h
  refine r_scld F X h310 dL_law_310 ?_
  refine r_aload_n (j := 0) F rfl rfl dL_law_311 ?_
  refine r_iload_n (j := 3) F rfl rfl dL_law_312 ?_
  refine r_iconst F rfl dL_law_313 ?_
  refine r_iadd F dL_law_314 ?_
  replace h := bind_so h
  obtain ⟨a315, h315, h⟩ := h
  refine r_scld F X h315 dL_law_315 ?_
  refine r_aload_n (j := 0) F rfl rfl dL_law_316 ?_
  refine r_iload_n (j := 3) F rfl rfl dL_law_317 ?_
  refine r_iconst F rfl dL_law_318 ?_
  refine r_iadd F dL_law_319 ?_
  replace h := bind_so h
  obtain ⟨a320, h320, h⟩ := h
  refine r_scld F X h320 dL_law_320 ?_
  refine r_if_eq (tgt := 328) F (by decide) dL_law_321 (fun hc => ?_) (fun hc => ?_)
  · replace h := ite_p h hc
    refine r_iconst F rfl dL_law_328 ?_
    refine r_sub [0, 1, 2, 3] (ls' := [(0, vR (-50)), (1, vR l1), (2, vR l2), (3, vI l3)]) rfl ?_
    refine r_wide (k' := KF) (n' := NF) (by omega) (by omega) ?_
    exact tL_law_329 (fun h => hk18 h) F X hq h
  · replace h := ite_n h hc
    refine r_iconst F rfl dL_law_324 ?_
    refine r_goto (tgt := 329) F (by decide) dL_law_325 ?_
    refine r_sub [0, 1, 2, 3] (ls' := [(0, vR (-50)), (1, vR l1), (2, vR l2), (3, vI l3)]) rfl ?_
    refine r_wide (k' := KF) (n' := NF) (by omega) (by omega) ?_
    exact tL_law_329 (fun h => hk18 h) F X hq h
theorem tL_law_267 {E : En} {p : Program} {l : Launch} {e : Env} {s : State} {m : MethodId} {b : Nat} {below : List Frame} {meth : Method} {c : Code} {nm : String} {L : Nat} {xs : Nat → Int32} {q : Int × Mem} {KF NF : Nat} {k18 : Int → Int → Int → Mem → Option (Int × Mem)} (hk18 : ∀ {l1 l2 l3 : Int} {M : Mem}, k18 l1 l2 l3 M = some q → G E p l e room_1 s m #[Value.ref b] below meth c 4 (lw_Z below #[Value.ref b] s) KF NF M 18 [(0, vR (-50)), (1, vR l1), (2, vR l2), (3, vI l3)] []) {l1 l2 l3 : Int} {M : Mem} (F : Fx E p s m #[Value.ref b] meth c code 4 R_law (some .boolean) nm) (X : LX E s b L xs) (hq : q.1 = 1) (h : mL_law_267 L xs k18 l1 l2 l3 M = some q) : G E p l e room_1 s m #[Value.ref b] below meth c 4 (lw_Z below #[Value.ref b] s) (KF + 6) (NF + 206) M 267 [(0, vR (-50)), (1, vR l1), (2, vR l2), (3, vI l3)] [] := by
  unfold mL_law_267 at h
  refine r_aload_n (j := 1) F rfl rfl dL_law_267 ?_
  refine r_aload_n (j := 0) F rfl rfl dL_law_268 ?_
  refine r_iload_n (j := 3) F rfl rfl dL_law_269 ?_
  refine r_iconst F rfl dL_law_270 ?_
  refine r_iadd F dL_law_271 ?_
  replace h := bind_so h
  obtain ⟨a272, h272, h⟩ := h
  refine r_scld F X h272 dL_law_272 ?_
  refine r_aload_n (j := 0) F rfl rfl dL_law_273 ?_
  refine r_iload_n (j := 3) F rfl rfl dL_law_274 ?_
  refine r_iconst F rfl dL_law_275 ?_
  refine r_iadd F dL_law_276 ?_
  replace h := bind_so h
  obtain ⟨a277, h277, h⟩ := h
  refine r_scld F X h277 dL_law_277 ?_
  refine r_aload_n (j := 0) F rfl rfl dL_law_278 ?_
  refine r_iload_n (j := 3) F rfl rfl dL_law_279 ?_
  refine r_iconst F rfl dL_law_280 ?_
  refine r_iadd F dL_law_281 ?_
  replace h := bind_so h
  obtain ⟨a282, h282, h⟩ := h
  refine r_scld F X h282 dL_law_282 ?_
  refine r_aload_n (j := 0) F rfl rfl dL_law_283 ?_
  refine r_iload_n (j := 3) F rfl rfl dL_law_284 ?_
  refine r_iconst F rfl dL_law_285 ?_
  refine r_iadd F dL_law_286 ?_
  replace h := bind_so h
  obtain ⟨a287, h287, h⟩ := h
  refine r_scld F X h287 dL_law_287 ?_
  refine r_if_eq (tgt := 295) F (by decide) dL_law_288 (fun hc => ?_) (fun hc => ?_)
  · replace h := ite_p h hc
    refine r_iconst F rfl dL_law_295 ?_
    refine r_sub [0, 1, 2, 3] (ls' := [(0, vR (-50)), (1, vR l1), (2, vR l2), (3, vI l3)]) rfl ?_
    refine r_wide (k' := KF) (n' := NF) (by omega) (by omega) ?_
    exact tL_law_296 (fun h => hk18 h) F X hq h
  · replace h := ite_n h hc
    refine r_iconst F rfl dL_law_291 ?_
    refine r_goto (tgt := 296) F (by decide) dL_law_292 ?_
    refine r_sub [0, 1, 2, 3] (ls' := [(0, vR (-50)), (1, vR l1), (2, vR l2), (3, vI l3)]) rfl ?_
    refine r_wide (k' := KF) (n' := NF) (by omega) (by omega) ?_
    exact tL_law_296 (fun h => hk18 h) F X hq h
theorem tL_law_254 {E : En} {p : Program} {l : Launch} {e : Env} {s : State} {m : MethodId} {b : Nat} {below : List Frame} {meth : Method} {c : Code} {nm : String} {L : Nat} {xs : Nat → Int32} {q : Int × Mem} {KF NF : Nat} {k18 : Int → Int → Int → Mem → Option (Int × Mem)} (hk18 : ∀ {l1 l2 l3 : Int} {M : Mem}, k18 l1 l2 l3 M = some q → G E p l e room_1 s m #[Value.ref b] below meth c 4 (lw_Z below #[Value.ref b] s) KF NF M 18 [(0, vR (-50)), (1, vR l1), (2, vR l2), (3, vI l3)] []) {l1 l2 l3 : Int} {M : Mem} (F : Fx E p s m #[Value.ref b] meth c code 4 R_law (some .boolean) nm) (X : LX E s b L xs) (hq : q.1 = 1) (h : mL_law_254 L xs k18 l1 l2 l3 M = some q) : G E p l e room_1 s m #[Value.ref b] below meth c 4 (lw_Z below #[Value.ref b] s) (KF + 6) (NF + 206) M 254 [(0, vR (-50)), (1, vR l1), (2, vR l2), (3, vI l3)] [] := by
  unfold mL_law_254 at h
  refine r_aload_n (j := 1) F rfl rfl dL_law_254 ?_
  replace h := bind_so h
  obtain ⟨_, g255, h⟩ := h
  replace h := bind_so h
  obtain ⟨q255, h255, h⟩ := h
  refine r_callVK (as := []) (rv := (some (vI q255.1))) (kc := 0) (nc := 0) (tX8_facts h255) clok_8 F (gK_so g255) tw_538 tw_539 tw_540 tw_541 tw_112 ⟨by decide, by decide, show (parseMethodDescriptor yX8_facts.desc).map (fun d => d.parameters.length) = some 0 by decide +kernel⟩ ⟨by decide, by decide⟩ (Nat.le_of_ble_eq_true rfl) dL_law_255 (by omega) ?_
  refine r_pop F rfl dL_law_258 ?_
  refine r_aload_n (j := 2) F rfl rfl dL_law_259 ?_
  replace h := bind_so h
  obtain ⟨_, g260, h⟩ := h
  replace h := bind_so h
  obtain ⟨q260, h260, h⟩ := h
  refine r_callVK (as := []) (rv := (some (vI q260.1))) (kc := 0) (nc := 0) (tX9_facts h260) clok_9 F (gK_so g260) tw_1502 tw_1503 tw_1504 tw_1505 tw_122 ⟨by decide, by decide, show (parseMethodDescriptor yX9_facts.desc).map (fun d => d.parameters.length) = some 0 by decide +kernel⟩ ⟨by decide, by decide⟩ (Nat.le_of_ble_eq_true rfl) dL_law_260 (by omega) ?_
  refine r_pop F rfl dL_law_263 ?_
  refine r_goto (tgt := 1135) F (by decide) dL_law_264 ?_
  refine r_sub [0, 1, 2, 3] (ls' := [(0, vR (-50)), (1, vR l1), (2, vR l2), (3, vI l3)]) rfl ?_
  refine r_wide (k' := KF) (n' := NF) (by omega) (by omega) ?_
  exact tL_law_1135 (fun h => hk18 h) F X hq h
theorem tL_law_221 {E : En} {p : Program} {l : Launch} {e : Env} {s : State} {m : MethodId} {b : Nat} {below : List Frame} {meth : Method} {c : Code} {nm : String} {L : Nat} {xs : Nat → Int32} {q : Int × Mem} {KF NF : Nat} {k18 : Int → Int → Int → Mem → Option (Int × Mem)} (hk18 : ∀ {l1 l2 l3 : Int} {M : Mem}, k18 l1 l2 l3 M = some q → G E p l e room_1 s m #[Value.ref b] below meth c 4 (lw_Z below #[Value.ref b] s) KF NF M 18 [(0, vR (-50)), (1, vR l1), (2, vR l2), (3, vI l3)] []) {l1 l2 l3 : Int} {M : Mem} (F : Fx E p s m #[Value.ref b] meth c code 4 R_law (some .boolean) nm) (X : LX E s b L xs) (hq : q.1 = 1) (h : mL_law_221 L xs k18 l1 l2 l3 M = some q) : G E p l e room_1 s m #[Value.ref b] below meth c 4 (lw_Z below #[Value.ref b] s) (KF + 6) (NF + 206) M 221 [(0, vR (-50)), (1, vR l1), (2, vR l2), (3, vI l3)] [] := by
  unfold mL_law_221 at h
  refine r_aload_n (j := 1) F rfl rfl dL_law_221 ?_
  refine r_aload_n (j := 0) F rfl rfl dL_law_222 ?_
  refine r_iload_n (j := 3) F rfl rfl dL_law_223 ?_
  refine r_iconst F rfl dL_law_224 ?_
  refine r_iadd F dL_law_225 ?_
  replace h := bind_so h
  obtain ⟨a226, h226, h⟩ := h
  refine r_scld F X h226 dL_law_226 ?_
  refine r_aload_n (j := 0) F rfl rfl dL_law_227 ?_
  refine r_iload_n (j := 3) F rfl rfl dL_law_228 ?_
  refine r_iconst F rfl dL_law_229 ?_
  refine r_iadd F dL_law_230 ?_
  replace h := bind_so h
  obtain ⟨a231, h231, h⟩ := h
  refine r_scld F X h231 dL_law_231 ?_
  replace h := bind_so h
  obtain ⟨_, g232, h⟩ := h
  replace h := bind_so h
  obtain ⟨q232, h232, h⟩ := h
  refine r_callVK (as := [vI a226, vI a231]) (rv := (some (vI q232.1))) (kc := 0) (nc := 0) (tX8_relation h232) clok_8 F (gK_so g232) tw_530 tw_531 tw_532 tw_533 tw_112 ⟨by decide, by decide, show (parseMethodDescriptor yX8_relation.desc).map (fun d => d.parameters.length) = some 2 by decide +kernel⟩ ⟨by decide, by decide⟩ (Nat.le_of_ble_eq_true rfl) dL_law_232 (by omega) ?_
  refine r_pop F rfl dL_law_235 ?_
  refine r_aload_n (j := 2) F rfl rfl dL_law_236 ?_
  refine r_aload_n (j := 0) F rfl rfl dL_law_237 ?_
  refine r_iload_n (j := 3) F rfl rfl dL_law_238 ?_
  refine r_iconst F rfl dL_law_239 ?_
  refine r_iadd F dL_law_240 ?_
  replace h := bind_so h
  obtain ⟨a241, h241, h⟩ := h
  refine r_scld F X h241 dL_law_241 ?_
  refine r_aload_n (j := 0) F rfl rfl dL_law_242 ?_
  refine r_iload_n (j := 3) F rfl rfl dL_law_243 ?_
  refine r_iconst F rfl dL_law_244 ?_
  refine r_iadd F dL_law_245 ?_
  replace h := bind_so h
  obtain ⟨a246, h246, h⟩ := h
  refine r_scld F X h246 dL_law_246 ?_
  replace h := bind_so h
  obtain ⟨_, g247, h⟩ := h
  replace h := bind_so h
  obtain ⟨q247, h247, h⟩ := h
  refine r_callVK (as := [vI a241, vI a246]) (rv := (some (vI q247.1))) (kc := 0) (nc := 0) (tX9_relation h247) clok_9 F (gK_so g247) tw_1498 tw_1499 tw_1500 tw_1501 tw_122 ⟨by decide, by decide, show (parseMethodDescriptor yX9_relation.desc).map (fun d => d.parameters.length) = some 2 by decide +kernel⟩ ⟨by decide, by decide⟩ (Nat.le_of_ble_eq_true rfl) dL_law_247 (by omega) ?_
  refine r_pop F rfl dL_law_250 ?_
  refine r_goto (tgt := 1135) F (by decide) dL_law_251 ?_
  refine r_sub [0, 1, 2, 3] (ls' := [(0, vR (-50)), (1, vR l1), (2, vR l2), (3, vI l3)]) rfl ?_
  refine r_wide (k' := KF) (n' := NF) (by omega) (by omega) ?_
  exact tL_law_1135 (fun h => hk18 h) F X hq h
theorem tL_law_188 {E : En} {p : Program} {l : Launch} {e : Env} {s : State} {m : MethodId} {b : Nat} {below : List Frame} {meth : Method} {c : Code} {nm : String} {L : Nat} {xs : Nat → Int32} {q : Int × Mem} {KF NF : Nat} {k18 : Int → Int → Int → Mem → Option (Int × Mem)} (hk18 : ∀ {l1 l2 l3 : Int} {M : Mem}, k18 l1 l2 l3 M = some q → G E p l e room_1 s m #[Value.ref b] below meth c 4 (lw_Z below #[Value.ref b] s) KF NF M 18 [(0, vR (-50)), (1, vR l1), (2, vR l2), (3, vI l3)] []) {l1 l2 l3 : Int} {M : Mem} (F : Fx E p s m #[Value.ref b] meth c code 4 R_law (some .boolean) nm) (X : LX E s b L xs) (hq : q.1 = 1) (h : mL_law_188 L xs k18 l1 l2 l3 M = some q) : G E p l e room_1 s m #[Value.ref b] below meth c 4 (lw_Z below #[Value.ref b] s) (KF + 6) (NF + 206) M 188 [(0, vR (-50)), (1, vR l1), (2, vR l2), (3, vI l3)] [] := by
  unfold mL_law_188 at h
  refine r_aload_n (j := 1) F rfl rfl dL_law_188 ?_
  refine r_aload_n (j := 0) F rfl rfl dL_law_189 ?_
  refine r_iload_n (j := 3) F rfl rfl dL_law_190 ?_
  refine r_iconst F rfl dL_law_191 ?_
  refine r_iadd F dL_law_192 ?_
  replace h := bind_so h
  obtain ⟨a193, h193, h⟩ := h
  refine r_scld F X h193 dL_law_193 ?_
  refine r_aload_n (j := 0) F rfl rfl dL_law_194 ?_
  refine r_iload_n (j := 3) F rfl rfl dL_law_195 ?_
  refine r_iconst F rfl dL_law_196 ?_
  refine r_iadd F dL_law_197 ?_
  replace h := bind_so h
  obtain ⟨a198, h198, h⟩ := h
  refine r_scld F X h198 dL_law_198 ?_
  replace h := bind_so h
  obtain ⟨_, g199, h⟩ := h
  replace h := bind_so h
  obtain ⟨q199, h199, h⟩ := h
  refine r_callVK (as := [vI a193, vI a198]) (rv := (some (vI q199.1))) (kc := 0) (nc := 0) (tX8_size h199) clok_8 F (gK_so g199) tw_503 tw_504 tw_505 tw_506 tw_112 ⟨by decide, by decide, show (parseMethodDescriptor yX8_size.desc).map (fun d => d.parameters.length) = some 2 by decide +kernel⟩ ⟨by decide, by decide⟩ (Nat.le_of_ble_eq_true rfl) dL_law_199 (by omega) ?_
  refine r_pop F rfl dL_law_202 ?_
  refine r_aload_n (j := 2) F rfl rfl dL_law_203 ?_
  refine r_aload_n (j := 0) F rfl rfl dL_law_204 ?_
  refine r_iload_n (j := 3) F rfl rfl dL_law_205 ?_
  refine r_iconst F rfl dL_law_206 ?_
  refine r_iadd F dL_law_207 ?_
  replace h := bind_so h
  obtain ⟨a208, h208, h⟩ := h
  refine r_scld F X h208 dL_law_208 ?_
  refine r_aload_n (j := 0) F rfl rfl dL_law_209 ?_
  refine r_iload_n (j := 3) F rfl rfl dL_law_210 ?_
  refine r_iconst F rfl dL_law_211 ?_
  refine r_iadd F dL_law_212 ?_
  replace h := bind_so h
  obtain ⟨a213, h213, h⟩ := h
  refine r_scld F X h213 dL_law_213 ?_
  replace h := bind_so h
  obtain ⟨_, g214, h⟩ := h
  replace h := bind_so h
  obtain ⟨q214, h214, h⟩ := h
  refine r_callVK (as := [vI a208, vI a213]) (rv := (some (vI q214.1))) (kc := 0) (nc := 0) (tX9_size h214) clok_9 F (gK_so g214) tw_1487 tw_1488 tw_1489 tw_1490 tw_122 ⟨by decide, by decide, show (parseMethodDescriptor yX9_size.desc).map (fun d => d.parameters.length) = some 2 by decide +kernel⟩ ⟨by decide, by decide⟩ (Nat.le_of_ble_eq_true rfl) dL_law_214 (by omega) ?_
  refine r_pop F rfl dL_law_217 ?_
  refine r_goto (tgt := 1135) F (by decide) dL_law_218 ?_
  refine r_sub [0, 1, 2, 3] (ls' := [(0, vR (-50)), (1, vR l1), (2, vR l2), (3, vI l3)]) rfl ?_
  refine r_wide (k' := KF) (n' := NF) (by omega) (by omega) ?_
  exact tL_law_1135 (fun h => hk18 h) F X hq h
theorem tbL_law_18 {E : En} {p : Program} {l : Launch} {e : Env} {s : State} {m : MethodId} {b : Nat} {below : List Frame} {meth : Method} {c : Code} {nm : String} {L : Nat} {xs : Nat → Int32} {q : Int × Mem} {KF NF : Nat} {k18 : Int → Int → Int → Mem → Option (Int × Mem)} (hk18 : ∀ {l1 l2 l3 : Int} {M : Mem}, k18 l1 l2 l3 M = some q → G E p l e room_1 s m #[Value.ref b] below meth c 4 (lw_Z below #[Value.ref b] s) KF NF M 18 [(0, vR (-50)), (1, vR l1), (2, vR l2), (3, vI l3)] []) {l1 l2 l3 : Int} {M : Mem} (F : Fx E p s m #[Value.ref b] meth c code 4 R_law (some .boolean) nm) (X : LX E s b L xs) (hq : q.1 = 1) (h : bL_law_18 L xs k18 l1 l2 l3 M = some q) : G E p l e room_1 s m #[Value.ref b] below meth c 4 (lw_Z below #[Value.ref b] s) (KF + 6) (NF + 206) M 18 [(0, vR (-50)), (1, vR l1), (2, vR l2), (3, vI l3)] [] := by
  unfold bL_law_18 at h
  refine r_iload_n (j := 3) F rfl rfl dL_law_18 ?_
  refine r_aload_n (j := 0) F rfl rfl dL_law_19 ?_
  refine r_sclen F X dL_law_20 ?_
  refine r_bipush F rfl (by decide) dL_law_21 ?_
  refine r_isub F dL_law_23 ?_
  refine r_icmp_gt (tgt := 1141) F (by decide) dL_law_24 (fun hc => ?_) (fun hc => ?_)
  · replace h := ite_p h hc
    refine r_iconst F rfl dL_law_1141 ?_
    obtain rfl := Option.some.inj h
    exact r_lawret F X dL_law_1142
  · replace h := ite_n h hc
    refine r_aload_n (j := 0) F rfl rfl dL_law_27 ?_
    refine r_iload_n (j := 3) F rfl rfl dL_law_28 ?_
    replace h := bind_so h
    obtain ⟨a29, h29, h⟩ := h
    refine r_scld F X h29 dL_law_29 ?_
    refine r_bipush F rfl (by decide) dL_law_30 ?_
    refine r_iand F dL_law_32 ?_
    by_cases hc0 : iand a29 63 = 0
    · replace h := ite_p h hc0
      refine r_tIn (off := 155) (tgt := 188) F (by omega) (by omega) (by rw [hc0]; rfl) (by decide) dL_law_33 ?_
      refine r_sub [0, 1, 2, 3] (ls' := [(0, vR (-50)), (1, vR l1), (2, vR l2), (3, vI l3)]) rfl ?_
      refine r_wide (k' := KF + 6) (n' := NF + 206) (by omega) (by omega) ?_
      exact tL_law_188 (fun h => hk18 h) F X hq h
    replace h := ite_n h hc0
    by_cases hc1 : iand a29 63 = 1
    · replace h := ite_p h hc1
      refine r_tIn (off := 188) (tgt := 221) F (by omega) (by omega) (by rw [hc1]; rfl) (by decide) dL_law_33 ?_
      refine r_sub [0, 1, 2, 3] (ls' := [(0, vR (-50)), (1, vR l1), (2, vR l2), (3, vI l3)]) rfl ?_
      refine r_wide (k' := KF + 6) (n' := NF + 206) (by omega) (by omega) ?_
      exact tL_law_221 (fun h => hk18 h) F X hq h
    replace h := ite_n h hc1
    by_cases hc2 : iand a29 63 = 2
    · replace h := ite_p h hc2
      refine r_tIn (off := 221) (tgt := 254) F (by omega) (by omega) (by rw [hc2]; rfl) (by decide) dL_law_33 ?_
      refine r_sub [0, 1, 2, 3] (ls' := [(0, vR (-50)), (1, vR l1), (2, vR l2), (3, vI l3)]) rfl ?_
      refine r_wide (k' := KF + 6) (n' := NF + 206) (by omega) (by omega) ?_
      exact tL_law_254 (fun h => hk18 h) F X hq h
    replace h := ite_n h hc2
    by_cases hc3 : iand a29 63 = 3
    · replace h := ite_p h hc3
      refine r_tIn (off := 234) (tgt := 267) F (by omega) (by omega) (by rw [hc3]; rfl) (by decide) dL_law_33 ?_
      refine r_sub [0, 1, 2, 3] (ls' := [(0, vR (-50)), (1, vR l1), (2, vR l2), (3, vI l3)]) rfl ?_
      refine r_wide (k' := KF + 6) (n' := NF + 206) (by omega) (by omega) ?_
      exact tL_law_267 (fun h => hk18 h) F X hq h
    replace h := ite_n h hc3
    by_cases hc4 : iand a29 63 = 4
    · replace h := ite_p h hc4
      refine r_tIn (off := 303) (tgt := 336) F (by omega) (by omega) (by rw [hc4]; rfl) (by decide) dL_law_33 ?_
      refine r_sub [0, 1, 2, 3] (ls' := [(0, vR (-50)), (1, vR l1), (2, vR l2), (3, vI l3)]) rfl ?_
      refine r_wide (k' := KF + 6) (n' := NF + 206) (by omega) (by omega) ?_
      exact tL_law_336 (fun h => hk18 h) F X hq h
    replace h := ite_n h hc4
    by_cases hc5 : iand a29 63 = 5
    · replace h := ite_p h hc5
      refine r_tIn (off := 346) (tgt := 379) F (by omega) (by omega) (by rw [hc5]; rfl) (by decide) dL_law_33 ?_
      refine r_sub [0, 1, 2, 3] (ls' := [(0, vR (-50)), (1, vR l1), (2, vR l2), (3, vI l3)]) rfl ?_
      refine r_wide (k' := KF + 6) (n' := NF + 206) (by omega) (by omega) ?_
      exact tL_law_379 (fun h => hk18 h) F X hq h
    replace h := ite_n h hc5
    by_cases hc6 : iand a29 63 = 6
    · replace h := ite_p h hc6
      refine r_tIn (off := 415) (tgt := 448) F (by omega) (by omega) (by rw [hc6]; rfl) (by decide) dL_law_33 ?_
      refine r_sub [0, 1, 2, 3] (ls' := [(0, vR (-50)), (1, vR l1), (2, vR l2), (3, vI l3)]) rfl ?_
      refine r_wide (k' := KF + 6) (n' := NF + 206) (by omega) (by omega) ?_
      exact tL_law_448 (fun h => hk18 h) F X hq h
    replace h := ite_n h hc6
    by_cases hc7 : iand a29 63 = 7
    · replace h := ite_p h hc7
      refine r_tIn (off := 438) (tgt := 471) F (by omega) (by omega) (by rw [hc7]; rfl) (by decide) dL_law_33 ?_
      refine r_sub [0, 1, 2, 3] (ls' := [(0, vR (-50)), (1, vR l1), (2, vR l2), (3, vI l3)]) rfl ?_
      refine r_wide (k' := KF + 6) (n' := NF + 206) (by omega) (by omega) ?_
      exact tL_law_471 (fun h => hk18 h) F X hq h
    replace h := ite_n h hc7
    by_cases hc8 : iand a29 63 = 8
    · replace h := ite_p h hc8
      refine r_tIn (off := 461) (tgt := 494) F (by omega) (by omega) (by rw [hc8]; rfl) (by decide) dL_law_33 ?_
      refine r_sub [0, 1, 2, 3] (ls' := [(0, vR (-50)), (1, vR l1), (2, vR l2), (3, vI l3)]) rfl ?_
      refine r_wide (k' := KF + 6) (n' := NF + 206) (by omega) (by omega) ?_
      exact tL_law_494 (fun h => hk18 h) F X hq h
    replace h := ite_n h hc8
    by_cases hc9 : iand a29 63 = 9
    · replace h := ite_p h hc9
      refine r_tIn (off := 524) (tgt := 557) F (by omega) (by omega) (by rw [hc9]; rfl) (by decide) dL_law_33 ?_
      refine r_sub [0, 1, 2, 3] (ls' := [(0, vR (-50)), (1, vR l1), (2, vR l2), (3, vI l3)]) rfl ?_
      refine r_wide (k' := KF + 6) (n' := NF + 206) (by omega) (by omega) ?_
      exact tL_law_557 (fun h => hk18 h) F X hq h
    replace h := ite_n h hc9
    by_cases hc10 : iand a29 63 = 10
    · replace h := ite_p h hc10
      refine r_tIn (off := 547) (tgt := 580) F (by omega) (by omega) (by rw [hc10]; rfl) (by decide) dL_law_33 ?_
      refine r_sub [0, 1, 2, 3] (ls' := [(0, vR (-50)), (1, vR l1), (2, vR l2), (3, vI l3)]) rfl ?_
      refine r_wide (k' := KF + 6) (n' := NF + 206) (by omega) (by omega) ?_
      exact tL_law_580 (fun h => hk18 h) F X hq h
    replace h := ite_n h hc10
    by_cases hc11 : iand a29 63 = 11
    · replace h := ite_p h hc11
      refine r_tIn (off := 560) (tgt := 593) F (by omega) (by omega) (by rw [hc11]; rfl) (by decide) dL_law_33 ?_
      refine r_sub [0, 1, 2, 3] (ls' := [(0, vR (-50)), (1, vR l1), (2, vR l2), (3, vI l3)]) rfl ?_
      refine r_wide (k' := KF + 6) (n' := NF + 206) (by omega) (by omega) ?_
      exact tL_law_593 (fun h => hk18 h) F X hq h
    replace h := ite_n h hc11
    by_cases hc12 : iand a29 63 = 12
    · replace h := ite_p h hc12
      refine r_tIn (off := 573) (tgt := 606) F (by omega) (by omega) (by rw [hc12]; rfl) (by decide) dL_law_33 ?_
      refine r_sub [0, 1, 2, 3] (ls' := [(0, vR (-50)), (1, vR l1), (2, vR l2), (3, vI l3)]) rfl ?_
      refine r_wide (k' := KF + 6) (n' := NF + 206) (by omega) (by omega) ?_
      exact tL_law_606 (fun h => hk18 h) F X hq h
    replace h := ite_n h hc12
    by_cases hc13 : iand a29 63 = 13
    · replace h := ite_p h hc13
      refine r_tIn (off := 596) (tgt := 629) F (by omega) (by omega) (by rw [hc13]; rfl) (by decide) dL_law_33 ?_
      refine r_sub [0, 1, 2, 3] (ls' := [(0, vR (-50)), (1, vR l1), (2, vR l2), (3, vI l3)]) rfl ?_
      refine r_wide (k' := KF + 6) (n' := NF + 206) (by omega) (by omega) ?_
      exact tL_law_629 (fun h => hk18 h) F X hq h
    replace h := ite_n h hc13
    by_cases hc14 : iand a29 63 = 14
    · replace h := ite_p h hc14
      refine r_tIn (off := 619) (tgt := 652) F (by omega) (by omega) (by rw [hc14]; rfl) (by decide) dL_law_33 ?_
      refine r_sub [0, 1, 2, 3] (ls' := [(0, vR (-50)), (1, vR l1), (2, vR l2), (3, vI l3)]) rfl ?_
      refine r_wide (k' := KF + 6) (n' := NF + 206) (by omega) (by omega) ?_
      exact tL_law_652 (fun h => hk18 h) F X hq h
    replace h := ite_n h hc14
    by_cases hc15 : iand a29 63 = 15
    · replace h := ite_p h hc15
      refine r_tIn (off := 642) (tgt := 675) F (by omega) (by omega) (by rw [hc15]; rfl) (by decide) dL_law_33 ?_
      refine r_sub [0, 1, 2, 3] (ls' := [(0, vR (-50)), (1, vR l1), (2, vR l2), (3, vI l3)]) rfl ?_
      refine r_wide (k' := KF + 6) (n' := NF + 206) (by omega) (by omega) ?_
      exact tL_law_675 (fun h => hk18 h) F X hq h
    replace h := ite_n h hc15
    by_cases hc16 : iand a29 63 = 16
    · replace h := ite_p h hc16
      refine r_tIn (off := 665) (tgt := 698) F (by omega) (by omega) (by rw [hc16]; rfl) (by decide) dL_law_33 ?_
      refine r_sub [0, 1, 2, 3] (ls' := [(0, vR (-50)), (1, vR l1), (2, vR l2), (3, vI l3)]) rfl ?_
      refine r_wide (k' := KF + 6) (n' := NF + 206) (by omega) (by omega) ?_
      exact tL_law_698 (fun h => hk18 h) F X hq h
    replace h := ite_n h hc16
    by_cases hc17 : iand a29 63 = 17
    · replace h := ite_p h hc17
      refine r_tIn (off := 688) (tgt := 721) F (by omega) (by omega) (by rw [hc17]; rfl) (by decide) dL_law_33 ?_
      refine r_sub [0, 1, 2, 3] (ls' := [(0, vR (-50)), (1, vR l1), (2, vR l2), (3, vI l3)]) rfl ?_
      refine r_wide (k' := KF + 6) (n' := NF + 206) (by omega) (by omega) ?_
      exact tL_law_721 (fun h => hk18 h) F X hq h
    replace h := ite_n h hc17
    by_cases hc18 : iand a29 63 = 18
    · replace h := ite_p h hc18
      refine r_tIn (off := 721) (tgt := 754) F (by omega) (by omega) (by rw [hc18]; rfl) (by decide) dL_law_33 ?_
      refine r_sub [0, 1, 2, 3] (ls' := [(0, vR (-50)), (1, vR l1), (2, vR l2), (3, vI l3)]) rfl ?_
      refine r_wide (k' := KF + 6) (n' := NF + 206) (by omega) (by omega) ?_
      exact tL_law_754 (fun h => hk18 h) F X hq h
    replace h := ite_n h hc18
    by_cases hc19 : iand a29 63 = 19
    · replace h := ite_p h hc19
      refine r_tIn (off := 734) (tgt := 767) F (by omega) (by omega) (by rw [hc19]; rfl) (by decide) dL_law_33 ?_
      refine r_sub [0, 1, 2, 3] (ls' := [(0, vR (-50)), (1, vR l1), (2, vR l2), (3, vI l3)]) rfl ?_
      refine r_wide (k' := KF + 6) (n' := NF + 206) (by omega) (by omega) ?_
      exact tL_law_767 (fun h => hk18 h) F X hq h
    replace h := ite_n h hc19
    by_cases hc20 : iand a29 63 = 20
    · replace h := ite_p h hc20
      refine r_tIn (off := 747) (tgt := 780) F (by omega) (by omega) (by rw [hc20]; rfl) (by decide) dL_law_33 ?_
      refine r_sub [0, 1, 2, 3] (ls' := [(0, vR (-50)), (1, vR l1), (2, vR l2), (3, vI l3)]) rfl ?_
      refine r_wide (k' := KF + 6) (n' := NF + 206) (by omega) (by omega) ?_
      exact tL_law_780 (fun h => hk18 h) F X hq h
    replace h := ite_n h hc20
    by_cases hc21 : iand a29 63 = 21
    · replace h := ite_p h hc21
      refine r_tIn (off := 770) (tgt := 803) F (by omega) (by omega) (by rw [hc21]; rfl) (by decide) dL_law_33 ?_
      refine r_sub [0, 1, 2, 3] (ls' := [(0, vR (-50)), (1, vR l1), (2, vR l2), (3, vI l3)]) rfl ?_
      refine r_wide (k' := KF + 6) (n' := NF + 206) (by omega) (by omega) ?_
      exact tL_law_803 (fun h => hk18 h) F X hq h
    replace h := ite_n h hc21
    by_cases hc22 : iand a29 63 = 22
    · replace h := ite_p h hc22
      refine r_tIn (off := 783) (tgt := 816) F (by omega) (by omega) (by rw [hc22]; rfl) (by decide) dL_law_33 ?_
      refine r_sub [0, 1, 2, 3] (ls' := [(0, vR (-50)), (1, vR l1), (2, vR l2), (3, vI l3)]) rfl ?_
      refine r_wide (k' := KF + 6) (n' := NF + 206) (by omega) (by omega) ?_
      exact tL_law_816 (fun h => hk18 h) F X hq h
    replace h := ite_n h hc22
    by_cases hc23 : iand a29 63 = 23
    · replace h := ite_p h hc23
      refine r_tIn (off := 806) (tgt := 839) F (by omega) (by omega) (by rw [hc23]; rfl) (by decide) dL_law_33 ?_
      refine r_sub [0, 1, 2, 3] (ls' := [(0, vR (-50)), (1, vR l1), (2, vR l2), (3, vI l3)]) rfl ?_
      refine r_wide (k' := KF + 6) (n' := NF + 206) (by omega) (by omega) ?_
      exact tL_law_839 (fun h => hk18 h) F X hq h
    replace h := ite_n h hc23
    by_cases hc24 : iand a29 63 = 24
    · replace h := ite_p h hc24
      refine r_tIn (off := 829) (tgt := 862) F (by omega) (by omega) (by rw [hc24]; rfl) (by decide) dL_law_33 ?_
      refine r_sub [0, 1, 2, 3] (ls' := [(0, vR (-50)), (1, vR l1), (2, vR l2), (3, vI l3)]) rfl ?_
      refine r_wide (k' := KF + 6) (n' := NF + 206) (by omega) (by omega) ?_
      exact tL_law_862 (fun h => hk18 h) F X hq h
    replace h := ite_n h hc24
    by_cases hc25 : iand a29 63 = 25
    · replace h := ite_p h hc25
      refine r_tIn (off := 872) (tgt := 905) F (by omega) (by omega) (by rw [hc25]; rfl) (by decide) dL_law_33 ?_
      refine r_sub [0, 1, 2, 3] (ls' := [(0, vR (-50)), (1, vR l1), (2, vR l2), (3, vI l3)]) rfl ?_
      refine r_wide (k' := KF + 6) (n' := NF + 206) (by omega) (by omega) ?_
      exact tL_law_905 (fun h => hk18 h) F X hq h
    replace h := ite_n h hc25
    by_cases hc26 : iand a29 63 = 26
    · replace h := ite_p h hc26
      refine r_tIn (off := 925) (tgt := 958) F (by omega) (by omega) (by rw [hc26]; rfl) (by decide) dL_law_33 ?_
      refine r_sub [0, 1, 2, 3] (ls' := [(0, vR (-50)), (1, vR l1), (2, vR l2), (3, vI l3)]) rfl ?_
      refine r_wide (k' := KF + 6) (n' := NF + 206) (by omega) (by omega) ?_
      exact tL_law_958 (fun h => hk18 h) F X hq h
    replace h := ite_n h hc26
    by_cases hc27 : iand a29 63 = 27
    · replace h := ite_p h hc27
      refine r_tIn (off := 948) (tgt := 981) F (by omega) (by omega) (by rw [hc27]; rfl) (by decide) dL_law_33 ?_
      refine r_sub [0, 1, 2, 3] (ls' := [(0, vR (-50)), (1, vR l1), (2, vR l2), (3, vI l3)]) rfl ?_
      refine r_wide (k' := KF + 6) (n' := NF + 206) (by omega) (by omega) ?_
      exact tL_law_981 (fun h => hk18 h) F X hq h
    replace h := ite_n h hc27
    by_cases hc28 : iand a29 63 = 28
    · replace h := ite_p h hc28
      refine r_tIn (off := 961) (tgt := 994) F (by omega) (by omega) (by rw [hc28]; rfl) (by decide) dL_law_33 ?_
      refine r_sub [0, 1, 2, 3] (ls' := [(0, vR (-50)), (1, vR l1), (2, vR l2), (3, vI l3)]) rfl ?_
      refine r_wide (k' := KF + 6) (n' := NF + 206) (by omega) (by omega) ?_
      exact tL_law_994 (fun h => hk18 h) F X hq h
    replace h := ite_n h hc28
    by_cases hc29 : iand a29 63 = 29
    · replace h := ite_p h hc29
      refine r_tIn (off := 984) (tgt := 1017) F (by omega) (by omega) (by rw [hc29]; rfl) (by decide) dL_law_33 ?_
      refine r_sub [0, 1, 2, 3] (ls' := [(0, vR (-50)), (1, vR l1), (2, vR l2), (3, vI l3)]) rfl ?_
      refine r_wide (k' := KF + 6) (n' := NF + 206) (by omega) (by omega) ?_
      exact tL_law_1017 (fun h => hk18 h) F X hq h
    replace h := ite_n h hc29
    by_cases hc30 : iand a29 63 = 30
    · replace h := ite_p h hc30
      refine r_tIn (off := 997) (tgt := 1030) F (by omega) (by omega) (by rw [hc30]; rfl) (by decide) dL_law_33 ?_
      refine r_sub [0, 1, 2, 3] (ls' := [(0, vR (-50)), (1, vR l1), (2, vR l2), (3, vI l3)]) rfl ?_
      refine r_wide (k' := KF + 6) (n' := NF + 206) (by omega) (by omega) ?_
      exact tL_law_1030 (fun h => hk18 h) F X hq h
    replace h := ite_n h hc30
    by_cases hc31 : iand a29 63 = 31
    · replace h := ite_p h hc31
      refine r_tIn (off := 1020) (tgt := 1053) F (by omega) (by omega) (by rw [hc31]; rfl) (by decide) dL_law_33 ?_
      refine r_sub [0, 1, 2, 3] (ls' := [(0, vR (-50)), (1, vR l1), (2, vR l2), (3, vI l3)]) rfl ?_
      refine r_wide (k' := KF + 6) (n' := NF + 206) (by omega) (by omega) ?_
      exact tL_law_1053 (fun h => hk18 h) F X hq h
    replace h := ite_n h hc31
    by_cases hc32 : iand a29 63 = 32
    · replace h := ite_p h hc32
      refine r_tIn (off := 1033) (tgt := 1066) F (by omega) (by omega) (by rw [hc32]; rfl) (by decide) dL_law_33 ?_
      refine r_sub [0, 1, 2, 3] (ls' := [(0, vR (-50)), (1, vR l1), (2, vR l2), (3, vI l3)]) rfl ?_
      refine r_wide (k' := KF + 6) (n' := NF + 206) (by omega) (by omega) ?_
      exact tL_law_1066 (fun h => hk18 h) F X hq h
    replace h := ite_n h hc32
    by_cases hc33 : iand a29 63 = 33
    · replace h := ite_p h hc33
      refine r_tIn (off := 1056) (tgt := 1089) F (by omega) (by omega) (by rw [hc33]; rfl) (by decide) dL_law_33 ?_
      refine r_sub [0, 1, 2, 3] (ls' := [(0, vR (-50)), (1, vR l1), (2, vR l2), (3, vI l3)]) rfl ?_
      refine r_wide (k' := KF + 6) (n' := NF + 206) (by omega) (by omega) ?_
      exact tL_law_1089 (fun h => hk18 h) F X hq h
    replace h := ite_n h hc33
    by_cases hc34 : iand a29 63 = 34
    · replace h := ite_p h hc34
      refine r_tIn (off := 1079) (tgt := 1112) F (by omega) (by omega) (by rw [hc34]; rfl) (by decide) dL_law_33 ?_
      refine r_sub [0, 1, 2, 3] (ls' := [(0, vR (-50)), (1, vR l1), (2, vR l2), (3, vI l3)]) rfl ?_
      refine r_wide (k' := KF + 6) (n' := NF + 206) (by omega) (by omega) ?_
      exact tL_law_1112 (fun h => hk18 h) F X hq h
    replace h := ite_n h hc34
    refine r_tOut (tgt := 1135) F (by omega) (by decide) dL_law_33 ?_
    refine r_sub [0, 1, 2, 3] (ls' := [(0, vR (-50)), (1, vR l1), (2, vR l2), (3, vI l3)]) rfl ?_
    refine r_wide (k' := KF) (n' := NF) (by omega) (by omega) ?_
    exact tL_law_1135 (fun h => hk18 h) F X hq h
theorem tL_law_18 {E : En} {p : Program} {l : Launch} {e : Env} {s : State} {m : MethodId} {b : Nat} {below : List Frame} {meth : Method} {c : Code} {nm : String} {L : Nat} {xs : Nat → Int32} {q : Int × Mem} (F : Fx E p s m #[Value.ref b] meth c code 4 R_law (some .boolean) nm) (X : LX E s b L xs) (hq : q.1 = 1) : ∀ {fu : Nat} {l1 l2 l3 : Int} {M : Mem}, mL_law_18 L xs fu l1 l2 l3 M = some q → G E p l e room_1 s m #[Value.ref b] below meth c 4 (lw_Z below #[Value.ref b] s) (fu * 6) (fu * 206) M 18 [(0, vR (-50)), (1, vR l1), (2, vR l2), (3, vI l3)] [] := by
  intro fu
  induction fu with
  | zero => intro l1 l2 l3 M h; exact nomatch (show (none : Option (Int × Mem)) = some q from h)
  | succ fu ih =>
    intro l1 l2 l3 M h
    have h9 := tbL_law_18 (KF := fu * 6) (NF := fu * 206) (fun h => ih h) F X hq h
    rw [← Nat.succ_mul, ← Nat.succ_mul] at h9
    exact h9
theorem tL_law {E : En} {p : Program} {l : Launch} {e : Env} {s : State} {m : MethodId} {b : Nat} {below : List Frame} {meth : Method} {c : Code} {nm : String} {L : Nat} {xs : Nat → Int32} {q : Int × Mem} {M : Mem} (F : Fx E p s m #[Value.ref b] meth c code 4 R_law (some .boolean) nm) (X : LX E s b L xs) (hq : q.1 = 1) (h : mL_law L xs M = some q) : G E p l e room_1 s m #[Value.ref b] below meth c 4 (lw_Z below #[Value.ref b] s) 600000 7302250 M 0 [(0, vR (-50))] [] := by
  unfold mL_law at h
  refine r_wide (k' := 3289) (n' := 257996) (by omega) (by omega) ?_
  replace h := bind_so h
  obtain ⟨q0, h0, h⟩ := h
  refine r_newO clok_8 (by decide +kernel) F h0 tw_130 tw_131 tw_112 dL_law_0 (by decide) ?_
  refine r_dup1 F rfl dL_law_3 ?_
  replace h := bind_so h
  obtain ⟨_, g4, h⟩ := h
  replace h := bind_so h
  obtain ⟨q4, h4, h⟩ := h
  refine r_callIK (as := []) (rv := none) (kc := 124) (nc := 6724) (tX8_init h4) rfl (gK_so g4) (by decide) F tw_132 tw_133 rfl tw_134 tw_112 ⟨by decide, by decide, show (parseMethodDescriptor yX8_init.desc).map (fun d => d.parameters.length) = some 0 by decide +kernel⟩ ⟨by decide, by decide⟩ (Nat.le_of_ble_eq_true rfl) dL_law_4 (by decide) ?_
  refine r_astore_n (ls' := [(1, vR q0.1), (0, vR (-50))]) F rfl (by decide) rfl dL_law_7 ?_
  replace h := bind_so h
  obtain ⟨q8, h8, h⟩ := h
  refine r_newO clok_9 (by decide +kernel) F h8 tw_1290 tw_1291 tw_122 dL_law_8 (by decide) ?_
  refine r_dup1 F rfl dL_law_11 ?_
  replace h := bind_so h
  obtain ⟨_, g12, h⟩ := h
  replace h := bind_so h
  obtain ⟨q12, h12, h⟩ := h
  refine r_callIK (as := []) (rv := none) (kc := 43) (nc := 144084) (tX9_init h12) rfl (gK_so g12) (by decide) F tw_1292 tw_1293 rfl tw_1294 tw_122 ⟨by decide, by decide, show (parseMethodDescriptor yX9_init.desc).map (fun d => d.parameters.length) = some 0 by decide +kernel⟩ ⟨by decide, by decide⟩ (Nat.le_of_ble_eq_true rfl) dL_law_12 (by decide) ?_
  refine r_astore_n (ls' := [(2, vR q8.1), (1, vR q0.1), (0, vR (-50))]) F rfl (by decide) rfl dL_law_15 ?_
  refine r_iconst F rfl dL_law_16 ?_
  refine r_istore_n (ls' := [(3, vI 0), (2, vR q8.1), (1, vR q0.1), (0, vR (-50))]) F rfl (by decide) rfl dL_law_17 ?_
  refine r_sub [3, 2, 1, 0] (ls' := [(0, vR (-50)), (1, vR q0.1), (2, vR q8.1), (3, vI 0)]) rfl ?_
  refine r_wide (k' := FL * 6) (n' := FL * 206) (by unfold FL; omega) (by unfold FL; omega) ?_
  exact tL_law_18 F X hq h
