set_option maxRecDepth 100000 in
theorem uw_15 : (Jvm.Cond.classLink "VillageCutsLaw" (7 : Nat) "VillageCuts") ∈ UW := UW_in 15 rfl rfl
set_option maxRecDepth 100000 in
theorem uw_16 : (Jvm.Cond.instantiable "VillageCuts" (11 : Nat)) ∈ UW := UW_in 16 rfl rfl
set_option maxRecDepth 100000 in
theorem uw_17 : (Jvm.Cond.methodLink "VillageCutsLaw" (9 : Nat) ({ cls := "VillageCuts", name := "<init>", desc := "()V" } : Jvm.MethodName)) ∈ UW := UW_in 17 rfl rfl
set_option maxRecDepth 100000 in
theorem uw_18 : (Jvm.Cond.instanceMethod ({ cls := "VillageCuts", name := "<init>", desc := "()V" } : Jvm.MethodName)) ∈ UW := UW_in 18 rfl rfl
set_option maxRecDepth 100000 in
theorem uw_198 : (Jvm.Cond.methodLink "VillageCutsLaw" (13 : Nat) ({ cls := "VillageCuts", name := "land", desc := "(IIII)I" } : Jvm.MethodName)) ∈ UW := UW_in 198 rfl rfl
set_option maxRecDepth 100000 in
theorem uw_199 : (Jvm.Cond.instanceMethod ({ cls := "VillageCuts", name := "land", desc := "(IIII)I" } : Jvm.MethodName)) ∈ UW := UW_in 199 rfl rfl
set_option maxRecDepth 100000 in
theorem uw_200 : (Jvm.Cond.selects "VillageCuts" ({ cls := "VillageCuts", name := "land", desc := "(IIII)I" } : Jvm.MethodName) ({ cls := "VillageCuts", name := "land", desc := "(IIII)I" } : Jvm.MethodName)) ∈ UW := UW_in 200 rfl rfl
set_option maxRecDepth 100000 in
theorem uw_378 : (Jvm.Cond.methodLink "VillageCutsLaw" (18 : Nat) ({ cls := "VillageCuts", name := "ofVillage", desc := "(II)I" } : Jvm.MethodName)) ∈ UW := UW_in 378 rfl rfl
set_option maxRecDepth 100000 in
theorem uw_379 : (Jvm.Cond.instanceMethod ({ cls := "VillageCuts", name := "ofVillage", desc := "(II)I" } : Jvm.MethodName)) ∈ UW := UW_in 379 rfl rfl
set_option maxRecDepth 100000 in
theorem uw_380 : (Jvm.Cond.selects "VillageCuts" ({ cls := "VillageCuts", name := "ofVillage", desc := "(II)I" } : Jvm.MethodName) ({ cls := "VillageCuts", name := "ofVillage", desc := "(II)I" } : Jvm.MethodName)) ∈ UW := UW_in 380 rfl rfl
set_option maxRecDepth 100000 in
theorem uw_409 : (Jvm.Cond.methodLink "VillageCutsLaw" (23 : Nat) ({ cls := "VillageCuts", name := "thing", desc := "(III)I" } : Jvm.MethodName)) ∈ UW := UW_in 409 rfl rfl
set_option maxRecDepth 100000 in
theorem uw_410 : (Jvm.Cond.instanceMethod ({ cls := "VillageCuts", name := "thing", desc := "(III)I" } : Jvm.MethodName)) ∈ UW := UW_in 410 rfl rfl
set_option maxRecDepth 100000 in
theorem uw_411 : (Jvm.Cond.selects "VillageCuts" ({ cls := "VillageCuts", name := "thing", desc := "(III)I" } : Jvm.MethodName) ({ cls := "VillageCuts", name := "thing", desc := "(III)I" } : Jvm.MethodName)) ∈ UW := UW_in 411 rfl rfl
set_option maxRecDepth 100000 in
theorem uw_428 : (Jvm.Cond.methodLink "VillageCutsLaw" (28 : Nat) ({ cls := "VillageCuts", name := "ahead", desc := "(IIII)I" } : Jvm.MethodName)) ∈ UW := UW_in 428 rfl rfl
set_option maxRecDepth 100000 in
theorem uw_429 : (Jvm.Cond.instanceMethod ({ cls := "VillageCuts", name := "ahead", desc := "(IIII)I" } : Jvm.MethodName)) ∈ UW := UW_in 429 rfl rfl
set_option maxRecDepth 100000 in
theorem uw_430 : (Jvm.Cond.selects "VillageCuts" ({ cls := "VillageCuts", name := "ahead", desc := "(IIII)I" } : Jvm.MethodName) ({ cls := "VillageCuts", name := "ahead", desc := "(IIII)I" } : Jvm.MethodName)) ∈ UW := UW_in 430 rfl rfl
set_option maxRecDepth 100000 in
theorem uw_436 : (Jvm.Cond.methodLink "VillageCutsLaw" (32 : Nat) ({ cls := "VillageCuts", name := "happen", desc := "(I)I" } : Jvm.MethodName)) ∈ UW := UW_in 436 rfl rfl
set_option maxRecDepth 100000 in
theorem uw_437 : (Jvm.Cond.instanceMethod ({ cls := "VillageCuts", name := "happen", desc := "(I)I" } : Jvm.MethodName)) ∈ UW := UW_in 437 rfl rfl
set_option maxRecDepth 100000 in
theorem uw_438 : (Jvm.Cond.selects "VillageCuts" ({ cls := "VillageCuts", name := "happen", desc := "(I)I" } : Jvm.MethodName) ({ cls := "VillageCuts", name := "happen", desc := "(I)I" } : Jvm.MethodName)) ∈ UW := UW_in 438 rfl rfl
set_option maxRecDepth 100000 in
theorem uw_440 : (Jvm.Cond.methodLink "VillageCutsLaw" (37 : Nat) ({ cls := "VillageCuts", name := "anew", desc := "()I" } : Jvm.MethodName)) ∈ UW := UW_in 440 rfl rfl
set_option maxRecDepth 100000 in
theorem uw_441 : (Jvm.Cond.instanceMethod ({ cls := "VillageCuts", name := "anew", desc := "()I" } : Jvm.MethodName)) ∈ UW := UW_in 441 rfl rfl
set_option maxRecDepth 100000 in
theorem uw_442 : (Jvm.Cond.selects "VillageCuts" ({ cls := "VillageCuts", name := "anew", desc := "()I" } : Jvm.MethodName) ({ cls := "VillageCuts", name := "anew", desc := "()I" } : Jvm.MethodName)) ∈ UW := UW_in 442 rfl rfl
set_option maxRecDepth 100000 in
theorem uw_451 : (Jvm.Cond.methodLink "VillageCutsLaw" (42 : Nat) ({ cls := "VillageCuts", name := "cut", desc := "(IIII)I" } : Jvm.MethodName)) ∈ UW := UW_in 451 rfl rfl
set_option maxRecDepth 100000 in
theorem uw_452 : (Jvm.Cond.instanceMethod ({ cls := "VillageCuts", name := "cut", desc := "(IIII)I" } : Jvm.MethodName)) ∈ UW := UW_in 452 rfl rfl
set_option maxRecDepth 100000 in
theorem uw_453 : (Jvm.Cond.selects "VillageCuts" ({ cls := "VillageCuts", name := "cut", desc := "(IIII)I" } : Jvm.MethodName) ({ cls := "VillageCuts", name := "cut", desc := "(IIII)I" } : Jvm.MethodName)) ∈ UW := UW_in 453 rfl rfl
set_option maxRecDepth 100000 in
theorem uw_487 : (Jvm.Cond.methodLink "VillageCutsLaw" (46 : Nat) ({ cls := "VillageCuts", name := "now", desc := "(I)I" } : Jvm.MethodName)) ∈ UW := UW_in 487 rfl rfl
set_option maxRecDepth 100000 in
theorem uw_488 : (Jvm.Cond.instanceMethod ({ cls := "VillageCuts", name := "now", desc := "(I)I" } : Jvm.MethodName)) ∈ UW := UW_in 488 rfl rfl
set_option maxRecDepth 100000 in
theorem uw_489 : (Jvm.Cond.selects "VillageCuts" ({ cls := "VillageCuts", name := "now", desc := "(I)I" } : Jvm.MethodName) ({ cls := "VillageCuts", name := "now", desc := "(I)I" } : Jvm.MethodName)) ∈ UW := UW_in 489 rfl rfl
set_option maxRecDepth 100000 in
theorem uw_495 : (Jvm.Cond.methodLink "VillageCutsLaw" (50 : Nat) ({ cls := "VillageCuts", name := "tale", desc := "(IIIII)I" } : Jvm.MethodName)) ∈ UW := UW_in 495 rfl rfl
set_option maxRecDepth 100000 in
theorem uw_496 : (Jvm.Cond.instanceMethod ({ cls := "VillageCuts", name := "tale", desc := "(IIIII)I" } : Jvm.MethodName)) ∈ UW := UW_in 496 rfl rfl
set_option maxRecDepth 100000 in
theorem uw_497 : (Jvm.Cond.selects "VillageCuts" ({ cls := "VillageCuts", name := "tale", desc := "(IIIII)I" } : Jvm.MethodName) ({ cls := "VillageCuts", name := "tale", desc := "(IIIII)I" } : Jvm.MethodName)) ∈ UW := UW_in 497 rfl rfl
set_option maxRecDepth 100000 in
theorem uw_505 : (Jvm.Cond.methodLink "VillageCutsLaw" (55 : Nat) ({ cls := "VillageCuts", name := "cuts", desc := "()I" } : Jvm.MethodName)) ∈ UW := UW_in 505 rfl rfl
set_option maxRecDepth 100000 in
theorem uw_506 : (Jvm.Cond.instanceMethod ({ cls := "VillageCuts", name := "cuts", desc := "()I" } : Jvm.MethodName)) ∈ UW := UW_in 506 rfl rfl
set_option maxRecDepth 100000 in
theorem uw_507 : (Jvm.Cond.selects "VillageCuts" ({ cls := "VillageCuts", name := "cuts", desc := "()I" } : Jvm.MethodName) ({ cls := "VillageCuts", name := "cuts", desc := "()I" } : Jvm.MethodName)) ∈ UW := UW_in 507 rfl rfl
set_option maxRecDepth 100000 in
theorem uw_545 : (Jvm.Cond.methodLink "VillageCutsLaw" (59 : Nat) ({ cls := "VillageCuts", name := "runs", desc := "()J" } : Jvm.MethodName)) ∈ UW := UW_in 545 rfl rfl
set_option maxRecDepth 100000 in
theorem uw_546 : (Jvm.Cond.instanceMethod ({ cls := "VillageCuts", name := "runs", desc := "()J" } : Jvm.MethodName)) ∈ UW := UW_in 546 rfl rfl
set_option maxRecDepth 100000 in
theorem uw_547 : (Jvm.Cond.selects "VillageCuts" ({ cls := "VillageCuts", name := "runs", desc := "()J" } : Jvm.MethodName) ({ cls := "VillageCuts", name := "runs", desc := "()J" } : Jvm.MethodName)) ∈ UW := UW_in 547 rfl rfl
set_option maxRecDepth 100000 in
theorem uw_554 : (Jvm.Cond.methodLink "VillageCutsLaw" (64 : Nat) ({ cls := "VillageCuts", name := "first", desc := "(I)I" } : Jvm.MethodName)) ∈ UW := UW_in 554 rfl rfl
set_option maxRecDepth 100000 in
theorem uw_555 : (Jvm.Cond.instanceMethod ({ cls := "VillageCuts", name := "first", desc := "(I)I" } : Jvm.MethodName)) ∈ UW := UW_in 555 rfl rfl
set_option maxRecDepth 100000 in
theorem uw_556 : (Jvm.Cond.selects "VillageCuts" ({ cls := "VillageCuts", name := "first", desc := "(I)I" } : Jvm.MethodName) ({ cls := "VillageCuts", name := "first", desc := "(I)I" } : Jvm.MethodName)) ∈ UW := UW_in 556 rfl rfl
set_option maxRecDepth 100000 in
theorem uw_558 : (Jvm.Cond.methodLink "VillageCutsLaw" (68 : Nat) ({ cls := "VillageCuts", name := "some", desc := "(I)I" } : Jvm.MethodName)) ∈ UW := UW_in 558 rfl rfl
set_option maxRecDepth 100000 in
theorem uw_559 : (Jvm.Cond.instanceMethod ({ cls := "VillageCuts", name := "some", desc := "(I)I" } : Jvm.MethodName)) ∈ UW := UW_in 559 rfl rfl
set_option maxRecDepth 100000 in
theorem uw_560 : (Jvm.Cond.selects "VillageCuts" ({ cls := "VillageCuts", name := "some", desc := "(I)I" } : Jvm.MethodName) ({ cls := "VillageCuts", name := "some", desc := "(I)I" } : Jvm.MethodName)) ∈ UW := UW_in 560 rfl rfl
set_option maxRecDepth 100000 in
theorem uw_569 : (Jvm.Cond.methodLink "VillageCutsLaw" (72 : Nat) ({ cls := "VillageCuts", name := "every", desc := "(I)I" } : Jvm.MethodName)) ∈ UW := UW_in 569 rfl rfl
set_option maxRecDepth 100000 in
theorem uw_570 : (Jvm.Cond.instanceMethod ({ cls := "VillageCuts", name := "every", desc := "(I)I" } : Jvm.MethodName)) ∈ UW := UW_in 570 rfl rfl
set_option maxRecDepth 100000 in
theorem uw_571 : (Jvm.Cond.selects "VillageCuts" ({ cls := "VillageCuts", name := "every", desc := "(I)I" } : Jvm.MethodName) ({ cls := "VillageCuts", name := "every", desc := "(I)I" } : Jvm.MethodName)) ∈ UW := UW_in 571 rfl rfl
set_option maxRecDepth 100000 in
theorem uw_581 : (Jvm.Cond.methodLink "VillageCutsLaw" (76 : Nat) ({ cls := "VillageCuts", name := "reading", desc := "(IIII)I" } : Jvm.MethodName)) ∈ UW := UW_in 581 rfl rfl
set_option maxRecDepth 100000 in
theorem uw_582 : (Jvm.Cond.instanceMethod ({ cls := "VillageCuts", name := "reading", desc := "(IIII)I" } : Jvm.MethodName)) ∈ UW := UW_in 582 rfl rfl
set_option maxRecDepth 100000 in
theorem uw_583 : (Jvm.Cond.selects "VillageCuts" ({ cls := "VillageCuts", name := "reading", desc := "(IIII)I" } : Jvm.MethodName) ({ cls := "VillageCuts", name := "reading", desc := "(IIII)I" } : Jvm.MethodName)) ∈ UW := UW_in 583 rfl rfl
set_option maxRecDepth 100000 in
theorem uw_585 : (Jvm.Cond.methodLink "VillageCutsLaw" (80 : Nat) ({ cls := "VillageCuts", name := "back", desc := "(I)I" } : Jvm.MethodName)) ∈ UW := UW_in 585 rfl rfl
set_option maxRecDepth 100000 in
theorem uw_586 : (Jvm.Cond.instanceMethod ({ cls := "VillageCuts", name := "back", desc := "(I)I" } : Jvm.MethodName)) ∈ UW := UW_in 586 rfl rfl
set_option maxRecDepth 100000 in
theorem uw_587 : (Jvm.Cond.selects "VillageCuts" ({ cls := "VillageCuts", name := "back", desc := "(I)I" } : Jvm.MethodName) ({ cls := "VillageCuts", name := "back", desc := "(I)I" } : Jvm.MethodName)) ∈ UW := UW_in 587 rfl rfl
set_option maxRecDepth 100000 in
theorem uw_589 : (Jvm.Cond.methodLink "VillageCutsLaw" (84 : Nat) ({ cls := "VillageCuts", name := "kinds", desc := "(I)I" } : Jvm.MethodName)) ∈ UW := UW_in 589 rfl rfl
set_option maxRecDepth 100000 in
theorem uw_590 : (Jvm.Cond.instanceMethod ({ cls := "VillageCuts", name := "kinds", desc := "(I)I" } : Jvm.MethodName)) ∈ UW := UW_in 590 rfl rfl
set_option maxRecDepth 100000 in
theorem uw_591 : (Jvm.Cond.selects "VillageCuts" ({ cls := "VillageCuts", name := "kinds", desc := "(I)I" } : Jvm.MethodName) ({ cls := "VillageCuts", name := "kinds", desc := "(I)I" } : Jvm.MethodName)) ∈ UW := UW_in 591 rfl rfl
set_option maxRecDepth 100000 in
theorem uw_598 : (Jvm.Cond.methodLink "VillageCutsLaw" (88 : Nat) ({ cls := "VillageCuts", name := "odds", desc := "(II)J" } : Jvm.MethodName)) ∈ UW := UW_in 598 rfl rfl
set_option maxRecDepth 100000 in
theorem uw_599 : (Jvm.Cond.instanceMethod ({ cls := "VillageCuts", name := "odds", desc := "(II)J" } : Jvm.MethodName)) ∈ UW := UW_in 599 rfl rfl
set_option maxRecDepth 100000 in
theorem uw_600 : (Jvm.Cond.selects "VillageCuts" ({ cls := "VillageCuts", name := "odds", desc := "(II)J" } : Jvm.MethodName) ({ cls := "VillageCuts", name := "odds", desc := "(II)J" } : Jvm.MethodName)) ∈ UW := UW_in 600 rfl rfl
set_option maxRecDepth 100000 in
theorem uw_605 : (Jvm.Cond.methodLink "VillageCutsLaw" (93 : Nat) ({ cls := "VillageCuts", name := "sheet", desc := "(III)I" } : Jvm.MethodName)) ∈ UW := UW_in 605 rfl rfl
set_option maxRecDepth 100000 in
theorem uw_606 : (Jvm.Cond.instanceMethod ({ cls := "VillageCuts", name := "sheet", desc := "(III)I" } : Jvm.MethodName)) ∈ UW := UW_in 606 rfl rfl
set_option maxRecDepth 100000 in
theorem uw_607 : (Jvm.Cond.selects "VillageCuts" ({ cls := "VillageCuts", name := "sheet", desc := "(III)I" } : Jvm.MethodName) ({ cls := "VillageCuts", name := "sheet", desc := "(III)I" } : Jvm.MethodName)) ∈ UW := UW_in 607 rfl rfl
set_option maxRecDepth 100000 in
theorem uw_614 : (Jvm.Cond.methodLink "VillageCutsLaw" (97 : Nat) ({ cls := "VillageCuts", name := "lose", desc := "(I)I" } : Jvm.MethodName)) ∈ UW := UW_in 614 rfl rfl
set_option maxRecDepth 100000 in
theorem uw_615 : (Jvm.Cond.instanceMethod ({ cls := "VillageCuts", name := "lose", desc := "(I)I" } : Jvm.MethodName)) ∈ UW := UW_in 615 rfl rfl
set_option maxRecDepth 100000 in
theorem uw_616 : (Jvm.Cond.selects "VillageCuts" ({ cls := "VillageCuts", name := "lose", desc := "(I)I" } : Jvm.MethodName) ({ cls := "VillageCuts", name := "lose", desc := "(I)I" } : Jvm.MethodName)) ∈ UW := UW_in 616 rfl rfl
set_option maxRecDepth 100000 in
theorem uw_618 : (Jvm.Cond.methodLink "VillageCutsLaw" (101 : Nat) ({ cls := "VillageCuts", name := "put", desc := "(III)I" } : Jvm.MethodName)) ∈ UW := UW_in 618 rfl rfl
set_option maxRecDepth 100000 in
theorem uw_619 : (Jvm.Cond.instanceMethod ({ cls := "VillageCuts", name := "put", desc := "(III)I" } : Jvm.MethodName)) ∈ UW := UW_in 619 rfl rfl
set_option maxRecDepth 100000 in
theorem uw_620 : (Jvm.Cond.selects "VillageCuts" ({ cls := "VillageCuts", name := "put", desc := "(III)I" } : Jvm.MethodName) ({ cls := "VillageCuts", name := "put", desc := "(III)I" } : Jvm.MethodName)) ∈ UW := UW_in 620 rfl rfl
set_option maxRecDepth 100000 in
theorem uw_627 : (Jvm.Cond.methodLink "VillageCutsLaw" (105 : Nat) ({ cls := "VillageCuts", name := "cell", desc := "(III)J" } : Jvm.MethodName)) ∈ UW := UW_in 627 rfl rfl
set_option maxRecDepth 100000 in
theorem uw_628 : (Jvm.Cond.instanceMethod ({ cls := "VillageCuts", name := "cell", desc := "(III)J" } : Jvm.MethodName)) ∈ UW := UW_in 628 rfl rfl
set_option maxRecDepth 100000 in
theorem uw_629 : (Jvm.Cond.selects "VillageCuts" ({ cls := "VillageCuts", name := "cell", desc := "(III)J" } : Jvm.MethodName) ({ cls := "VillageCuts", name := "cell", desc := "(III)J" } : Jvm.MethodName)) ∈ UW := UW_in 629 rfl rfl
set_option maxRecDepth 100000 in
theorem uw_631 : (Jvm.Cond.methodLink "VillageCutsLaw" (110 : Nat) ({ cls := "VillageCuts", name := "copy", desc := "(IIIII)I" } : Jvm.MethodName)) ∈ UW := UW_in 631 rfl rfl
set_option maxRecDepth 100000 in
theorem uw_632 : (Jvm.Cond.instanceMethod ({ cls := "VillageCuts", name := "copy", desc := "(IIIII)I" } : Jvm.MethodName)) ∈ UW := UW_in 632 rfl rfl
set_option maxRecDepth 100000 in
theorem uw_633 : (Jvm.Cond.selects "VillageCuts" ({ cls := "VillageCuts", name := "copy", desc := "(IIIII)I" } : Jvm.MethodName) ({ cls := "VillageCuts", name := "copy", desc := "(IIIII)I" } : Jvm.MethodName)) ∈ UW := UW_in 633 rfl rfl
set_option maxRecDepth 100000 in
theorem uw_635 : (Jvm.Cond.methodLink "VillageCutsLaw" (114 : Nat) ({ cls := "VillageCuts", name := "tell", desc := "(I)I" } : Jvm.MethodName)) ∈ UW := UW_in 635 rfl rfl
set_option maxRecDepth 100000 in
theorem uw_636 : (Jvm.Cond.instanceMethod ({ cls := "VillageCuts", name := "tell", desc := "(I)I" } : Jvm.MethodName)) ∈ UW := UW_in 636 rfl rfl
set_option maxRecDepth 100000 in
theorem uw_637 : (Jvm.Cond.selects "VillageCuts" ({ cls := "VillageCuts", name := "tell", desc := "(I)I" } : Jvm.MethodName) ({ cls := "VillageCuts", name := "tell", desc := "(I)I" } : Jvm.MethodName)) ∈ UW := UW_in 637 rfl rfl
set_option maxRecDepth 100000 in
theorem uw_665 : (Jvm.Cond.methodLink "VillageCutsLaw" (118 : Nat) ({ cls := "VillageCuts", name := "ring", desc := "(I)I" } : Jvm.MethodName)) ∈ UW := UW_in 665 rfl rfl
set_option maxRecDepth 100000 in
theorem uw_666 : (Jvm.Cond.instanceMethod ({ cls := "VillageCuts", name := "ring", desc := "(I)I" } : Jvm.MethodName)) ∈ UW := UW_in 666 rfl rfl
set_option maxRecDepth 100000 in
theorem uw_667 : (Jvm.Cond.selects "VillageCuts" ({ cls := "VillageCuts", name := "ring", desc := "(I)I" } : Jvm.MethodName) ({ cls := "VillageCuts", name := "ring", desc := "(I)I" } : Jvm.MethodName)) ∈ UW := UW_in 667 rfl rfl
set_option maxRecDepth 100000 in
theorem uw_678 : (Jvm.Cond.methodLink "VillageCutsLaw" (122 : Nat) ({ cls := "VillageCuts", name := "as", desc := "(II)I" } : Jvm.MethodName)) ∈ UW := UW_in 678 rfl rfl
set_option maxRecDepth 100000 in
theorem uw_679 : (Jvm.Cond.instanceMethod ({ cls := "VillageCuts", name := "as", desc := "(II)I" } : Jvm.MethodName)) ∈ UW := UW_in 679 rfl rfl
set_option maxRecDepth 100000 in
theorem uw_680 : (Jvm.Cond.selects "VillageCuts" ({ cls := "VillageCuts", name := "as", desc := "(II)I" } : Jvm.MethodName) ({ cls := "VillageCuts", name := "as", desc := "(II)I" } : Jvm.MethodName)) ∈ UW := UW_in 680 rfl rfl
set_option maxRecDepth 100000 in
theorem uw_687 : (Jvm.Cond.methodLink "VillageCutsLaw" (126 : Nat) ({ cls := "VillageCuts", name := "trace", desc := "()I" } : Jvm.MethodName)) ∈ UW := UW_in 687 rfl rfl
set_option maxRecDepth 100000 in
theorem uw_688 : (Jvm.Cond.instanceMethod ({ cls := "VillageCuts", name := "trace", desc := "()I" } : Jvm.MethodName)) ∈ UW := UW_in 688 rfl rfl
set_option maxRecDepth 100000 in
theorem uw_689 : (Jvm.Cond.selects "VillageCuts" ({ cls := "VillageCuts", name := "trace", desc := "()I" } : Jvm.MethodName) ({ cls := "VillageCuts", name := "trace", desc := "()I" } : Jvm.MethodName)) ∈ UW := UW_in 689 rfl rfl
set_option maxRecDepth 100000 in
theorem uw_691 : (Jvm.Cond.methodLink "VillageCutsLaw" (130 : Nat) ({ cls := "VillageCuts", name := "fault", desc := "()I" } : Jvm.MethodName)) ∈ UW := UW_in 691 rfl rfl
set_option maxRecDepth 100000 in
theorem uw_692 : (Jvm.Cond.instanceMethod ({ cls := "VillageCuts", name := "fault", desc := "()I" } : Jvm.MethodName)) ∈ UW := UW_in 692 rfl rfl
set_option maxRecDepth 100000 in
theorem uw_693 : (Jvm.Cond.selects "VillageCuts" ({ cls := "VillageCuts", name := "fault", desc := "()I" } : Jvm.MethodName) ({ cls := "VillageCuts", name := "fault", desc := "()I" } : Jvm.MethodName)) ∈ UW := UW_in 693 rfl rfl
set_option maxRecDepth 100000 in
theorem uw_695 : (Jvm.Cond.methodLink "VillageCutsLaw" (134 : Nat) ({ cls := "VillageCuts", name := "many", desc := "(I)I" } : Jvm.MethodName)) ∈ UW := UW_in 695 rfl rfl
set_option maxRecDepth 100000 in
theorem uw_696 : (Jvm.Cond.instanceMethod ({ cls := "VillageCuts", name := "many", desc := "(I)I" } : Jvm.MethodName)) ∈ UW := UW_in 696 rfl rfl
set_option maxRecDepth 100000 in
theorem uw_697 : (Jvm.Cond.selects "VillageCuts" ({ cls := "VillageCuts", name := "many", desc := "(I)I" } : Jvm.MethodName) ({ cls := "VillageCuts", name := "many", desc := "(I)I" } : Jvm.MethodName)) ∈ UW := UW_in 697 rfl rfl
set_option maxRecDepth 100000 in
theorem uw_703 : (Jvm.Cond.classLink "VillageCutsLaw" (10 : Nat) "VillageCutsModel") ∈ UW := UW_in 703 rfl rfl
set_option maxRecDepth 100000 in
theorem uw_704 : (Jvm.Cond.instantiable "VillageCutsModel" (27 : Nat)) ∈ UW := UW_in 704 rfl rfl
set_option maxRecDepth 100000 in
theorem uw_705 : (Jvm.Cond.methodLink "VillageCutsLaw" (12 : Nat) ({ cls := "VillageCutsModel", name := "<init>", desc := "()V" } : Jvm.MethodName)) ∈ UW := UW_in 705 rfl rfl
set_option maxRecDepth 100000 in
theorem uw_706 : (Jvm.Cond.instanceMethod ({ cls := "VillageCutsModel", name := "<init>", desc := "()V" } : Jvm.MethodName)) ∈ UW := UW_in 706 rfl rfl
set_option maxRecDepth 100000 in
theorem uw_791 : (Jvm.Cond.methodLink "VillageCutsLaw" (17 : Nat) ({ cls := "VillageCutsModel", name := "land", desc := "(IIII)I" } : Jvm.MethodName)) ∈ UW := UW_in 791 rfl rfl
set_option maxRecDepth 100000 in
theorem uw_792 : (Jvm.Cond.instanceMethod ({ cls := "VillageCutsModel", name := "land", desc := "(IIII)I" } : Jvm.MethodName)) ∈ UW := UW_in 792 rfl rfl
set_option maxRecDepth 100000 in
theorem uw_793 : (Jvm.Cond.selects "VillageCutsModel" ({ cls := "VillageCutsModel", name := "land", desc := "(IIII)I" } : Jvm.MethodName) ({ cls := "VillageCutsModel", name := "land", desc := "(IIII)I" } : Jvm.MethodName)) ∈ UW := UW_in 793 rfl rfl
set_option maxRecDepth 100000 in
theorem uw_860 : (Jvm.Cond.methodLink "VillageCutsLaw" (22 : Nat) ({ cls := "VillageCutsModel", name := "ofVillage", desc := "(II)I" } : Jvm.MethodName)) ∈ UW := UW_in 860 rfl rfl
set_option maxRecDepth 100000 in
theorem uw_861 : (Jvm.Cond.instanceMethod ({ cls := "VillageCutsModel", name := "ofVillage", desc := "(II)I" } : Jvm.MethodName)) ∈ UW := UW_in 861 rfl rfl
set_option maxRecDepth 100000 in
theorem uw_862 : (Jvm.Cond.selects "VillageCutsModel" ({ cls := "VillageCutsModel", name := "ofVillage", desc := "(II)I" } : Jvm.MethodName) ({ cls := "VillageCutsModel", name := "ofVillage", desc := "(II)I" } : Jvm.MethodName)) ∈ UW := UW_in 862 rfl rfl
set_option maxRecDepth 100000 in
theorem uw_888 : (Jvm.Cond.methodLink "VillageCutsLaw" (27 : Nat) ({ cls := "VillageCutsModel", name := "thing", desc := "(III)I" } : Jvm.MethodName)) ∈ UW := UW_in 888 rfl rfl
set_option maxRecDepth 100000 in
theorem uw_889 : (Jvm.Cond.instanceMethod ({ cls := "VillageCutsModel", name := "thing", desc := "(III)I" } : Jvm.MethodName)) ∈ UW := UW_in 889 rfl rfl
set_option maxRecDepth 100000 in
theorem uw_890 : (Jvm.Cond.selects "VillageCutsModel" ({ cls := "VillageCutsModel", name := "thing", desc := "(III)I" } : Jvm.MethodName) ({ cls := "VillageCutsModel", name := "thing", desc := "(III)I" } : Jvm.MethodName)) ∈ UW := UW_in 890 rfl rfl
set_option maxRecDepth 100000 in
theorem uw_896 : (Jvm.Cond.methodLink "VillageCutsLaw" (31 : Nat) ({ cls := "VillageCutsModel", name := "ahead", desc := "(IIII)I" } : Jvm.MethodName)) ∈ UW := UW_in 896 rfl rfl
set_option maxRecDepth 100000 in
theorem uw_897 : (Jvm.Cond.instanceMethod ({ cls := "VillageCutsModel", name := "ahead", desc := "(IIII)I" } : Jvm.MethodName)) ∈ UW := UW_in 897 rfl rfl
set_option maxRecDepth 100000 in
theorem uw_898 : (Jvm.Cond.selects "VillageCutsModel" ({ cls := "VillageCutsModel", name := "ahead", desc := "(IIII)I" } : Jvm.MethodName) ({ cls := "VillageCutsModel", name := "ahead", desc := "(IIII)I" } : Jvm.MethodName)) ∈ UW := UW_in 898 rfl rfl
set_option maxRecDepth 100000 in
theorem uw_900 : (Jvm.Cond.methodLink "VillageCutsLaw" (36 : Nat) ({ cls := "VillageCutsModel", name := "happen", desc := "(I)I" } : Jvm.MethodName)) ∈ UW := UW_in 900 rfl rfl
set_option maxRecDepth 100000 in
theorem uw_901 : (Jvm.Cond.instanceMethod ({ cls := "VillageCutsModel", name := "happen", desc := "(I)I" } : Jvm.MethodName)) ∈ UW := UW_in 901 rfl rfl
set_option maxRecDepth 100000 in
theorem uw_902 : (Jvm.Cond.selects "VillageCutsModel" ({ cls := "VillageCutsModel", name := "happen", desc := "(I)I" } : Jvm.MethodName) ({ cls := "VillageCutsModel", name := "happen", desc := "(I)I" } : Jvm.MethodName)) ∈ UW := UW_in 902 rfl rfl
set_option maxRecDepth 100000 in
theorem uw_904 : (Jvm.Cond.methodLink "VillageCutsLaw" (41 : Nat) ({ cls := "VillageCutsModel", name := "anew", desc := "()I" } : Jvm.MethodName)) ∈ UW := UW_in 904 rfl rfl
set_option maxRecDepth 100000 in
theorem uw_905 : (Jvm.Cond.instanceMethod ({ cls := "VillageCutsModel", name := "anew", desc := "()I" } : Jvm.MethodName)) ∈ UW := UW_in 905 rfl rfl
set_option maxRecDepth 100000 in
theorem uw_906 : (Jvm.Cond.selects "VillageCutsModel" ({ cls := "VillageCutsModel", name := "anew", desc := "()I" } : Jvm.MethodName) ({ cls := "VillageCutsModel", name := "anew", desc := "()I" } : Jvm.MethodName)) ∈ UW := UW_in 906 rfl rfl
set_option maxRecDepth 100000 in
theorem uw_912 : (Jvm.Cond.methodLink "VillageCutsLaw" (45 : Nat) ({ cls := "VillageCutsModel", name := "cut", desc := "(IIII)I" } : Jvm.MethodName)) ∈ UW := UW_in 912 rfl rfl
set_option maxRecDepth 100000 in
theorem uw_913 : (Jvm.Cond.instanceMethod ({ cls := "VillageCutsModel", name := "cut", desc := "(IIII)I" } : Jvm.MethodName)) ∈ UW := UW_in 913 rfl rfl
set_option maxRecDepth 100000 in
theorem uw_914 : (Jvm.Cond.selects "VillageCutsModel" ({ cls := "VillageCutsModel", name := "cut", desc := "(IIII)I" } : Jvm.MethodName) ({ cls := "VillageCutsModel", name := "cut", desc := "(IIII)I" } : Jvm.MethodName)) ∈ UW := UW_in 914 rfl rfl
set_option maxRecDepth 100000 in
theorem uw_944 : (Jvm.Cond.methodLink "VillageCutsLaw" (49 : Nat) ({ cls := "VillageCutsModel", name := "now", desc := "(I)I" } : Jvm.MethodName)) ∈ UW := UW_in 944 rfl rfl
set_option maxRecDepth 100000 in
theorem uw_945 : (Jvm.Cond.instanceMethod ({ cls := "VillageCutsModel", name := "now", desc := "(I)I" } : Jvm.MethodName)) ∈ UW := UW_in 945 rfl rfl
set_option maxRecDepth 100000 in
theorem uw_946 : (Jvm.Cond.selects "VillageCutsModel" ({ cls := "VillageCutsModel", name := "now", desc := "(I)I" } : Jvm.MethodName) ({ cls := "VillageCutsModel", name := "now", desc := "(I)I" } : Jvm.MethodName)) ∈ UW := UW_in 946 rfl rfl
set_option maxRecDepth 100000 in
theorem uw_948 : (Jvm.Cond.methodLink "VillageCutsLaw" (54 : Nat) ({ cls := "VillageCutsModel", name := "tale", desc := "(IIIII)I" } : Jvm.MethodName)) ∈ UW := UW_in 948 rfl rfl
set_option maxRecDepth 100000 in
theorem uw_949 : (Jvm.Cond.instanceMethod ({ cls := "VillageCutsModel", name := "tale", desc := "(IIIII)I" } : Jvm.MethodName)) ∈ UW := UW_in 949 rfl rfl
set_option maxRecDepth 100000 in
theorem uw_950 : (Jvm.Cond.selects "VillageCutsModel" ({ cls := "VillageCutsModel", name := "tale", desc := "(IIIII)I" } : Jvm.MethodName) ({ cls := "VillageCutsModel", name := "tale", desc := "(IIIII)I" } : Jvm.MethodName)) ∈ UW := UW_in 950 rfl rfl
set_option maxRecDepth 100000 in
theorem uw_960 : (Jvm.Cond.methodLink "VillageCutsLaw" (58 : Nat) ({ cls := "VillageCutsModel", name := "cuts", desc := "()I" } : Jvm.MethodName)) ∈ UW := UW_in 960 rfl rfl
set_option maxRecDepth 100000 in
theorem uw_961 : (Jvm.Cond.instanceMethod ({ cls := "VillageCutsModel", name := "cuts", desc := "()I" } : Jvm.MethodName)) ∈ UW := UW_in 961 rfl rfl
set_option maxRecDepth 100000 in
theorem uw_962 : (Jvm.Cond.selects "VillageCutsModel" ({ cls := "VillageCutsModel", name := "cuts", desc := "()I" } : Jvm.MethodName) ({ cls := "VillageCutsModel", name := "cuts", desc := "()I" } : Jvm.MethodName)) ∈ UW := UW_in 962 rfl rfl
set_option maxRecDepth 100000 in
theorem uw_968 : (Jvm.Cond.methodLink "VillageCutsLaw" (63 : Nat) ({ cls := "VillageCutsModel", name := "runs", desc := "()J" } : Jvm.MethodName)) ∈ UW := UW_in 968 rfl rfl
set_option maxRecDepth 100000 in
theorem uw_969 : (Jvm.Cond.instanceMethod ({ cls := "VillageCutsModel", name := "runs", desc := "()J" } : Jvm.MethodName)) ∈ UW := UW_in 969 rfl rfl
set_option maxRecDepth 100000 in
theorem uw_970 : (Jvm.Cond.selects "VillageCutsModel" ({ cls := "VillageCutsModel", name := "runs", desc := "()J" } : Jvm.MethodName) ({ cls := "VillageCutsModel", name := "runs", desc := "()J" } : Jvm.MethodName)) ∈ UW := UW_in 970 rfl rfl
set_option maxRecDepth 100000 in
theorem uw_981 : (Jvm.Cond.methodLink "VillageCutsLaw" (67 : Nat) ({ cls := "VillageCutsModel", name := "first", desc := "(I)I" } : Jvm.MethodName)) ∈ UW := UW_in 981 rfl rfl
set_option maxRecDepth 100000 in
theorem uw_982 : (Jvm.Cond.instanceMethod ({ cls := "VillageCutsModel", name := "first", desc := "(I)I" } : Jvm.MethodName)) ∈ UW := UW_in 982 rfl rfl
set_option maxRecDepth 100000 in
theorem uw_983 : (Jvm.Cond.selects "VillageCutsModel" ({ cls := "VillageCutsModel", name := "first", desc := "(I)I" } : Jvm.MethodName) ({ cls := "VillageCutsModel", name := "first", desc := "(I)I" } : Jvm.MethodName)) ∈ UW := UW_in 983 rfl rfl
set_option maxRecDepth 100000 in
theorem uw_989 : (Jvm.Cond.methodLink "VillageCutsLaw" (71 : Nat) ({ cls := "VillageCutsModel", name := "some", desc := "(I)I" } : Jvm.MethodName)) ∈ UW := UW_in 989 rfl rfl
set_option maxRecDepth 100000 in
theorem uw_990 : (Jvm.Cond.instanceMethod ({ cls := "VillageCutsModel", name := "some", desc := "(I)I" } : Jvm.MethodName)) ∈ UW := UW_in 990 rfl rfl
set_option maxRecDepth 100000 in
theorem uw_991 : (Jvm.Cond.selects "VillageCutsModel" ({ cls := "VillageCutsModel", name := "some", desc := "(I)I" } : Jvm.MethodName) ({ cls := "VillageCutsModel", name := "some", desc := "(I)I" } : Jvm.MethodName)) ∈ UW := UW_in 991 rfl rfl
set_option maxRecDepth 100000 in
theorem uw_993 : (Jvm.Cond.methodLink "VillageCutsLaw" (75 : Nat) ({ cls := "VillageCutsModel", name := "every", desc := "(I)I" } : Jvm.MethodName)) ∈ UW := UW_in 993 rfl rfl
set_option maxRecDepth 100000 in
theorem uw_994 : (Jvm.Cond.instanceMethod ({ cls := "VillageCutsModel", name := "every", desc := "(I)I" } : Jvm.MethodName)) ∈ UW := UW_in 994 rfl rfl
set_option maxRecDepth 100000 in
theorem uw_995 : (Jvm.Cond.selects "VillageCutsModel" ({ cls := "VillageCutsModel", name := "every", desc := "(I)I" } : Jvm.MethodName) ({ cls := "VillageCutsModel", name := "every", desc := "(I)I" } : Jvm.MethodName)) ∈ UW := UW_in 995 rfl rfl
set_option maxRecDepth 100000 in
theorem uw_997 : (Jvm.Cond.methodLink "VillageCutsLaw" (79 : Nat) ({ cls := "VillageCutsModel", name := "reading", desc := "(IIII)I" } : Jvm.MethodName)) ∈ UW := UW_in 997 rfl rfl
set_option maxRecDepth 100000 in
theorem uw_998 : (Jvm.Cond.instanceMethod ({ cls := "VillageCutsModel", name := "reading", desc := "(IIII)I" } : Jvm.MethodName)) ∈ UW := UW_in 998 rfl rfl
set_option maxRecDepth 100000 in
theorem uw_999 : (Jvm.Cond.selects "VillageCutsModel" ({ cls := "VillageCutsModel", name := "reading", desc := "(IIII)I" } : Jvm.MethodName) ({ cls := "VillageCutsModel", name := "reading", desc := "(IIII)I" } : Jvm.MethodName)) ∈ UW := UW_in 999 rfl rfl
set_option maxRecDepth 100000 in
theorem uw_1001 : (Jvm.Cond.methodLink "VillageCutsLaw" (83 : Nat) ({ cls := "VillageCutsModel", name := "back", desc := "(I)I" } : Jvm.MethodName)) ∈ UW := UW_in 1001 rfl rfl
set_option maxRecDepth 100000 in
theorem uw_1002 : (Jvm.Cond.instanceMethod ({ cls := "VillageCutsModel", name := "back", desc := "(I)I" } : Jvm.MethodName)) ∈ UW := UW_in 1002 rfl rfl
set_option maxRecDepth 100000 in
theorem uw_1003 : (Jvm.Cond.selects "VillageCutsModel" ({ cls := "VillageCutsModel", name := "back", desc := "(I)I" } : Jvm.MethodName) ({ cls := "VillageCutsModel", name := "back", desc := "(I)I" } : Jvm.MethodName)) ∈ UW := UW_in 1003 rfl rfl
set_option maxRecDepth 100000 in
theorem uw_1005 : (Jvm.Cond.methodLink "VillageCutsLaw" (87 : Nat) ({ cls := "VillageCutsModel", name := "kinds", desc := "(I)I" } : Jvm.MethodName)) ∈ UW := UW_in 1005 rfl rfl
set_option maxRecDepth 100000 in
theorem uw_1006 : (Jvm.Cond.instanceMethod ({ cls := "VillageCutsModel", name := "kinds", desc := "(I)I" } : Jvm.MethodName)) ∈ UW := UW_in 1006 rfl rfl
set_option maxRecDepth 100000 in
theorem uw_1007 : (Jvm.Cond.selects "VillageCutsModel" ({ cls := "VillageCutsModel", name := "kinds", desc := "(I)I" } : Jvm.MethodName) ({ cls := "VillageCutsModel", name := "kinds", desc := "(I)I" } : Jvm.MethodName)) ∈ UW := UW_in 1007 rfl rfl
set_option maxRecDepth 100000 in
theorem uw_1013 : (Jvm.Cond.methodLink "VillageCutsLaw" (92 : Nat) ({ cls := "VillageCutsModel", name := "odds", desc := "(II)J" } : Jvm.MethodName)) ∈ UW := UW_in 1013 rfl rfl
set_option maxRecDepth 100000 in
theorem uw_1014 : (Jvm.Cond.instanceMethod ({ cls := "VillageCutsModel", name := "odds", desc := "(II)J" } : Jvm.MethodName)) ∈ UW := UW_in 1014 rfl rfl
set_option maxRecDepth 100000 in
theorem uw_1015 : (Jvm.Cond.selects "VillageCutsModel" ({ cls := "VillageCutsModel", name := "odds", desc := "(II)J" } : Jvm.MethodName) ({ cls := "VillageCutsModel", name := "odds", desc := "(II)J" } : Jvm.MethodName)) ∈ UW := UW_in 1015 rfl rfl
set_option maxRecDepth 100000 in
theorem uw_1020 : (Jvm.Cond.methodLink "VillageCutsLaw" (96 : Nat) ({ cls := "VillageCutsModel", name := "sheet", desc := "(III)I" } : Jvm.MethodName)) ∈ UW := UW_in 1020 rfl rfl
set_option maxRecDepth 100000 in
theorem uw_1021 : (Jvm.Cond.instanceMethod ({ cls := "VillageCutsModel", name := "sheet", desc := "(III)I" } : Jvm.MethodName)) ∈ UW := UW_in 1021 rfl rfl
set_option maxRecDepth 100000 in
theorem uw_1022 : (Jvm.Cond.selects "VillageCutsModel" ({ cls := "VillageCutsModel", name := "sheet", desc := "(III)I" } : Jvm.MethodName) ({ cls := "VillageCutsModel", name := "sheet", desc := "(III)I" } : Jvm.MethodName)) ∈ UW := UW_in 1022 rfl rfl
set_option maxRecDepth 100000 in
theorem uw_1024 : (Jvm.Cond.methodLink "VillageCutsLaw" (100 : Nat) ({ cls := "VillageCutsModel", name := "lose", desc := "(I)I" } : Jvm.MethodName)) ∈ UW := UW_in 1024 rfl rfl
set_option maxRecDepth 100000 in
theorem uw_1025 : (Jvm.Cond.instanceMethod ({ cls := "VillageCutsModel", name := "lose", desc := "(I)I" } : Jvm.MethodName)) ∈ UW := UW_in 1025 rfl rfl
set_option maxRecDepth 100000 in
theorem uw_1026 : (Jvm.Cond.selects "VillageCutsModel" ({ cls := "VillageCutsModel", name := "lose", desc := "(I)I" } : Jvm.MethodName) ({ cls := "VillageCutsModel", name := "lose", desc := "(I)I" } : Jvm.MethodName)) ∈ UW := UW_in 1026 rfl rfl
set_option maxRecDepth 100000 in
theorem uw_1028 : (Jvm.Cond.methodLink "VillageCutsLaw" (104 : Nat) ({ cls := "VillageCutsModel", name := "put", desc := "(III)I" } : Jvm.MethodName)) ∈ UW := UW_in 1028 rfl rfl
set_option maxRecDepth 100000 in
theorem uw_1029 : (Jvm.Cond.instanceMethod ({ cls := "VillageCutsModel", name := "put", desc := "(III)I" } : Jvm.MethodName)) ∈ UW := UW_in 1029 rfl rfl
set_option maxRecDepth 100000 in
theorem uw_1030 : (Jvm.Cond.selects "VillageCutsModel" ({ cls := "VillageCutsModel", name := "put", desc := "(III)I" } : Jvm.MethodName) ({ cls := "VillageCutsModel", name := "put", desc := "(III)I" } : Jvm.MethodName)) ∈ UW := UW_in 1030 rfl rfl
set_option maxRecDepth 100000 in
theorem uw_1032 : (Jvm.Cond.methodLink "VillageCutsLaw" (109 : Nat) ({ cls := "VillageCutsModel", name := "cell", desc := "(III)J" } : Jvm.MethodName)) ∈ UW := UW_in 1032 rfl rfl
set_option maxRecDepth 100000 in
theorem uw_1033 : (Jvm.Cond.instanceMethod ({ cls := "VillageCutsModel", name := "cell", desc := "(III)J" } : Jvm.MethodName)) ∈ UW := UW_in 1033 rfl rfl
set_option maxRecDepth 100000 in
theorem uw_1034 : (Jvm.Cond.selects "VillageCutsModel" ({ cls := "VillageCutsModel", name := "cell", desc := "(III)J" } : Jvm.MethodName) ({ cls := "VillageCutsModel", name := "cell", desc := "(III)J" } : Jvm.MethodName)) ∈ UW := UW_in 1034 rfl rfl
set_option maxRecDepth 100000 in
theorem uw_1040 : (Jvm.Cond.methodLink "VillageCutsLaw" (113 : Nat) ({ cls := "VillageCutsModel", name := "copy", desc := "(IIIII)I" } : Jvm.MethodName)) ∈ UW := UW_in 1040 rfl rfl
set_option maxRecDepth 100000 in
theorem uw_1041 : (Jvm.Cond.instanceMethod ({ cls := "VillageCutsModel", name := "copy", desc := "(IIIII)I" } : Jvm.MethodName)) ∈ UW := UW_in 1041 rfl rfl
set_option maxRecDepth 100000 in
theorem uw_1042 : (Jvm.Cond.selects "VillageCutsModel" ({ cls := "VillageCutsModel", name := "copy", desc := "(IIIII)I" } : Jvm.MethodName) ({ cls := "VillageCutsModel", name := "copy", desc := "(IIIII)I" } : Jvm.MethodName)) ∈ UW := UW_in 1042 rfl rfl
set_option maxRecDepth 100000 in
theorem uw_1044 : (Jvm.Cond.methodLink "VillageCutsLaw" (117 : Nat) ({ cls := "VillageCutsModel", name := "tell", desc := "(I)I" } : Jvm.MethodName)) ∈ UW := UW_in 1044 rfl rfl
set_option maxRecDepth 100000 in
theorem uw_1045 : (Jvm.Cond.instanceMethod ({ cls := "VillageCutsModel", name := "tell", desc := "(I)I" } : Jvm.MethodName)) ∈ UW := UW_in 1045 rfl rfl
set_option maxRecDepth 100000 in
theorem uw_1046 : (Jvm.Cond.selects "VillageCutsModel" ({ cls := "VillageCutsModel", name := "tell", desc := "(I)I" } : Jvm.MethodName) ({ cls := "VillageCutsModel", name := "tell", desc := "(I)I" } : Jvm.MethodName)) ∈ UW := UW_in 1046 rfl rfl
set_option maxRecDepth 100000 in
theorem uw_1052 : (Jvm.Cond.methodLink "VillageCutsLaw" (121 : Nat) ({ cls := "VillageCutsModel", name := "ring", desc := "(I)I" } : Jvm.MethodName)) ∈ UW := UW_in 1052 rfl rfl
set_option maxRecDepth 100000 in
theorem uw_1053 : (Jvm.Cond.instanceMethod ({ cls := "VillageCutsModel", name := "ring", desc := "(I)I" } : Jvm.MethodName)) ∈ UW := UW_in 1053 rfl rfl
set_option maxRecDepth 100000 in
theorem uw_1054 : (Jvm.Cond.selects "VillageCutsModel" ({ cls := "VillageCutsModel", name := "ring", desc := "(I)I" } : Jvm.MethodName) ({ cls := "VillageCutsModel", name := "ring", desc := "(I)I" } : Jvm.MethodName)) ∈ UW := UW_in 1054 rfl rfl
set_option maxRecDepth 100000 in
theorem uw_1056 : (Jvm.Cond.methodLink "VillageCutsLaw" (125 : Nat) ({ cls := "VillageCutsModel", name := "as", desc := "(II)I" } : Jvm.MethodName)) ∈ UW := UW_in 1056 rfl rfl
set_option maxRecDepth 100000 in
theorem uw_1057 : (Jvm.Cond.instanceMethod ({ cls := "VillageCutsModel", name := "as", desc := "(II)I" } : Jvm.MethodName)) ∈ UW := UW_in 1057 rfl rfl
set_option maxRecDepth 100000 in
theorem uw_1058 : (Jvm.Cond.selects "VillageCutsModel" ({ cls := "VillageCutsModel", name := "as", desc := "(II)I" } : Jvm.MethodName) ({ cls := "VillageCutsModel", name := "as", desc := "(II)I" } : Jvm.MethodName)) ∈ UW := UW_in 1058 rfl rfl
set_option maxRecDepth 100000 in
theorem uw_1060 : (Jvm.Cond.methodLink "VillageCutsLaw" (129 : Nat) ({ cls := "VillageCutsModel", name := "trace", desc := "()I" } : Jvm.MethodName)) ∈ UW := UW_in 1060 rfl rfl
set_option maxRecDepth 100000 in
theorem uw_1061 : (Jvm.Cond.instanceMethod ({ cls := "VillageCutsModel", name := "trace", desc := "()I" } : Jvm.MethodName)) ∈ UW := UW_in 1061 rfl rfl
set_option maxRecDepth 100000 in
theorem uw_1062 : (Jvm.Cond.selects "VillageCutsModel" ({ cls := "VillageCutsModel", name := "trace", desc := "()I" } : Jvm.MethodName) ({ cls := "VillageCutsModel", name := "trace", desc := "()I" } : Jvm.MethodName)) ∈ UW := UW_in 1062 rfl rfl
set_option maxRecDepth 100000 in
theorem uw_1064 : (Jvm.Cond.methodLink "VillageCutsLaw" (133 : Nat) ({ cls := "VillageCutsModel", name := "fault", desc := "()I" } : Jvm.MethodName)) ∈ UW := UW_in 1064 rfl rfl
set_option maxRecDepth 100000 in
theorem uw_1065 : (Jvm.Cond.instanceMethod ({ cls := "VillageCutsModel", name := "fault", desc := "()I" } : Jvm.MethodName)) ∈ UW := UW_in 1065 rfl rfl
set_option maxRecDepth 100000 in
theorem uw_1066 : (Jvm.Cond.selects "VillageCutsModel" ({ cls := "VillageCutsModel", name := "fault", desc := "()I" } : Jvm.MethodName) ({ cls := "VillageCutsModel", name := "fault", desc := "()I" } : Jvm.MethodName)) ∈ UW := UW_in 1066 rfl rfl
set_option maxRecDepth 100000 in
theorem uw_1068 : (Jvm.Cond.methodLink "VillageCutsLaw" (137 : Nat) ({ cls := "VillageCutsModel", name := "many", desc := "(I)I" } : Jvm.MethodName)) ∈ UW := UW_in 1068 rfl rfl
set_option maxRecDepth 100000 in
theorem uw_1069 : (Jvm.Cond.instanceMethod ({ cls := "VillageCutsModel", name := "many", desc := "(I)I" } : Jvm.MethodName)) ∈ UW := UW_in 1069 rfl rfl
set_option maxRecDepth 100000 in
theorem uw_1070 : (Jvm.Cond.selects "VillageCutsModel" ({ cls := "VillageCutsModel", name := "many", desc := "(I)I" } : Jvm.MethodName) ({ cls := "VillageCutsModel", name := "many", desc := "(I)I" } : Jvm.MethodName)) ∈ UW := UW_in 1070 rfl rfl
def bk_L_0 (l : Launch) (g : Gm) (b L : Nat) (xs : Nat → Int32) (G : Nat → CT) : CT := (oNew 9 11 [.null, .null, .null, .null, .null, .null, .int 0, .int 0, .null, .null, .int 0] (oDup (oCallI l g d_X9_init 0 (oASt 1 (oNew 10 27 [.int 0, .int 0, .null, .null, .null, .int 0, .null, .null, .null, .null, .null, .null, .int 0, .int 0, .null, .null, .null, .null, .null, .null, .null, .null, .int 0, .null, .int 0, .null, .null] (oDup (oCallI l g d_X10_init 0 (oASt 2 (oPush (.int (0)) (oISt 3 (G 1)))))))))))
def bk_L_1 (l : Launch) (g : Gm) (b L : Nat) (xs : Nat → Int32) (G : Nat → CT) : CT := (oILd 3 (oALd 0 (oSLen b L (oPush (.int (6)) (oBin (fun x y => x - y) (oCmp (fun x y => y < x) (oPush (.int (1)) oLRet) (oALd 0 (oILd 3 (oSLd b L xs (oPush (.int (31)) (oBin (fun x y => x &&& y) (oSw [(0, (G 2)), (1, (G 3)), (2, (G 4)), (3, (G 5)), (4, (G 6)), (5, (G 7)), (6, (G 8)), (7, (G 9)), (8, (G 10)), (9, (G 11)), (10, (G 12)), (11, (G 13)), (12, (G 14)), (13, (G 15)), (14, (G 16)), (15, (G 17)), (16, (G 18)), (17, (G 19)), (18, (G 20)), (19, (G 21)), (20, (G 22)), (21, (G 23)), (22, (G 24)), (23, (G 25)), (24, (G 26)), (25, (G 27)), (26, (G 28)), (27, (G 29)), (28, (G 30))] (G 31)))))))))))))
def bk_L_2 (l : Launch) (g : Gm) (b L : Nat) (xs : Nat → Int32) (G : Nat → CT) : CT := (oALd 1 (oALd 0 (oILd 3 (oPush (.int (1)) (oBin (fun x y => x + y) (oSLd b L xs (oALd 0 (oILd 3 (oPush (.int (2)) (oBin (fun x y => x + y) (oSLd b L xs (oALd 0 (oILd 3 (oPush (.int (3)) (oBin (fun x y => x + y) (oSLd b L xs (oALd 0 (oILd 3 (oPush (.int (4)) (oBin (fun x y => x + y) (oSLd b L xs (oCallV l g [(9, d_X9_land)] 5 (oALd 2 (oALd 0 (oILd 3 (oPush (.int (1)) (oBin (fun x y => x + y) (oSLd b L xs (oALd 0 (oILd 3 (oPush (.int (2)) (oBin (fun x y => x + y) (oSLd b L xs (oALd 0 (oILd 3 (oPush (.int (3)) (oBin (fun x y => x + y) (oSLd b L xs (oALd 0 (oILd 3 (oPush (.int (4)) (oBin (fun x y => x + y) (oSLd b L xs (oCallV l g [(10, d_X10_land)] 5 (oCmp (fun x y => x = y) (G 31) (oPush (.int (0)) oLRet))))))))))))))))))))))))))))))))))))))))))))))
def bk_L_3 (l : Launch) (g : Gm) (b L : Nat) (xs : Nat → Int32) (G : Nat → CT) : CT := (oALd 1 (oALd 0 (oILd 3 (oPush (.int (1)) (oBin (fun x y => x + y) (oSLd b L xs (oALd 0 (oILd 3 (oPush (.int (2)) (oBin (fun x y => x + y) (oSLd b L xs (oCallV l g [(9, d_X9_ofVillage)] 3 (oALd 2 (oALd 0 (oILd 3 (oPush (.int (1)) (oBin (fun x y => x + y) (oSLd b L xs (oALd 0 (oILd 3 (oPush (.int (2)) (oBin (fun x y => x + y) (oSLd b L xs (oCallV l g [(10, d_X10_ofVillage)] 3 (oCmp (fun x y => x = y) (G 31) (oPush (.int (0)) oLRet))))))))))))))))))))))))))
def bk_L_4 (l : Launch) (g : Gm) (b L : Nat) (xs : Nat → Int32) (G : Nat → CT) : CT := (oALd 1 (oALd 0 (oILd 3 (oPush (.int (1)) (oBin (fun x y => x + y) (oSLd b L xs (oALd 0 (oILd 3 (oPush (.int (2)) (oBin (fun x y => x + y) (oSLd b L xs (oALd 0 (oILd 3 (oPush (.int (3)) (oBin (fun x y => x + y) (oSLd b L xs (oCallV l g [(9, d_X9_thing)] 4 (oALd 2 (oALd 0 (oILd 3 (oPush (.int (1)) (oBin (fun x y => x + y) (oSLd b L xs (oALd 0 (oILd 3 (oPush (.int (2)) (oBin (fun x y => x + y) (oSLd b L xs (oALd 0 (oILd 3 (oPush (.int (3)) (oBin (fun x y => x + y) (oSLd b L xs (oCallV l g [(10, d_X10_thing)] 4 (oCmp (fun x y => x = y) (G 31) (oPush (.int (0)) oLRet))))))))))))))))))))))))))))))))))))
def bk_L_5 (l : Launch) (g : Gm) (b L : Nat) (xs : Nat → Int32) (G : Nat → CT) : CT := (oALd 1 (oALd 0 (oILd 3 (oPush (.int (1)) (oBin (fun x y => x + y) (oSLd b L xs (oALd 0 (oILd 3 (oPush (.int (2)) (oBin (fun x y => x + y) (oSLd b L xs (oALd 0 (oILd 3 (oPush (.int (3)) (oBin (fun x y => x + y) (oSLd b L xs (oALd 0 (oILd 3 (oPush (.int (4)) (oBin (fun x y => x + y) (oSLd b L xs (oCallV l g [(9, d_X9_ahead)] 5 (oALd 2 (oALd 0 (oILd 3 (oPush (.int (1)) (oBin (fun x y => x + y) (oSLd b L xs (oALd 0 (oILd 3 (oPush (.int (2)) (oBin (fun x y => x + y) (oSLd b L xs (oALd 0 (oILd 3 (oPush (.int (3)) (oBin (fun x y => x + y) (oSLd b L xs (oALd 0 (oILd 3 (oPush (.int (4)) (oBin (fun x y => x + y) (oSLd b L xs (oCallV l g [(10, d_X10_ahead)] 5 (oCmp (fun x y => x = y) (G 31) (oPush (.int (0)) oLRet))))))))))))))))))))))))))))))))))))))))))))))
def bk_L_6 (l : Launch) (g : Gm) (b L : Nat) (xs : Nat → Int32) (G : Nat → CT) : CT := (oALd 1 (oALd 0 (oILd 3 (oPush (.int (1)) (oBin (fun x y => x + y) (oSLd b L xs (oCallV l g [(9, d_X9_happen)] 2 (oALd 2 (oALd 0 (oILd 3 (oPush (.int (1)) (oBin (fun x y => x + y) (oSLd b L xs (oCallV l g [(10, d_X10_happen)] 2 (oCmp (fun x y => x = y) (G 31) (oPush (.int (0)) oLRet))))))))))))))))
def bk_L_7 (l : Launch) (g : Gm) (b L : Nat) (xs : Nat → Int32) (G : Nat → CT) : CT := (oALd 1 (oCallV l g [(9, d_X9_anew)] 1 (oALd 2 (oCallV l g [(10, d_X10_anew)] 1 (oCmp (fun x y => x = y) (G 31) (oPush (.int (0)) oLRet))))))
def bk_L_8 (l : Launch) (g : Gm) (b L : Nat) (xs : Nat → Int32) (G : Nat → CT) : CT := (oALd 1 (oALd 0 (oILd 3 (oPush (.int (1)) (oBin (fun x y => x + y) (oSLd b L xs (oALd 0 (oILd 3 (oPush (.int (2)) (oBin (fun x y => x + y) (oSLd b L xs (oALd 0 (oILd 3 (oPush (.int (3)) (oBin (fun x y => x + y) (oSLd b L xs (oALd 0 (oILd 3 (oPush (.int (4)) (oBin (fun x y => x + y) (oSLd b L xs (oCallV l g [(9, d_X9_cut)] 5 (oALd 2 (oALd 0 (oILd 3 (oPush (.int (1)) (oBin (fun x y => x + y) (oSLd b L xs (oALd 0 (oILd 3 (oPush (.int (2)) (oBin (fun x y => x + y) (oSLd b L xs (oALd 0 (oILd 3 (oPush (.int (3)) (oBin (fun x y => x + y) (oSLd b L xs (oALd 0 (oILd 3 (oPush (.int (4)) (oBin (fun x y => x + y) (oSLd b L xs (oCallV l g [(10, d_X10_cut)] 5 (oCmp (fun x y => x = y) (G 31) (oPush (.int (0)) oLRet))))))))))))))))))))))))))))))))))))))))))))))
def bk_L_9 (l : Launch) (g : Gm) (b L : Nat) (xs : Nat → Int32) (G : Nat → CT) : CT := (oALd 1 (oALd 0 (oILd 3 (oPush (.int (1)) (oBin (fun x y => x + y) (oSLd b L xs (oCallV l g [(9, d_X9_now)] 2 (oALd 2 (oALd 0 (oILd 3 (oPush (.int (1)) (oBin (fun x y => x + y) (oSLd b L xs (oCallV l g [(10, d_X10_now)] 2 (oCmp (fun x y => x = y) (G 31) (oPush (.int (0)) oLRet))))))))))))))))
def bk_L_10 (l : Launch) (g : Gm) (b L : Nat) (xs : Nat → Int32) (G : Nat → CT) : CT := (oALd 1 (oALd 0 (oILd 3 (oPush (.int (1)) (oBin (fun x y => x + y) (oSLd b L xs (oALd 0 (oILd 3 (oPush (.int (2)) (oBin (fun x y => x + y) (oSLd b L xs (oALd 0 (oILd 3 (oPush (.int (3)) (oBin (fun x y => x + y) (oSLd b L xs (oALd 0 (oILd 3 (oPush (.int (4)) (oBin (fun x y => x + y) (oSLd b L xs (oALd 0 (oILd 3 (oPush (.int (5)) (oBin (fun x y => x + y) (oSLd b L xs (oCallV l g [(9, d_X9_tale)] 6 (oALd 2 (oALd 0 (oILd 3 (oPush (.int (1)) (oBin (fun x y => x + y) (oSLd b L xs (oALd 0 (oILd 3 (oPush (.int (2)) (oBin (fun x y => x + y) (oSLd b L xs (oALd 0 (oILd 3 (oPush (.int (3)) (oBin (fun x y => x + y) (oSLd b L xs (oALd 0 (oILd 3 (oPush (.int (4)) (oBin (fun x y => x + y) (oSLd b L xs (oALd 0 (oILd 3 (oPush (.int (5)) (oBin (fun x y => x + y) (oSLd b L xs (oCallV l g [(10, d_X10_tale)] 6 (oCmp (fun x y => x = y) (G 31) (oPush (.int (0)) oLRet))))))))))))))))))))))))))))))))))))))))))))))))))))))))
def bk_L_11 (l : Launch) (g : Gm) (b L : Nat) (xs : Nat → Int32) (G : Nat → CT) : CT := (oALd 1 (oCallV l g [(9, d_X9_cuts)] 1 (oALd 2 (oCallV l g [(10, d_X10_cuts)] 1 (oCmp (fun x y => x = y) (G 31) (oPush (.int (0)) oLRet))))))
def bk_L_12 (l : Launch) (g : Gm) (b L : Nat) (xs : Nat → Int32) (G : Nat → CT) : CT := (oALd 1 (oCallV l g [(9, d_X9_runs)] 1 (oALd 2 (oCallV l g [(10, d_X10_runs)] 1 (oLCmp (oIf (fun x => x = 0) (G 31) (oPush (.int (0)) oLRet)))))))
def bk_L_13 (l : Launch) (g : Gm) (b L : Nat) (xs : Nat → Int32) (G : Nat → CT) : CT := (oALd 1 (oALd 0 (oILd 3 (oPush (.int (1)) (oBin (fun x y => x + y) (oSLd b L xs (oCallV l g [(9, d_X9_first)] 2 (oALd 2 (oALd 0 (oILd 3 (oPush (.int (1)) (oBin (fun x y => x + y) (oSLd b L xs (oCallV l g [(10, d_X10_first)] 2 (oCmp (fun x y => x = y) (G 31) (oPush (.int (0)) oLRet))))))))))))))))
def bk_L_14 (l : Launch) (g : Gm) (b L : Nat) (xs : Nat → Int32) (G : Nat → CT) : CT := (oALd 1 (oALd 0 (oILd 3 (oPush (.int (1)) (oBin (fun x y => x + y) (oSLd b L xs (oCallV l g [(9, d_X9_some)] 2 (oALd 2 (oALd 0 (oILd 3 (oPush (.int (1)) (oBin (fun x y => x + y) (oSLd b L xs (oCallV l g [(10, d_X10_some)] 2 (oCmp (fun x y => x = y) (G 31) (oPush (.int (0)) oLRet))))))))))))))))
def bk_L_15 (l : Launch) (g : Gm) (b L : Nat) (xs : Nat → Int32) (G : Nat → CT) : CT := (oALd 1 (oALd 0 (oILd 3 (oPush (.int (1)) (oBin (fun x y => x + y) (oSLd b L xs (oCallV l g [(9, d_X9_every)] 2 (oALd 2 (oALd 0 (oILd 3 (oPush (.int (1)) (oBin (fun x y => x + y) (oSLd b L xs (oCallV l g [(10, d_X10_every)] 2 (oCmp (fun x y => x = y) (G 31) (oPush (.int (0)) oLRet))))))))))))))))
def bk_L_16 (l : Launch) (g : Gm) (b L : Nat) (xs : Nat → Int32) (G : Nat → CT) : CT := (oALd 1 (oALd 0 (oILd 3 (oPush (.int (1)) (oBin (fun x y => x + y) (oSLd b L xs (oALd 0 (oILd 3 (oPush (.int (2)) (oBin (fun x y => x + y) (oSLd b L xs (oALd 0 (oILd 3 (oPush (.int (3)) (oBin (fun x y => x + y) (oSLd b L xs (oALd 0 (oILd 3 (oPush (.int (4)) (oBin (fun x y => x + y) (oSLd b L xs (oCallV l g [(9, d_X9_reading)] 5 (oALd 2 (oALd 0 (oILd 3 (oPush (.int (1)) (oBin (fun x y => x + y) (oSLd b L xs (oALd 0 (oILd 3 (oPush (.int (2)) (oBin (fun x y => x + y) (oSLd b L xs (oALd 0 (oILd 3 (oPush (.int (3)) (oBin (fun x y => x + y) (oSLd b L xs (oALd 0 (oILd 3 (oPush (.int (4)) (oBin (fun x y => x + y) (oSLd b L xs (oCallV l g [(10, d_X10_reading)] 5 (oCmp (fun x y => x = y) (G 31) (oPush (.int (0)) oLRet))))))))))))))))))))))))))))))))))))))))))))))
def bk_L_17 (l : Launch) (g : Gm) (b L : Nat) (xs : Nat → Int32) (G : Nat → CT) : CT := (oALd 1 (oALd 0 (oILd 3 (oPush (.int (1)) (oBin (fun x y => x + y) (oSLd b L xs (oCallV l g [(9, d_X9_back)] 2 (oALd 2 (oALd 0 (oILd 3 (oPush (.int (1)) (oBin (fun x y => x + y) (oSLd b L xs (oCallV l g [(10, d_X10_back)] 2 (oCmp (fun x y => x = y) (G 31) (oPush (.int (0)) oLRet))))))))))))))))
def bk_L_18 (l : Launch) (g : Gm) (b L : Nat) (xs : Nat → Int32) (G : Nat → CT) : CT := (oALd 1 (oALd 0 (oILd 3 (oPush (.int (1)) (oBin (fun x y => x + y) (oSLd b L xs (oCallV l g [(9, d_X9_kinds)] 2 (oALd 2 (oALd 0 (oILd 3 (oPush (.int (1)) (oBin (fun x y => x + y) (oSLd b L xs (oCallV l g [(10, d_X10_kinds)] 2 (oCmp (fun x y => x = y) (G 31) (oPush (.int (0)) oLRet))))))))))))))))
def bk_L_19 (l : Launch) (g : Gm) (b L : Nat) (xs : Nat → Int32) (G : Nat → CT) : CT := (oALd 1 (oALd 0 (oILd 3 (oPush (.int (1)) (oBin (fun x y => x + y) (oSLd b L xs (oALd 0 (oILd 3 (oPush (.int (2)) (oBin (fun x y => x + y) (oSLd b L xs (oCallV l g [(9, d_X9_odds)] 3 (oALd 2 (oALd 0 (oILd 3 (oPush (.int (1)) (oBin (fun x y => x + y) (oSLd b L xs (oALd 0 (oILd 3 (oPush (.int (2)) (oBin (fun x y => x + y) (oSLd b L xs (oCallV l g [(10, d_X10_odds)] 3 (oLCmp (oIf (fun x => x = 0) (G 31) (oPush (.int (0)) oLRet)))))))))))))))))))))))))))
def bk_L_20 (l : Launch) (g : Gm) (b L : Nat) (xs : Nat → Int32) (G : Nat → CT) : CT := (oALd 1 (oALd 0 (oILd 3 (oPush (.int (1)) (oBin (fun x y => x + y) (oSLd b L xs (oALd 0 (oILd 3 (oPush (.int (2)) (oBin (fun x y => x + y) (oSLd b L xs (oALd 0 (oILd 3 (oPush (.int (3)) (oBin (fun x y => x + y) (oSLd b L xs (oCallV l g [(9, d_X9_sheet)] 4 (oALd 2 (oALd 0 (oILd 3 (oPush (.int (1)) (oBin (fun x y => x + y) (oSLd b L xs (oALd 0 (oILd 3 (oPush (.int (2)) (oBin (fun x y => x + y) (oSLd b L xs (oALd 0 (oILd 3 (oPush (.int (3)) (oBin (fun x y => x + y) (oSLd b L xs (oCallV l g [(10, d_X10_sheet)] 4 (oCmp (fun x y => x = y) (G 31) (oPush (.int (0)) oLRet))))))))))))))))))))))))))))))))))))
def bk_L_21 (l : Launch) (g : Gm) (b L : Nat) (xs : Nat → Int32) (G : Nat → CT) : CT := (oALd 1 (oALd 0 (oILd 3 (oPush (.int (1)) (oBin (fun x y => x + y) (oSLd b L xs (oCallV l g [(9, d_X9_lose)] 2 (oALd 2 (oALd 0 (oILd 3 (oPush (.int (1)) (oBin (fun x y => x + y) (oSLd b L xs (oCallV l g [(10, d_X10_lose)] 2 (oCmp (fun x y => x = y) (G 31) (oPush (.int (0)) oLRet))))))))))))))))
def bk_L_22 (l : Launch) (g : Gm) (b L : Nat) (xs : Nat → Int32) (G : Nat → CT) : CT := (oALd 1 (oALd 0 (oILd 3 (oPush (.int (1)) (oBin (fun x y => x + y) (oSLd b L xs (oALd 0 (oILd 3 (oPush (.int (2)) (oBin (fun x y => x + y) (oSLd b L xs (oALd 0 (oILd 3 (oPush (.int (3)) (oBin (fun x y => x + y) (oSLd b L xs (oCallV l g [(9, d_X9_put)] 4 (oALd 2 (oALd 0 (oILd 3 (oPush (.int (1)) (oBin (fun x y => x + y) (oSLd b L xs (oALd 0 (oILd 3 (oPush (.int (2)) (oBin (fun x y => x + y) (oSLd b L xs (oALd 0 (oILd 3 (oPush (.int (3)) (oBin (fun x y => x + y) (oSLd b L xs (oCallV l g [(10, d_X10_put)] 4 (oCmp (fun x y => x = y) (G 31) (oPush (.int (0)) oLRet))))))))))))))))))))))))))))))))))))
def bk_L_23 (l : Launch) (g : Gm) (b L : Nat) (xs : Nat → Int32) (G : Nat → CT) : CT := (oALd 1 (oALd 0 (oILd 3 (oPush (.int (1)) (oBin (fun x y => x + y) (oSLd b L xs (oALd 0 (oILd 3 (oPush (.int (2)) (oBin (fun x y => x + y) (oSLd b L xs (oALd 0 (oILd 3 (oPush (.int (3)) (oBin (fun x y => x + y) (oSLd b L xs (oCallV l g [(9, d_X9_cell)] 4 (oALd 2 (oALd 0 (oILd 3 (oPush (.int (1)) (oBin (fun x y => x + y) (oSLd b L xs (oALd 0 (oILd 3 (oPush (.int (2)) (oBin (fun x y => x + y) (oSLd b L xs (oALd 0 (oILd 3 (oPush (.int (3)) (oBin (fun x y => x + y) (oSLd b L xs (oCallV l g [(10, d_X10_cell)] 4 (oLCmp (oIf (fun x => x = 0) (G 31) (oPush (.int (0)) oLRet)))))))))))))))))))))))))))))))))))))
def bk_L_24 (l : Launch) (g : Gm) (b L : Nat) (xs : Nat → Int32) (G : Nat → CT) : CT := (oALd 1 (oALd 0 (oILd 3 (oPush (.int (1)) (oBin (fun x y => x + y) (oSLd b L xs (oALd 0 (oILd 3 (oPush (.int (2)) (oBin (fun x y => x + y) (oSLd b L xs (oALd 0 (oILd 3 (oPush (.int (3)) (oBin (fun x y => x + y) (oSLd b L xs (oALd 0 (oILd 3 (oPush (.int (4)) (oBin (fun x y => x + y) (oSLd b L xs (oALd 0 (oILd 3 (oPush (.int (5)) (oBin (fun x y => x + y) (oSLd b L xs (oCallV l g [(9, d_X9_copy)] 6 (oALd 2 (oALd 0 (oILd 3 (oPush (.int (1)) (oBin (fun x y => x + y) (oSLd b L xs (oALd 0 (oILd 3 (oPush (.int (2)) (oBin (fun x y => x + y) (oSLd b L xs (oALd 0 (oILd 3 (oPush (.int (3)) (oBin (fun x y => x + y) (oSLd b L xs (oALd 0 (oILd 3 (oPush (.int (4)) (oBin (fun x y => x + y) (oSLd b L xs (oALd 0 (oILd 3 (oPush (.int (5)) (oBin (fun x y => x + y) (oSLd b L xs (oCallV l g [(10, d_X10_copy)] 6 (oCmp (fun x y => x = y) (G 31) (oPush (.int (0)) oLRet))))))))))))))))))))))))))))))))))))))))))))))))))))))))
def bk_L_25 (l : Launch) (g : Gm) (b L : Nat) (xs : Nat → Int32) (G : Nat → CT) : CT := (oALd 1 (oALd 0 (oILd 3 (oPush (.int (1)) (oBin (fun x y => x + y) (oSLd b L xs (oCallV l g [(9, d_X9_tell)] 2 (oALd 2 (oALd 0 (oILd 3 (oPush (.int (1)) (oBin (fun x y => x + y) (oSLd b L xs (oCallV l g [(10, d_X10_tell)] 2 (oCmp (fun x y => x = y) (G 31) (oPush (.int (0)) oLRet))))))))))))))))
def bk_L_26 (l : Launch) (g : Gm) (b L : Nat) (xs : Nat → Int32) (G : Nat → CT) : CT := (oALd 1 (oALd 0 (oILd 3 (oPush (.int (1)) (oBin (fun x y => x + y) (oSLd b L xs (oCallV l g [(9, d_X9_ring)] 2 (oALd 2 (oALd 0 (oILd 3 (oPush (.int (1)) (oBin (fun x y => x + y) (oSLd b L xs (oCallV l g [(10, d_X10_ring)] 2 (oCmp (fun x y => x = y) (G 31) (oPush (.int (0)) oLRet))))))))))))))))
def bk_L_27 (l : Launch) (g : Gm) (b L : Nat) (xs : Nat → Int32) (G : Nat → CT) : CT := (oALd 1 (oALd 0 (oILd 3 (oPush (.int (1)) (oBin (fun x y => x + y) (oSLd b L xs (oALd 0 (oILd 3 (oPush (.int (2)) (oBin (fun x y => x + y) (oSLd b L xs (oCallV l g [(9, d_X9_as)] 3 (oALd 2 (oALd 0 (oILd 3 (oPush (.int (1)) (oBin (fun x y => x + y) (oSLd b L xs (oALd 0 (oILd 3 (oPush (.int (2)) (oBin (fun x y => x + y) (oSLd b L xs (oCallV l g [(10, d_X10_as)] 3 (oCmp (fun x y => x = y) (G 31) (oPush (.int (0)) oLRet))))))))))))))))))))))))))
def bk_L_28 (l : Launch) (g : Gm) (b L : Nat) (xs : Nat → Int32) (G : Nat → CT) : CT := (oALd 1 (oCallV l g [(9, d_X9_trace)] 1 (oALd 2 (oCallV l g [(10, d_X10_trace)] 1 (oCmp (fun x y => x = y) (G 31) (oPush (.int (0)) oLRet))))))
def bk_L_29 (l : Launch) (g : Gm) (b L : Nat) (xs : Nat → Int32) (G : Nat → CT) : CT := (oALd 1 (oCallV l g [(9, d_X9_fault)] 1 (oALd 2 (oCallV l g [(10, d_X10_fault)] 1 (oCmp (fun x y => x = y) (G 31) (oPush (.int (0)) oLRet))))))
def bk_L_30 (l : Launch) (g : Gm) (b L : Nat) (xs : Nat → Int32) (G : Nat → CT) : CT := (oALd 1 (oALd 0 (oILd 3 (oPush (.int (1)) (oBin (fun x y => x + y) (oSLd b L xs (oCallV l g [(9, d_X9_many)] 2 (oALd 2 (oALd 0 (oILd 3 (oPush (.int (1)) (oBin (fun x y => x + y) (oSLd b L xs (oCallV l g [(10, d_X10_many)] 2 (oCmp (fun x y => x = y) (G 31) (oPush (.int (0)) oLRet))))))))))))))))
def bk_L_31 (l : Launch) (g : Gm) (b L : Nat) (xs : Nat → Int32) (G : Nat → CT) : CT := (oInc 3 (6) (oGo (G 1)))
def bk_L (l : Launch) (g : Gm) (b L : Nat) (xs : Nat → Int32) (k : Nat) (G : Nat → CT) : CT := match k with
  | 0 => bk_L_0 l g b L xs G
  | 1 => bk_L_1 l g b L xs G
  | 2 => bk_L_2 l g b L xs G
  | 3 => bk_L_3 l g b L xs G
  | 4 => bk_L_4 l g b L xs G
  | 5 => bk_L_5 l g b L xs G
  | 6 => bk_L_6 l g b L xs G
  | 7 => bk_L_7 l g b L xs G
  | 8 => bk_L_8 l g b L xs G
  | 9 => bk_L_9 l g b L xs G
  | 10 => bk_L_10 l g b L xs G
  | 11 => bk_L_11 l g b L xs G
  | 12 => bk_L_12 l g b L xs G
  | 13 => bk_L_13 l g b L xs G
  | 14 => bk_L_14 l g b L xs G
  | 15 => bk_L_15 l g b L xs G
  | 16 => bk_L_16 l g b L xs G
  | 17 => bk_L_17 l g b L xs G
  | 18 => bk_L_18 l g b L xs G
  | 19 => bk_L_19 l g b L xs G
  | 20 => bk_L_20 l g b L xs G
  | 21 => bk_L_21 l g b L xs G
  | 22 => bk_L_22 l g b L xs G
  | 23 => bk_L_23 l g b L xs G
  | 24 => bk_L_24 l g b L xs G
  | 25 => bk_L_25 l g b L xs G
  | 26 => bk_L_26 l g b L xs G
  | 27 => bk_L_27 l g b L xs G
  | 28 => bk_L_28 l g b L xs G
  | 29 => bk_L_29 l g b L xs G
  | 30 => bk_L_30 l g b L xs G
  | 31 => bk_L_31 l g b L xs G
  | _ => fun _ _ _ _ _ => False
def pc_L (b : Nat) : Nat := match b with
  | 0 => 0
  | 1 => 18
  | 2 => 164
  | 3 => 217
  | 4 => 250
  | 5 => 293
  | 6 => 346
  | 7 => 369
  | 8 => 382
  | 9 => 435
  | 10 => 458
  | 11 => 521
  | 12 => 534
  | 13 => 548
  | 14 => 571
  | 15 => 594
  | 16 => 617
  | 17 => 670
  | 18 => 693
  | 19 => 716
  | 20 => 750
  | 21 => 793
  | 22 => 816
  | 23 => 859
  | 24 => 903
  | 25 => 966
  | 26 => 989
  | 27 => 1012
  | 28 => 1045
  | 29 => 1058
  | 30 => 1071
  | 31 => 1094
  | _ => 0
set_option maxRecDepth 100000 in
theorem sb_L_0 {p : Program} {l : Launch} {e : Env} {s : State} {m : MethodId} {below : List Frame} {meth : Method} {c : Code} {g : Gm} {b L : Nat} {xs : Nat → Int32} (X : Cx g p s m #[Value.ref b] meth c (fun q => s.heap.size ≤ q) code RL 4) (hr : meth.sig.returnType = ret) (hX : va_X b L xs s s.heap) (hbl : b < s.heap.size) : SL g p l e s m b below meth c (bk_L_0 l g b L xs (fun k => GL g p l e s m b below meth c (pc_L k))) 0 := (s_new X tyX9 tyX9_ok rfl inU_X9 uw_15 uw_16 uw_1 (dsx9) dL_law_0 (s_dup X dL_law_3 (s_callI X rfl rfl dL_law_4 uw_17 uw_18 uw_1 ci_X9_init yok_X9_init ⟨Nat.le_of_ble_eq_true rfl, Nat.le_of_ble_eq_true rfl⟩ (s_astore_n X dL_law_7 rfl (by decide) (s_new X tyX10 tyX10_ok rfl inU_X10 uw_703 uw_704 uw_7 (dsx10) dL_law_8 (s_dup X dL_law_11 (s_callI X rfl rfl dL_law_12 uw_705 uw_706 uw_7 ci_X10_init yok_X10_init ⟨Nat.le_of_ble_eq_true rfl, Nat.le_of_ble_eq_true rfl⟩ (s_astore_n X dL_law_15 rfl (by decide) (s_iconst X dL_law_16 rfl (s_istore_n X dL_law_17 rfl (by decide) Sd.rf))))))))))
set_option maxRecDepth 100000 in
theorem sb_L_1 {p : Program} {l : Launch} {e : Env} {s : State} {m : MethodId} {below : List Frame} {meth : Method} {c : Code} {g : Gm} {b L : Nat} {xs : Nat → Int32} (X : Cx g p s m #[Value.ref b] meth c (fun q => s.heap.size ≤ q) code RL 4) (hr : meth.sig.returnType = ret) (hX : va_X b L xs s s.heap) (hbl : b < s.heap.size) : SL g p l e s m b below meth c (bk_L_1 l g b L xs (fun k => GL g p l e s m b below meth c (pc_L k))) 18 := (s_iload_n X dL_law_18 rfl (s_aload_n X dL_law_19 rfl (s_slen X hX hbl dL_law_20 (s_bipush X dL_law_21 rfl (s_isub X dL_law_23 (s_icmp_gt X dL_law_24 (by decide) (s_iconst X dL_law_1100 rfl (s_lret X hr dL_law_1101)) (s_aload_n X dL_law_27 rfl (s_iload_n X dL_law_28 rfl (s_sld X hX hbl dL_law_29 (s_bipush X dL_law_30 rfl (s_iand X dL_law_32 (s_tsw X dL_law_33 (by decide) rfl ⟨⟨rfl, 131, 164, rfl, by decide, Sd.rf⟩, ⟨⟨rfl, 184, 217, rfl, by decide, Sd.rf⟩, ⟨⟨rfl, 217, 250, rfl, by decide, Sd.rf⟩, ⟨⟨rfl, 260, 293, rfl, by decide, Sd.rf⟩, ⟨⟨rfl, 313, 346, rfl, by decide, Sd.rf⟩, ⟨⟨rfl, 336, 369, rfl, by decide, Sd.rf⟩, ⟨⟨rfl, 349, 382, rfl, by decide, Sd.rf⟩, ⟨⟨rfl, 402, 435, rfl, by decide, Sd.rf⟩, ⟨⟨rfl, 425, 458, rfl, by decide, Sd.rf⟩, ⟨⟨rfl, 488, 521, rfl, by decide, Sd.rf⟩, ⟨⟨rfl, 501, 534, rfl, by decide, Sd.rf⟩, ⟨⟨rfl, 515, 548, rfl, by decide, Sd.rf⟩, ⟨⟨rfl, 538, 571, rfl, by decide, Sd.rf⟩, ⟨⟨rfl, 561, 594, rfl, by decide, Sd.rf⟩, ⟨⟨rfl, 584, 617, rfl, by decide, Sd.rf⟩, ⟨⟨rfl, 637, 670, rfl, by decide, Sd.rf⟩, ⟨⟨rfl, 660, 693, rfl, by decide, Sd.rf⟩, ⟨⟨rfl, 683, 716, rfl, by decide, Sd.rf⟩, ⟨⟨rfl, 717, 750, rfl, by decide, Sd.rf⟩, ⟨⟨rfl, 760, 793, rfl, by decide, Sd.rf⟩, ⟨⟨rfl, 783, 816, rfl, by decide, Sd.rf⟩, ⟨⟨rfl, 826, 859, rfl, by decide, Sd.rf⟩, ⟨⟨rfl, 870, 903, rfl, by decide, Sd.rf⟩, ⟨⟨rfl, 933, 966, rfl, by decide, Sd.rf⟩, ⟨⟨rfl, 956, 989, rfl, by decide, Sd.rf⟩, ⟨⟨rfl, 979, 1012, rfl, by decide, Sd.rf⟩, ⟨⟨rfl, 1012, 1045, rfl, by decide, Sd.rf⟩, ⟨⟨rfl, 1025, 1058, rfl, by decide, Sd.rf⟩, ⟨⟨rfl, 1038, 1071, rfl, by decide, Sd.rf⟩, trivial⟩⟩⟩⟩⟩⟩⟩⟩⟩⟩⟩⟩⟩⟩⟩⟩⟩⟩⟩⟩⟩⟩⟩⟩⟩⟩⟩⟩⟩ Sd.rf))))))))))))
set_option maxRecDepth 100000 in
theorem sb_L_2 {p : Program} {l : Launch} {e : Env} {s : State} {m : MethodId} {below : List Frame} {meth : Method} {c : Code} {g : Gm} {b L : Nat} {xs : Nat → Int32} (X : Cx g p s m #[Value.ref b] meth c (fun q => s.heap.size ≤ q) code RL 4) (hr : meth.sig.returnType = ret) (hX : va_X b L xs s s.heap) (hbl : b < s.heap.size) : SL g p l e s m b below meth c (bk_L_2 l g b L xs (fun k => GL g p l e s m b below meth c (pc_L k))) 164 := (s_aload_n X dL_law_164 rfl (s_aload_n X dL_law_165 rfl (s_iload_n X dL_law_166 rfl (s_iconst X dL_law_167 rfl (s_iadd X dL_law_168 (s_sld X hX hbl dL_law_169 (s_aload_n X dL_law_170 rfl (s_iload_n X dL_law_171 rfl (s_iconst X dL_law_172 rfl (s_iadd X dL_law_173 (s_sld X hX hbl dL_law_174 (s_aload_n X dL_law_175 rfl (s_iload_n X dL_law_176 rfl (s_iconst X dL_law_177 rfl (s_iadd X dL_law_178 (s_sld X hX hbl dL_law_179 (s_aload_n X dL_law_180 rfl (s_iload_n X dL_law_181 rfl (s_iconst X dL_law_182 rfl (s_iadd X dL_law_183 (s_sld X hX hbl dL_law_184 (s_callV X dL_law_185 (mv (vok_V X rfl uw_198 uw_199 uw_200 uw_1 ci_X9_land yok_X9_land ⟨Nat.le_of_ble_eq_true rfl, Nat.le_of_ble_eq_true rfl⟩) mv0) (s_aload_n X dL_law_188 rfl (s_aload_n X dL_law_189 rfl (s_iload_n X dL_law_190 rfl (s_iconst X dL_law_191 rfl (s_iadd X dL_law_192 (s_sld X hX hbl dL_law_193 (s_aload_n X dL_law_194 rfl (s_iload_n X dL_law_195 rfl (s_iconst X dL_law_196 rfl (s_iadd X dL_law_197 (s_sld X hX hbl dL_law_198 (s_aload_n X dL_law_199 rfl (s_iload_n X dL_law_200 rfl (s_iconst X dL_law_201 rfl (s_iadd X dL_law_202 (s_sld X hX hbl dL_law_203 (s_aload_n X dL_law_204 rfl (s_iload_n X dL_law_205 rfl (s_iconst X dL_law_206 rfl (s_iadd X dL_law_207 (s_sld X hX hbl dL_law_208 (s_callV X dL_law_209 (mv (vok_V X rfl uw_791 uw_792 uw_793 uw_7 ci_X10_land yok_X10_land ⟨Nat.le_of_ble_eq_true rfl, Nat.le_of_ble_eq_true rfl⟩) mv0) (s_icmp_eq X dL_law_212 (by decide) Sd.rf (s_iconst X dL_law_215 rfl (s_lret X hr dL_law_216)))))))))))))))))))))))))))))))))))))))))))))))
set_option maxRecDepth 100000 in
theorem sb_L_3 {p : Program} {l : Launch} {e : Env} {s : State} {m : MethodId} {below : List Frame} {meth : Method} {c : Code} {g : Gm} {b L : Nat} {xs : Nat → Int32} (X : Cx g p s m #[Value.ref b] meth c (fun q => s.heap.size ≤ q) code RL 4) (hr : meth.sig.returnType = ret) (hX : va_X b L xs s s.heap) (hbl : b < s.heap.size) : SL g p l e s m b below meth c (bk_L_3 l g b L xs (fun k => GL g p l e s m b below meth c (pc_L k))) 217 := (s_aload_n X dL_law_217 rfl (s_aload_n X dL_law_218 rfl (s_iload_n X dL_law_219 rfl (s_iconst X dL_law_220 rfl (s_iadd X dL_law_221 (s_sld X hX hbl dL_law_222 (s_aload_n X dL_law_223 rfl (s_iload_n X dL_law_224 rfl (s_iconst X dL_law_225 rfl (s_iadd X dL_law_226 (s_sld X hX hbl dL_law_227 (s_callV X dL_law_228 (mv (vok_V X rfl uw_378 uw_379 uw_380 uw_1 ci_X9_ofVillage yok_X9_ofVillage ⟨Nat.le_of_ble_eq_true rfl, Nat.le_of_ble_eq_true rfl⟩) mv0) (s_aload_n X dL_law_231 rfl (s_aload_n X dL_law_232 rfl (s_iload_n X dL_law_233 rfl (s_iconst X dL_law_234 rfl (s_iadd X dL_law_235 (s_sld X hX hbl dL_law_236 (s_aload_n X dL_law_237 rfl (s_iload_n X dL_law_238 rfl (s_iconst X dL_law_239 rfl (s_iadd X dL_law_240 (s_sld X hX hbl dL_law_241 (s_callV X dL_law_242 (mv (vok_V X rfl uw_860 uw_861 uw_862 uw_7 ci_X10_ofVillage yok_X10_ofVillage ⟨Nat.le_of_ble_eq_true rfl, Nat.le_of_ble_eq_true rfl⟩) mv0) (s_icmp_eq X dL_law_245 (by decide) Sd.rf (s_iconst X dL_law_248 rfl (s_lret X hr dL_law_249)))))))))))))))))))))))))))
set_option maxRecDepth 100000 in
theorem sb_L_4 {p : Program} {l : Launch} {e : Env} {s : State} {m : MethodId} {below : List Frame} {meth : Method} {c : Code} {g : Gm} {b L : Nat} {xs : Nat → Int32} (X : Cx g p s m #[Value.ref b] meth c (fun q => s.heap.size ≤ q) code RL 4) (hr : meth.sig.returnType = ret) (hX : va_X b L xs s s.heap) (hbl : b < s.heap.size) : SL g p l e s m b below meth c (bk_L_4 l g b L xs (fun k => GL g p l e s m b below meth c (pc_L k))) 250 := (s_aload_n X dL_law_250 rfl (s_aload_n X dL_law_251 rfl (s_iload_n X dL_law_252 rfl (s_iconst X dL_law_253 rfl (s_iadd X dL_law_254 (s_sld X hX hbl dL_law_255 (s_aload_n X dL_law_256 rfl (s_iload_n X dL_law_257 rfl (s_iconst X dL_law_258 rfl (s_iadd X dL_law_259 (s_sld X hX hbl dL_law_260 (s_aload_n X dL_law_261 rfl (s_iload_n X dL_law_262 rfl (s_iconst X dL_law_263 rfl (s_iadd X dL_law_264 (s_sld X hX hbl dL_law_265 (s_callV X dL_law_266 (mv (vok_V X rfl uw_409 uw_410 uw_411 uw_1 ci_X9_thing yok_X9_thing ⟨Nat.le_of_ble_eq_true rfl, Nat.le_of_ble_eq_true rfl⟩) mv0) (s_aload_n X dL_law_269 rfl (s_aload_n X dL_law_270 rfl (s_iload_n X dL_law_271 rfl (s_iconst X dL_law_272 rfl (s_iadd X dL_law_273 (s_sld X hX hbl dL_law_274 (s_aload_n X dL_law_275 rfl (s_iload_n X dL_law_276 rfl (s_iconst X dL_law_277 rfl (s_iadd X dL_law_278 (s_sld X hX hbl dL_law_279 (s_aload_n X dL_law_280 rfl (s_iload_n X dL_law_281 rfl (s_iconst X dL_law_282 rfl (s_iadd X dL_law_283 (s_sld X hX hbl dL_law_284 (s_callV X dL_law_285 (mv (vok_V X rfl uw_888 uw_889 uw_890 uw_7 ci_X10_thing yok_X10_thing ⟨Nat.le_of_ble_eq_true rfl, Nat.le_of_ble_eq_true rfl⟩) mv0) (s_icmp_eq X dL_law_288 (by decide) Sd.rf (s_iconst X dL_law_291 rfl (s_lret X hr dL_law_292)))))))))))))))))))))))))))))))))))))
set_option maxRecDepth 100000 in
theorem sb_L_5 {p : Program} {l : Launch} {e : Env} {s : State} {m : MethodId} {below : List Frame} {meth : Method} {c : Code} {g : Gm} {b L : Nat} {xs : Nat → Int32} (X : Cx g p s m #[Value.ref b] meth c (fun q => s.heap.size ≤ q) code RL 4) (hr : meth.sig.returnType = ret) (hX : va_X b L xs s s.heap) (hbl : b < s.heap.size) : SL g p l e s m b below meth c (bk_L_5 l g b L xs (fun k => GL g p l e s m b below meth c (pc_L k))) 293 := (s_aload_n X dL_law_293 rfl (s_aload_n X dL_law_294 rfl (s_iload_n X dL_law_295 rfl (s_iconst X dL_law_296 rfl (s_iadd X dL_law_297 (s_sld X hX hbl dL_law_298 (s_aload_n X dL_law_299 rfl (s_iload_n X dL_law_300 rfl (s_iconst X dL_law_301 rfl (s_iadd X dL_law_302 (s_sld X hX hbl dL_law_303 (s_aload_n X dL_law_304 rfl (s_iload_n X dL_law_305 rfl (s_iconst X dL_law_306 rfl (s_iadd X dL_law_307 (s_sld X hX hbl dL_law_308 (s_aload_n X dL_law_309 rfl (s_iload_n X dL_law_310 rfl (s_iconst X dL_law_311 rfl (s_iadd X dL_law_312 (s_sld X hX hbl dL_law_313 (s_callV X dL_law_314 (mv (vok_V X rfl uw_428 uw_429 uw_430 uw_1 ci_X9_ahead yok_X9_ahead ⟨Nat.le_of_ble_eq_true rfl, Nat.le_of_ble_eq_true rfl⟩) mv0) (s_aload_n X dL_law_317 rfl (s_aload_n X dL_law_318 rfl (s_iload_n X dL_law_319 rfl (s_iconst X dL_law_320 rfl (s_iadd X dL_law_321 (s_sld X hX hbl dL_law_322 (s_aload_n X dL_law_323 rfl (s_iload_n X dL_law_324 rfl (s_iconst X dL_law_325 rfl (s_iadd X dL_law_326 (s_sld X hX hbl dL_law_327 (s_aload_n X dL_law_328 rfl (s_iload_n X dL_law_329 rfl (s_iconst X dL_law_330 rfl (s_iadd X dL_law_331 (s_sld X hX hbl dL_law_332 (s_aload_n X dL_law_333 rfl (s_iload_n X dL_law_334 rfl (s_iconst X dL_law_335 rfl (s_iadd X dL_law_336 (s_sld X hX hbl dL_law_337 (s_callV X dL_law_338 (mv (vok_V X rfl uw_896 uw_897 uw_898 uw_7 ci_X10_ahead yok_X10_ahead ⟨Nat.le_of_ble_eq_true rfl, Nat.le_of_ble_eq_true rfl⟩) mv0) (s_icmp_eq X dL_law_341 (by decide) Sd.rf (s_iconst X dL_law_344 rfl (s_lret X hr dL_law_345)))))))))))))))))))))))))))))))))))))))))))))))
set_option maxRecDepth 100000 in
theorem sb_L_6 {p : Program} {l : Launch} {e : Env} {s : State} {m : MethodId} {below : List Frame} {meth : Method} {c : Code} {g : Gm} {b L : Nat} {xs : Nat → Int32} (X : Cx g p s m #[Value.ref b] meth c (fun q => s.heap.size ≤ q) code RL 4) (hr : meth.sig.returnType = ret) (hX : va_X b L xs s s.heap) (hbl : b < s.heap.size) : SL g p l e s m b below meth c (bk_L_6 l g b L xs (fun k => GL g p l e s m b below meth c (pc_L k))) 346 := (s_aload_n X dL_law_346 rfl (s_aload_n X dL_law_347 rfl (s_iload_n X dL_law_348 rfl (s_iconst X dL_law_349 rfl (s_iadd X dL_law_350 (s_sld X hX hbl dL_law_351 (s_callV X dL_law_352 (mv (vok_V X rfl uw_436 uw_437 uw_438 uw_1 ci_X9_happen yok_X9_happen ⟨Nat.le_of_ble_eq_true rfl, Nat.le_of_ble_eq_true rfl⟩) mv0) (s_aload_n X dL_law_355 rfl (s_aload_n X dL_law_356 rfl (s_iload_n X dL_law_357 rfl (s_iconst X dL_law_358 rfl (s_iadd X dL_law_359 (s_sld X hX hbl dL_law_360 (s_callV X dL_law_361 (mv (vok_V X rfl uw_900 uw_901 uw_902 uw_7 ci_X10_happen yok_X10_happen ⟨Nat.le_of_ble_eq_true rfl, Nat.le_of_ble_eq_true rfl⟩) mv0) (s_icmp_eq X dL_law_364 (by decide) Sd.rf (s_iconst X dL_law_367 rfl (s_lret X hr dL_law_368)))))))))))))))))
set_option maxRecDepth 100000 in
theorem sb_L_7 {p : Program} {l : Launch} {e : Env} {s : State} {m : MethodId} {below : List Frame} {meth : Method} {c : Code} {g : Gm} {b L : Nat} {xs : Nat → Int32} (X : Cx g p s m #[Value.ref b] meth c (fun q => s.heap.size ≤ q) code RL 4) (hr : meth.sig.returnType = ret) (hX : va_X b L xs s s.heap) (hbl : b < s.heap.size) : SL g p l e s m b below meth c (bk_L_7 l g b L xs (fun k => GL g p l e s m b below meth c (pc_L k))) 369 := (s_aload_n X dL_law_369 rfl (s_callV X dL_law_370 (mv (vok_V X rfl uw_440 uw_441 uw_442 uw_1 ci_X9_anew yok_X9_anew ⟨Nat.le_of_ble_eq_true rfl, Nat.le_of_ble_eq_true rfl⟩) mv0) (s_aload_n X dL_law_373 rfl (s_callV X dL_law_374 (mv (vok_V X rfl uw_904 uw_905 uw_906 uw_7 ci_X10_anew yok_X10_anew ⟨Nat.le_of_ble_eq_true rfl, Nat.le_of_ble_eq_true rfl⟩) mv0) (s_icmp_eq X dL_law_377 (by decide) Sd.rf (s_iconst X dL_law_380 rfl (s_lret X hr dL_law_381)))))))
set_option maxRecDepth 100000 in
theorem sb_L_8 {p : Program} {l : Launch} {e : Env} {s : State} {m : MethodId} {below : List Frame} {meth : Method} {c : Code} {g : Gm} {b L : Nat} {xs : Nat → Int32} (X : Cx g p s m #[Value.ref b] meth c (fun q => s.heap.size ≤ q) code RL 4) (hr : meth.sig.returnType = ret) (hX : va_X b L xs s s.heap) (hbl : b < s.heap.size) : SL g p l e s m b below meth c (bk_L_8 l g b L xs (fun k => GL g p l e s m b below meth c (pc_L k))) 382 := (s_aload_n X dL_law_382 rfl (s_aload_n X dL_law_383 rfl (s_iload_n X dL_law_384 rfl (s_iconst X dL_law_385 rfl (s_iadd X dL_law_386 (s_sld X hX hbl dL_law_387 (s_aload_n X dL_law_388 rfl (s_iload_n X dL_law_389 rfl (s_iconst X dL_law_390 rfl (s_iadd X dL_law_391 (s_sld X hX hbl dL_law_392 (s_aload_n X dL_law_393 rfl (s_iload_n X dL_law_394 rfl (s_iconst X dL_law_395 rfl (s_iadd X dL_law_396 (s_sld X hX hbl dL_law_397 (s_aload_n X dL_law_398 rfl (s_iload_n X dL_law_399 rfl (s_iconst X dL_law_400 rfl (s_iadd X dL_law_401 (s_sld X hX hbl dL_law_402 (s_callV X dL_law_403 (mv (vok_V X rfl uw_451 uw_452 uw_453 uw_1 ci_X9_cut yok_X9_cut ⟨Nat.le_of_ble_eq_true rfl, Nat.le_of_ble_eq_true rfl⟩) mv0) (s_aload_n X dL_law_406 rfl (s_aload_n X dL_law_407 rfl (s_iload_n X dL_law_408 rfl (s_iconst X dL_law_409 rfl (s_iadd X dL_law_410 (s_sld X hX hbl dL_law_411 (s_aload_n X dL_law_412 rfl (s_iload_n X dL_law_413 rfl (s_iconst X dL_law_414 rfl (s_iadd X dL_law_415 (s_sld X hX hbl dL_law_416 (s_aload_n X dL_law_417 rfl (s_iload_n X dL_law_418 rfl (s_iconst X dL_law_419 rfl (s_iadd X dL_law_420 (s_sld X hX hbl dL_law_421 (s_aload_n X dL_law_422 rfl (s_iload_n X dL_law_423 rfl (s_iconst X dL_law_424 rfl (s_iadd X dL_law_425 (s_sld X hX hbl dL_law_426 (s_callV X dL_law_427 (mv (vok_V X rfl uw_912 uw_913 uw_914 uw_7 ci_X10_cut yok_X10_cut ⟨Nat.le_of_ble_eq_true rfl, Nat.le_of_ble_eq_true rfl⟩) mv0) (s_icmp_eq X dL_law_430 (by decide) Sd.rf (s_iconst X dL_law_433 rfl (s_lret X hr dL_law_434)))))))))))))))))))))))))))))))))))))))))))))))
set_option maxRecDepth 100000 in
theorem sb_L_9 {p : Program} {l : Launch} {e : Env} {s : State} {m : MethodId} {below : List Frame} {meth : Method} {c : Code} {g : Gm} {b L : Nat} {xs : Nat → Int32} (X : Cx g p s m #[Value.ref b] meth c (fun q => s.heap.size ≤ q) code RL 4) (hr : meth.sig.returnType = ret) (hX : va_X b L xs s s.heap) (hbl : b < s.heap.size) : SL g p l e s m b below meth c (bk_L_9 l g b L xs (fun k => GL g p l e s m b below meth c (pc_L k))) 435 := (s_aload_n X dL_law_435 rfl (s_aload_n X dL_law_436 rfl (s_iload_n X dL_law_437 rfl (s_iconst X dL_law_438 rfl (s_iadd X dL_law_439 (s_sld X hX hbl dL_law_440 (s_callV X dL_law_441 (mv (vok_V X rfl uw_487 uw_488 uw_489 uw_1 ci_X9_now yok_X9_now ⟨Nat.le_of_ble_eq_true rfl, Nat.le_of_ble_eq_true rfl⟩) mv0) (s_aload_n X dL_law_444 rfl (s_aload_n X dL_law_445 rfl (s_iload_n X dL_law_446 rfl (s_iconst X dL_law_447 rfl (s_iadd X dL_law_448 (s_sld X hX hbl dL_law_449 (s_callV X dL_law_450 (mv (vok_V X rfl uw_944 uw_945 uw_946 uw_7 ci_X10_now yok_X10_now ⟨Nat.le_of_ble_eq_true rfl, Nat.le_of_ble_eq_true rfl⟩) mv0) (s_icmp_eq X dL_law_453 (by decide) Sd.rf (s_iconst X dL_law_456 rfl (s_lret X hr dL_law_457)))))))))))))))))
set_option maxRecDepth 100000 in
theorem sb_L_10 {p : Program} {l : Launch} {e : Env} {s : State} {m : MethodId} {below : List Frame} {meth : Method} {c : Code} {g : Gm} {b L : Nat} {xs : Nat → Int32} (X : Cx g p s m #[Value.ref b] meth c (fun q => s.heap.size ≤ q) code RL 4) (hr : meth.sig.returnType = ret) (hX : va_X b L xs s s.heap) (hbl : b < s.heap.size) : SL g p l e s m b below meth c (bk_L_10 l g b L xs (fun k => GL g p l e s m b below meth c (pc_L k))) 458 := (s_aload_n X dL_law_458 rfl (s_aload_n X dL_law_459 rfl (s_iload_n X dL_law_460 rfl (s_iconst X dL_law_461 rfl (s_iadd X dL_law_462 (s_sld X hX hbl dL_law_463 (s_aload_n X dL_law_464 rfl (s_iload_n X dL_law_465 rfl (s_iconst X dL_law_466 rfl (s_iadd X dL_law_467 (s_sld X hX hbl dL_law_468 (s_aload_n X dL_law_469 rfl (s_iload_n X dL_law_470 rfl (s_iconst X dL_law_471 rfl (s_iadd X dL_law_472 (s_sld X hX hbl dL_law_473 (s_aload_n X dL_law_474 rfl (s_iload_n X dL_law_475 rfl (s_iconst X dL_law_476 rfl (s_iadd X dL_law_477 (s_sld X hX hbl dL_law_478 (s_aload_n X dL_law_479 rfl (s_iload_n X dL_law_480 rfl (s_iconst X dL_law_481 rfl (s_iadd X dL_law_482 (s_sld X hX hbl dL_law_483 (s_callV X dL_law_484 (mv (vok_V X rfl uw_495 uw_496 uw_497 uw_1 ci_X9_tale yok_X9_tale ⟨Nat.le_of_ble_eq_true rfl, Nat.le_of_ble_eq_true rfl⟩) mv0) (s_aload_n X dL_law_487 rfl (s_aload_n X dL_law_488 rfl (s_iload_n X dL_law_489 rfl (s_iconst X dL_law_490 rfl (s_iadd X dL_law_491 (s_sld X hX hbl dL_law_492 (s_aload_n X dL_law_493 rfl (s_iload_n X dL_law_494 rfl (s_iconst X dL_law_495 rfl (s_iadd X dL_law_496 (s_sld X hX hbl dL_law_497 (s_aload_n X dL_law_498 rfl (s_iload_n X dL_law_499 rfl (s_iconst X dL_law_500 rfl (s_iadd X dL_law_501 (s_sld X hX hbl dL_law_502 (s_aload_n X dL_law_503 rfl (s_iload_n X dL_law_504 rfl (s_iconst X dL_law_505 rfl (s_iadd X dL_law_506 (s_sld X hX hbl dL_law_507 (s_aload_n X dL_law_508 rfl (s_iload_n X dL_law_509 rfl (s_iconst X dL_law_510 rfl (s_iadd X dL_law_511 (s_sld X hX hbl dL_law_512 (s_callV X dL_law_513 (mv (vok_V X rfl uw_948 uw_949 uw_950 uw_7 ci_X10_tale yok_X10_tale ⟨Nat.le_of_ble_eq_true rfl, Nat.le_of_ble_eq_true rfl⟩) mv0) (s_icmp_eq X dL_law_516 (by decide) Sd.rf (s_iconst X dL_law_519 rfl (s_lret X hr dL_law_520)))))))))))))))))))))))))))))))))))))))))))))))))))))))))
set_option maxRecDepth 100000 in
theorem sb_L_11 {p : Program} {l : Launch} {e : Env} {s : State} {m : MethodId} {below : List Frame} {meth : Method} {c : Code} {g : Gm} {b L : Nat} {xs : Nat → Int32} (X : Cx g p s m #[Value.ref b] meth c (fun q => s.heap.size ≤ q) code RL 4) (hr : meth.sig.returnType = ret) (hX : va_X b L xs s s.heap) (hbl : b < s.heap.size) : SL g p l e s m b below meth c (bk_L_11 l g b L xs (fun k => GL g p l e s m b below meth c (pc_L k))) 521 := (s_aload_n X dL_law_521 rfl (s_callV X dL_law_522 (mv (vok_V X rfl uw_505 uw_506 uw_507 uw_1 ci_X9_cuts yok_X9_cuts ⟨Nat.le_of_ble_eq_true rfl, Nat.le_of_ble_eq_true rfl⟩) mv0) (s_aload_n X dL_law_525 rfl (s_callV X dL_law_526 (mv (vok_V X rfl uw_960 uw_961 uw_962 uw_7 ci_X10_cuts yok_X10_cuts ⟨Nat.le_of_ble_eq_true rfl, Nat.le_of_ble_eq_true rfl⟩) mv0) (s_icmp_eq X dL_law_529 (by decide) Sd.rf (s_iconst X dL_law_532 rfl (s_lret X hr dL_law_533)))))))
set_option maxRecDepth 100000 in
theorem sb_L_12 {p : Program} {l : Launch} {e : Env} {s : State} {m : MethodId} {below : List Frame} {meth : Method} {c : Code} {g : Gm} {b L : Nat} {xs : Nat → Int32} (X : Cx g p s m #[Value.ref b] meth c (fun q => s.heap.size ≤ q) code RL 4) (hr : meth.sig.returnType = ret) (hX : va_X b L xs s s.heap) (hbl : b < s.heap.size) : SL g p l e s m b below meth c (bk_L_12 l g b L xs (fun k => GL g p l e s m b below meth c (pc_L k))) 534 := (s_aload_n X dL_law_534 rfl (s_callV X dL_law_535 (mv (vok_V X rfl uw_545 uw_546 uw_547 uw_1 ci_X9_runs yok_X9_runs ⟨Nat.le_of_ble_eq_true rfl, Nat.le_of_ble_eq_true rfl⟩) mv0) (s_aload_n X dL_law_538 rfl (s_callV X dL_law_539 (mv (vok_V X rfl uw_968 uw_969 uw_970 uw_7 ci_X10_runs yok_X10_runs ⟨Nat.le_of_ble_eq_true rfl, Nat.le_of_ble_eq_true rfl⟩) mv0) (s_lcmp X dL_law_542 (s_if_eq X dL_law_543 (by decide) Sd.rf (s_iconst X dL_law_546 rfl (s_lret X hr dL_law_547))))))))
set_option maxRecDepth 100000 in
theorem sb_L_13 {p : Program} {l : Launch} {e : Env} {s : State} {m : MethodId} {below : List Frame} {meth : Method} {c : Code} {g : Gm} {b L : Nat} {xs : Nat → Int32} (X : Cx g p s m #[Value.ref b] meth c (fun q => s.heap.size ≤ q) code RL 4) (hr : meth.sig.returnType = ret) (hX : va_X b L xs s s.heap) (hbl : b < s.heap.size) : SL g p l e s m b below meth c (bk_L_13 l g b L xs (fun k => GL g p l e s m b below meth c (pc_L k))) 548 := (s_aload_n X dL_law_548 rfl (s_aload_n X dL_law_549 rfl (s_iload_n X dL_law_550 rfl (s_iconst X dL_law_551 rfl (s_iadd X dL_law_552 (s_sld X hX hbl dL_law_553 (s_callV X dL_law_554 (mv (vok_V X rfl uw_554 uw_555 uw_556 uw_1 ci_X9_first yok_X9_first ⟨Nat.le_of_ble_eq_true rfl, Nat.le_of_ble_eq_true rfl⟩) mv0) (s_aload_n X dL_law_557 rfl (s_aload_n X dL_law_558 rfl (s_iload_n X dL_law_559 rfl (s_iconst X dL_law_560 rfl (s_iadd X dL_law_561 (s_sld X hX hbl dL_law_562 (s_callV X dL_law_563 (mv (vok_V X rfl uw_981 uw_982 uw_983 uw_7 ci_X10_first yok_X10_first ⟨Nat.le_of_ble_eq_true rfl, Nat.le_of_ble_eq_true rfl⟩) mv0) (s_icmp_eq X dL_law_566 (by decide) Sd.rf (s_iconst X dL_law_569 rfl (s_lret X hr dL_law_570)))))))))))))))))
set_option maxRecDepth 100000 in
theorem sb_L_14 {p : Program} {l : Launch} {e : Env} {s : State} {m : MethodId} {below : List Frame} {meth : Method} {c : Code} {g : Gm} {b L : Nat} {xs : Nat → Int32} (X : Cx g p s m #[Value.ref b] meth c (fun q => s.heap.size ≤ q) code RL 4) (hr : meth.sig.returnType = ret) (hX : va_X b L xs s s.heap) (hbl : b < s.heap.size) : SL g p l e s m b below meth c (bk_L_14 l g b L xs (fun k => GL g p l e s m b below meth c (pc_L k))) 571 := (s_aload_n X dL_law_571 rfl (s_aload_n X dL_law_572 rfl (s_iload_n X dL_law_573 rfl (s_iconst X dL_law_574 rfl (s_iadd X dL_law_575 (s_sld X hX hbl dL_law_576 (s_callV X dL_law_577 (mv (vok_V X rfl uw_558 uw_559 uw_560 uw_1 ci_X9_some yok_X9_some ⟨Nat.le_of_ble_eq_true rfl, Nat.le_of_ble_eq_true rfl⟩) mv0) (s_aload_n X dL_law_580 rfl (s_aload_n X dL_law_581 rfl (s_iload_n X dL_law_582 rfl (s_iconst X dL_law_583 rfl (s_iadd X dL_law_584 (s_sld X hX hbl dL_law_585 (s_callV X dL_law_586 (mv (vok_V X rfl uw_989 uw_990 uw_991 uw_7 ci_X10_some yok_X10_some ⟨Nat.le_of_ble_eq_true rfl, Nat.le_of_ble_eq_true rfl⟩) mv0) (s_icmp_eq X dL_law_589 (by decide) Sd.rf (s_iconst X dL_law_592 rfl (s_lret X hr dL_law_593)))))))))))))))))
set_option maxRecDepth 100000 in
theorem sb_L_15 {p : Program} {l : Launch} {e : Env} {s : State} {m : MethodId} {below : List Frame} {meth : Method} {c : Code} {g : Gm} {b L : Nat} {xs : Nat → Int32} (X : Cx g p s m #[Value.ref b] meth c (fun q => s.heap.size ≤ q) code RL 4) (hr : meth.sig.returnType = ret) (hX : va_X b L xs s s.heap) (hbl : b < s.heap.size) : SL g p l e s m b below meth c (bk_L_15 l g b L xs (fun k => GL g p l e s m b below meth c (pc_L k))) 594 := (s_aload_n X dL_law_594 rfl (s_aload_n X dL_law_595 rfl (s_iload_n X dL_law_596 rfl (s_iconst X dL_law_597 rfl (s_iadd X dL_law_598 (s_sld X hX hbl dL_law_599 (s_callV X dL_law_600 (mv (vok_V X rfl uw_569 uw_570 uw_571 uw_1 ci_X9_every yok_X9_every ⟨Nat.le_of_ble_eq_true rfl, Nat.le_of_ble_eq_true rfl⟩) mv0) (s_aload_n X dL_law_603 rfl (s_aload_n X dL_law_604 rfl (s_iload_n X dL_law_605 rfl (s_iconst X dL_law_606 rfl (s_iadd X dL_law_607 (s_sld X hX hbl dL_law_608 (s_callV X dL_law_609 (mv (vok_V X rfl uw_993 uw_994 uw_995 uw_7 ci_X10_every yok_X10_every ⟨Nat.le_of_ble_eq_true rfl, Nat.le_of_ble_eq_true rfl⟩) mv0) (s_icmp_eq X dL_law_612 (by decide) Sd.rf (s_iconst X dL_law_615 rfl (s_lret X hr dL_law_616)))))))))))))))))
set_option maxRecDepth 100000 in
theorem sb_L_16 {p : Program} {l : Launch} {e : Env} {s : State} {m : MethodId} {below : List Frame} {meth : Method} {c : Code} {g : Gm} {b L : Nat} {xs : Nat → Int32} (X : Cx g p s m #[Value.ref b] meth c (fun q => s.heap.size ≤ q) code RL 4) (hr : meth.sig.returnType = ret) (hX : va_X b L xs s s.heap) (hbl : b < s.heap.size) : SL g p l e s m b below meth c (bk_L_16 l g b L xs (fun k => GL g p l e s m b below meth c (pc_L k))) 617 := (s_aload_n X dL_law_617 rfl (s_aload_n X dL_law_618 rfl (s_iload_n X dL_law_619 rfl (s_iconst X dL_law_620 rfl (s_iadd X dL_law_621 (s_sld X hX hbl dL_law_622 (s_aload_n X dL_law_623 rfl (s_iload_n X dL_law_624 rfl (s_iconst X dL_law_625 rfl (s_iadd X dL_law_626 (s_sld X hX hbl dL_law_627 (s_aload_n X dL_law_628 rfl (s_iload_n X dL_law_629 rfl (s_iconst X dL_law_630 rfl (s_iadd X dL_law_631 (s_sld X hX hbl dL_law_632 (s_aload_n X dL_law_633 rfl (s_iload_n X dL_law_634 rfl (s_iconst X dL_law_635 rfl (s_iadd X dL_law_636 (s_sld X hX hbl dL_law_637 (s_callV X dL_law_638 (mv (vok_V X rfl uw_581 uw_582 uw_583 uw_1 ci_X9_reading yok_X9_reading ⟨Nat.le_of_ble_eq_true rfl, Nat.le_of_ble_eq_true rfl⟩) mv0) (s_aload_n X dL_law_641 rfl (s_aload_n X dL_law_642 rfl (s_iload_n X dL_law_643 rfl (s_iconst X dL_law_644 rfl (s_iadd X dL_law_645 (s_sld X hX hbl dL_law_646 (s_aload_n X dL_law_647 rfl (s_iload_n X dL_law_648 rfl (s_iconst X dL_law_649 rfl (s_iadd X dL_law_650 (s_sld X hX hbl dL_law_651 (s_aload_n X dL_law_652 rfl (s_iload_n X dL_law_653 rfl (s_iconst X dL_law_654 rfl (s_iadd X dL_law_655 (s_sld X hX hbl dL_law_656 (s_aload_n X dL_law_657 rfl (s_iload_n X dL_law_658 rfl (s_iconst X dL_law_659 rfl (s_iadd X dL_law_660 (s_sld X hX hbl dL_law_661 (s_callV X dL_law_662 (mv (vok_V X rfl uw_997 uw_998 uw_999 uw_7 ci_X10_reading yok_X10_reading ⟨Nat.le_of_ble_eq_true rfl, Nat.le_of_ble_eq_true rfl⟩) mv0) (s_icmp_eq X dL_law_665 (by decide) Sd.rf (s_iconst X dL_law_668 rfl (s_lret X hr dL_law_669)))))))))))))))))))))))))))))))))))))))))))))))
set_option maxRecDepth 100000 in
theorem sb_L_17 {p : Program} {l : Launch} {e : Env} {s : State} {m : MethodId} {below : List Frame} {meth : Method} {c : Code} {g : Gm} {b L : Nat} {xs : Nat → Int32} (X : Cx g p s m #[Value.ref b] meth c (fun q => s.heap.size ≤ q) code RL 4) (hr : meth.sig.returnType = ret) (hX : va_X b L xs s s.heap) (hbl : b < s.heap.size) : SL g p l e s m b below meth c (bk_L_17 l g b L xs (fun k => GL g p l e s m b below meth c (pc_L k))) 670 := (s_aload_n X dL_law_670 rfl (s_aload_n X dL_law_671 rfl (s_iload_n X dL_law_672 rfl (s_iconst X dL_law_673 rfl (s_iadd X dL_law_674 (s_sld X hX hbl dL_law_675 (s_callV X dL_law_676 (mv (vok_V X rfl uw_585 uw_586 uw_587 uw_1 ci_X9_back yok_X9_back ⟨Nat.le_of_ble_eq_true rfl, Nat.le_of_ble_eq_true rfl⟩) mv0) (s_aload_n X dL_law_679 rfl (s_aload_n X dL_law_680 rfl (s_iload_n X dL_law_681 rfl (s_iconst X dL_law_682 rfl (s_iadd X dL_law_683 (s_sld X hX hbl dL_law_684 (s_callV X dL_law_685 (mv (vok_V X rfl uw_1001 uw_1002 uw_1003 uw_7 ci_X10_back yok_X10_back ⟨Nat.le_of_ble_eq_true rfl, Nat.le_of_ble_eq_true rfl⟩) mv0) (s_icmp_eq X dL_law_688 (by decide) Sd.rf (s_iconst X dL_law_691 rfl (s_lret X hr dL_law_692)))))))))))))))))
set_option maxRecDepth 100000 in
theorem sb_L_18 {p : Program} {l : Launch} {e : Env} {s : State} {m : MethodId} {below : List Frame} {meth : Method} {c : Code} {g : Gm} {b L : Nat} {xs : Nat → Int32} (X : Cx g p s m #[Value.ref b] meth c (fun q => s.heap.size ≤ q) code RL 4) (hr : meth.sig.returnType = ret) (hX : va_X b L xs s s.heap) (hbl : b < s.heap.size) : SL g p l e s m b below meth c (bk_L_18 l g b L xs (fun k => GL g p l e s m b below meth c (pc_L k))) 693 := (s_aload_n X dL_law_693 rfl (s_aload_n X dL_law_694 rfl (s_iload_n X dL_law_695 rfl (s_iconst X dL_law_696 rfl (s_iadd X dL_law_697 (s_sld X hX hbl dL_law_698 (s_callV X dL_law_699 (mv (vok_V X rfl uw_589 uw_590 uw_591 uw_1 ci_X9_kinds yok_X9_kinds ⟨Nat.le_of_ble_eq_true rfl, Nat.le_of_ble_eq_true rfl⟩) mv0) (s_aload_n X dL_law_702 rfl (s_aload_n X dL_law_703 rfl (s_iload_n X dL_law_704 rfl (s_iconst X dL_law_705 rfl (s_iadd X dL_law_706 (s_sld X hX hbl dL_law_707 (s_callV X dL_law_708 (mv (vok_V X rfl uw_1005 uw_1006 uw_1007 uw_7 ci_X10_kinds yok_X10_kinds ⟨Nat.le_of_ble_eq_true rfl, Nat.le_of_ble_eq_true rfl⟩) mv0) (s_icmp_eq X dL_law_711 (by decide) Sd.rf (s_iconst X dL_law_714 rfl (s_lret X hr dL_law_715)))))))))))))))))
set_option maxRecDepth 100000 in
theorem sb_L_19 {p : Program} {l : Launch} {e : Env} {s : State} {m : MethodId} {below : List Frame} {meth : Method} {c : Code} {g : Gm} {b L : Nat} {xs : Nat → Int32} (X : Cx g p s m #[Value.ref b] meth c (fun q => s.heap.size ≤ q) code RL 4) (hr : meth.sig.returnType = ret) (hX : va_X b L xs s s.heap) (hbl : b < s.heap.size) : SL g p l e s m b below meth c (bk_L_19 l g b L xs (fun k => GL g p l e s m b below meth c (pc_L k))) 716 := (s_aload_n X dL_law_716 rfl (s_aload_n X dL_law_717 rfl (s_iload_n X dL_law_718 rfl (s_iconst X dL_law_719 rfl (s_iadd X dL_law_720 (s_sld X hX hbl dL_law_721 (s_aload_n X dL_law_722 rfl (s_iload_n X dL_law_723 rfl (s_iconst X dL_law_724 rfl (s_iadd X dL_law_725 (s_sld X hX hbl dL_law_726 (s_callV X dL_law_727 (mv (vok_V X rfl uw_598 uw_599 uw_600 uw_1 ci_X9_odds yok_X9_odds ⟨Nat.le_of_ble_eq_true rfl, Nat.le_of_ble_eq_true rfl⟩) mv0) (s_aload_n X dL_law_730 rfl (s_aload_n X dL_law_731 rfl (s_iload_n X dL_law_732 rfl (s_iconst X dL_law_733 rfl (s_iadd X dL_law_734 (s_sld X hX hbl dL_law_735 (s_aload_n X dL_law_736 rfl (s_iload_n X dL_law_737 rfl (s_iconst X dL_law_738 rfl (s_iadd X dL_law_739 (s_sld X hX hbl dL_law_740 (s_callV X dL_law_741 (mv (vok_V X rfl uw_1013 uw_1014 uw_1015 uw_7 ci_X10_odds yok_X10_odds ⟨Nat.le_of_ble_eq_true rfl, Nat.le_of_ble_eq_true rfl⟩) mv0) (s_lcmp X dL_law_744 (s_if_eq X dL_law_745 (by decide) Sd.rf (s_iconst X dL_law_748 rfl (s_lret X hr dL_law_749))))))))))))))))))))))))))))
set_option maxRecDepth 100000 in
theorem sb_L_20 {p : Program} {l : Launch} {e : Env} {s : State} {m : MethodId} {below : List Frame} {meth : Method} {c : Code} {g : Gm} {b L : Nat} {xs : Nat → Int32} (X : Cx g p s m #[Value.ref b] meth c (fun q => s.heap.size ≤ q) code RL 4) (hr : meth.sig.returnType = ret) (hX : va_X b L xs s s.heap) (hbl : b < s.heap.size) : SL g p l e s m b below meth c (bk_L_20 l g b L xs (fun k => GL g p l e s m b below meth c (pc_L k))) 750 := (s_aload_n X dL_law_750 rfl (s_aload_n X dL_law_751 rfl (s_iload_n X dL_law_752 rfl (s_iconst X dL_law_753 rfl (s_iadd X dL_law_754 (s_sld X hX hbl dL_law_755 (s_aload_n X dL_law_756 rfl (s_iload_n X dL_law_757 rfl (s_iconst X dL_law_758 rfl (s_iadd X dL_law_759 (s_sld X hX hbl dL_law_760 (s_aload_n X dL_law_761 rfl (s_iload_n X dL_law_762 rfl (s_iconst X dL_law_763 rfl (s_iadd X dL_law_764 (s_sld X hX hbl dL_law_765 (s_callV X dL_law_766 (mv (vok_V X rfl uw_605 uw_606 uw_607 uw_1 ci_X9_sheet yok_X9_sheet ⟨Nat.le_of_ble_eq_true rfl, Nat.le_of_ble_eq_true rfl⟩) mv0) (s_aload_n X dL_law_769 rfl (s_aload_n X dL_law_770 rfl (s_iload_n X dL_law_771 rfl (s_iconst X dL_law_772 rfl (s_iadd X dL_law_773 (s_sld X hX hbl dL_law_774 (s_aload_n X dL_law_775 rfl (s_iload_n X dL_law_776 rfl (s_iconst X dL_law_777 rfl (s_iadd X dL_law_778 (s_sld X hX hbl dL_law_779 (s_aload_n X dL_law_780 rfl (s_iload_n X dL_law_781 rfl (s_iconst X dL_law_782 rfl (s_iadd X dL_law_783 (s_sld X hX hbl dL_law_784 (s_callV X dL_law_785 (mv (vok_V X rfl uw_1020 uw_1021 uw_1022 uw_7 ci_X10_sheet yok_X10_sheet ⟨Nat.le_of_ble_eq_true rfl, Nat.le_of_ble_eq_true rfl⟩) mv0) (s_icmp_eq X dL_law_788 (by decide) Sd.rf (s_iconst X dL_law_791 rfl (s_lret X hr dL_law_792)))))))))))))))))))))))))))))))))))))
set_option maxRecDepth 100000 in
theorem sb_L_21 {p : Program} {l : Launch} {e : Env} {s : State} {m : MethodId} {below : List Frame} {meth : Method} {c : Code} {g : Gm} {b L : Nat} {xs : Nat → Int32} (X : Cx g p s m #[Value.ref b] meth c (fun q => s.heap.size ≤ q) code RL 4) (hr : meth.sig.returnType = ret) (hX : va_X b L xs s s.heap) (hbl : b < s.heap.size) : SL g p l e s m b below meth c (bk_L_21 l g b L xs (fun k => GL g p l e s m b below meth c (pc_L k))) 793 := (s_aload_n X dL_law_793 rfl (s_aload_n X dL_law_794 rfl (s_iload_n X dL_law_795 rfl (s_iconst X dL_law_796 rfl (s_iadd X dL_law_797 (s_sld X hX hbl dL_law_798 (s_callV X dL_law_799 (mv (vok_V X rfl uw_614 uw_615 uw_616 uw_1 ci_X9_lose yok_X9_lose ⟨Nat.le_of_ble_eq_true rfl, Nat.le_of_ble_eq_true rfl⟩) mv0) (s_aload_n X dL_law_802 rfl (s_aload_n X dL_law_803 rfl (s_iload_n X dL_law_804 rfl (s_iconst X dL_law_805 rfl (s_iadd X dL_law_806 (s_sld X hX hbl dL_law_807 (s_callV X dL_law_808 (mv (vok_V X rfl uw_1024 uw_1025 uw_1026 uw_7 ci_X10_lose yok_X10_lose ⟨Nat.le_of_ble_eq_true rfl, Nat.le_of_ble_eq_true rfl⟩) mv0) (s_icmp_eq X dL_law_811 (by decide) Sd.rf (s_iconst X dL_law_814 rfl (s_lret X hr dL_law_815)))))))))))))))))
set_option maxRecDepth 100000 in
theorem sb_L_22 {p : Program} {l : Launch} {e : Env} {s : State} {m : MethodId} {below : List Frame} {meth : Method} {c : Code} {g : Gm} {b L : Nat} {xs : Nat → Int32} (X : Cx g p s m #[Value.ref b] meth c (fun q => s.heap.size ≤ q) code RL 4) (hr : meth.sig.returnType = ret) (hX : va_X b L xs s s.heap) (hbl : b < s.heap.size) : SL g p l e s m b below meth c (bk_L_22 l g b L xs (fun k => GL g p l e s m b below meth c (pc_L k))) 816 := (s_aload_n X dL_law_816 rfl (s_aload_n X dL_law_817 rfl (s_iload_n X dL_law_818 rfl (s_iconst X dL_law_819 rfl (s_iadd X dL_law_820 (s_sld X hX hbl dL_law_821 (s_aload_n X dL_law_822 rfl (s_iload_n X dL_law_823 rfl (s_iconst X dL_law_824 rfl (s_iadd X dL_law_825 (s_sld X hX hbl dL_law_826 (s_aload_n X dL_law_827 rfl (s_iload_n X dL_law_828 rfl (s_iconst X dL_law_829 rfl (s_iadd X dL_law_830 (s_sld X hX hbl dL_law_831 (s_callV X dL_law_832 (mv (vok_V X rfl uw_618 uw_619 uw_620 uw_1 ci_X9_put yok_X9_put ⟨Nat.le_of_ble_eq_true rfl, Nat.le_of_ble_eq_true rfl⟩) mv0) (s_aload_n X dL_law_835 rfl (s_aload_n X dL_law_836 rfl (s_iload_n X dL_law_837 rfl (s_iconst X dL_law_838 rfl (s_iadd X dL_law_839 (s_sld X hX hbl dL_law_840 (s_aload_n X dL_law_841 rfl (s_iload_n X dL_law_842 rfl (s_iconst X dL_law_843 rfl (s_iadd X dL_law_844 (s_sld X hX hbl dL_law_845 (s_aload_n X dL_law_846 rfl (s_iload_n X dL_law_847 rfl (s_iconst X dL_law_848 rfl (s_iadd X dL_law_849 (s_sld X hX hbl dL_law_850 (s_callV X dL_law_851 (mv (vok_V X rfl uw_1028 uw_1029 uw_1030 uw_7 ci_X10_put yok_X10_put ⟨Nat.le_of_ble_eq_true rfl, Nat.le_of_ble_eq_true rfl⟩) mv0) (s_icmp_eq X dL_law_854 (by decide) Sd.rf (s_iconst X dL_law_857 rfl (s_lret X hr dL_law_858)))))))))))))))))))))))))))))))))))))
set_option maxRecDepth 100000 in
theorem sb_L_23 {p : Program} {l : Launch} {e : Env} {s : State} {m : MethodId} {below : List Frame} {meth : Method} {c : Code} {g : Gm} {b L : Nat} {xs : Nat → Int32} (X : Cx g p s m #[Value.ref b] meth c (fun q => s.heap.size ≤ q) code RL 4) (hr : meth.sig.returnType = ret) (hX : va_X b L xs s s.heap) (hbl : b < s.heap.size) : SL g p l e s m b below meth c (bk_L_23 l g b L xs (fun k => GL g p l e s m b below meth c (pc_L k))) 859 := (s_aload_n X dL_law_859 rfl (s_aload_n X dL_law_860 rfl (s_iload_n X dL_law_861 rfl (s_iconst X dL_law_862 rfl (s_iadd X dL_law_863 (s_sld X hX hbl dL_law_864 (s_aload_n X dL_law_865 rfl (s_iload_n X dL_law_866 rfl (s_iconst X dL_law_867 rfl (s_iadd X dL_law_868 (s_sld X hX hbl dL_law_869 (s_aload_n X dL_law_870 rfl (s_iload_n X dL_law_871 rfl (s_iconst X dL_law_872 rfl (s_iadd X dL_law_873 (s_sld X hX hbl dL_law_874 (s_callV X dL_law_875 (mv (vok_V X rfl uw_627 uw_628 uw_629 uw_1 ci_X9_cell yok_X9_cell ⟨Nat.le_of_ble_eq_true rfl, Nat.le_of_ble_eq_true rfl⟩) mv0) (s_aload_n X dL_law_878 rfl (s_aload_n X dL_law_879 rfl (s_iload_n X dL_law_880 rfl (s_iconst X dL_law_881 rfl (s_iadd X dL_law_882 (s_sld X hX hbl dL_law_883 (s_aload_n X dL_law_884 rfl (s_iload_n X dL_law_885 rfl (s_iconst X dL_law_886 rfl (s_iadd X dL_law_887 (s_sld X hX hbl dL_law_888 (s_aload_n X dL_law_889 rfl (s_iload_n X dL_law_890 rfl (s_iconst X dL_law_891 rfl (s_iadd X dL_law_892 (s_sld X hX hbl dL_law_893 (s_callV X dL_law_894 (mv (vok_V X rfl uw_1032 uw_1033 uw_1034 uw_7 ci_X10_cell yok_X10_cell ⟨Nat.le_of_ble_eq_true rfl, Nat.le_of_ble_eq_true rfl⟩) mv0) (s_lcmp X dL_law_897 (s_if_eq X dL_law_898 (by decide) Sd.rf (s_iconst X dL_law_901 rfl (s_lret X hr dL_law_902))))))))))))))))))))))))))))))))))))))
set_option maxRecDepth 100000 in
theorem sb_L_24 {p : Program} {l : Launch} {e : Env} {s : State} {m : MethodId} {below : List Frame} {meth : Method} {c : Code} {g : Gm} {b L : Nat} {xs : Nat → Int32} (X : Cx g p s m #[Value.ref b] meth c (fun q => s.heap.size ≤ q) code RL 4) (hr : meth.sig.returnType = ret) (hX : va_X b L xs s s.heap) (hbl : b < s.heap.size) : SL g p l e s m b below meth c (bk_L_24 l g b L xs (fun k => GL g p l e s m b below meth c (pc_L k))) 903 := (s_aload_n X dL_law_903 rfl (s_aload_n X dL_law_904 rfl (s_iload_n X dL_law_905 rfl (s_iconst X dL_law_906 rfl (s_iadd X dL_law_907 (s_sld X hX hbl dL_law_908 (s_aload_n X dL_law_909 rfl (s_iload_n X dL_law_910 rfl (s_iconst X dL_law_911 rfl (s_iadd X dL_law_912 (s_sld X hX hbl dL_law_913 (s_aload_n X dL_law_914 rfl (s_iload_n X dL_law_915 rfl (s_iconst X dL_law_916 rfl (s_iadd X dL_law_917 (s_sld X hX hbl dL_law_918 (s_aload_n X dL_law_919 rfl (s_iload_n X dL_law_920 rfl (s_iconst X dL_law_921 rfl (s_iadd X dL_law_922 (s_sld X hX hbl dL_law_923 (s_aload_n X dL_law_924 rfl (s_iload_n X dL_law_925 rfl (s_iconst X dL_law_926 rfl (s_iadd X dL_law_927 (s_sld X hX hbl dL_law_928 (s_callV X dL_law_929 (mv (vok_V X rfl uw_631 uw_632 uw_633 uw_1 ci_X9_copy yok_X9_copy ⟨Nat.le_of_ble_eq_true rfl, Nat.le_of_ble_eq_true rfl⟩) mv0) (s_aload_n X dL_law_932 rfl (s_aload_n X dL_law_933 rfl (s_iload_n X dL_law_934 rfl (s_iconst X dL_law_935 rfl (s_iadd X dL_law_936 (s_sld X hX hbl dL_law_937 (s_aload_n X dL_law_938 rfl (s_iload_n X dL_law_939 rfl (s_iconst X dL_law_940 rfl (s_iadd X dL_law_941 (s_sld X hX hbl dL_law_942 (s_aload_n X dL_law_943 rfl (s_iload_n X dL_law_944 rfl (s_iconst X dL_law_945 rfl (s_iadd X dL_law_946 (s_sld X hX hbl dL_law_947 (s_aload_n X dL_law_948 rfl (s_iload_n X dL_law_949 rfl (s_iconst X dL_law_950 rfl (s_iadd X dL_law_951 (s_sld X hX hbl dL_law_952 (s_aload_n X dL_law_953 rfl (s_iload_n X dL_law_954 rfl (s_iconst X dL_law_955 rfl (s_iadd X dL_law_956 (s_sld X hX hbl dL_law_957 (s_callV X dL_law_958 (mv (vok_V X rfl uw_1040 uw_1041 uw_1042 uw_7 ci_X10_copy yok_X10_copy ⟨Nat.le_of_ble_eq_true rfl, Nat.le_of_ble_eq_true rfl⟩) mv0) (s_icmp_eq X dL_law_961 (by decide) Sd.rf (s_iconst X dL_law_964 rfl (s_lret X hr dL_law_965)))))))))))))))))))))))))))))))))))))))))))))))))))))))))
set_option maxRecDepth 100000 in
theorem sb_L_25 {p : Program} {l : Launch} {e : Env} {s : State} {m : MethodId} {below : List Frame} {meth : Method} {c : Code} {g : Gm} {b L : Nat} {xs : Nat → Int32} (X : Cx g p s m #[Value.ref b] meth c (fun q => s.heap.size ≤ q) code RL 4) (hr : meth.sig.returnType = ret) (hX : va_X b L xs s s.heap) (hbl : b < s.heap.size) : SL g p l e s m b below meth c (bk_L_25 l g b L xs (fun k => GL g p l e s m b below meth c (pc_L k))) 966 := (s_aload_n X dL_law_966 rfl (s_aload_n X dL_law_967 rfl (s_iload_n X dL_law_968 rfl (s_iconst X dL_law_969 rfl (s_iadd X dL_law_970 (s_sld X hX hbl dL_law_971 (s_callV X dL_law_972 (mv (vok_V X rfl uw_635 uw_636 uw_637 uw_1 ci_X9_tell yok_X9_tell ⟨Nat.le_of_ble_eq_true rfl, Nat.le_of_ble_eq_true rfl⟩) mv0) (s_aload_n X dL_law_975 rfl (s_aload_n X dL_law_976 rfl (s_iload_n X dL_law_977 rfl (s_iconst X dL_law_978 rfl (s_iadd X dL_law_979 (s_sld X hX hbl dL_law_980 (s_callV X dL_law_981 (mv (vok_V X rfl uw_1044 uw_1045 uw_1046 uw_7 ci_X10_tell yok_X10_tell ⟨Nat.le_of_ble_eq_true rfl, Nat.le_of_ble_eq_true rfl⟩) mv0) (s_icmp_eq X dL_law_984 (by decide) Sd.rf (s_iconst X dL_law_987 rfl (s_lret X hr dL_law_988)))))))))))))))))
set_option maxRecDepth 100000 in
theorem sb_L_26 {p : Program} {l : Launch} {e : Env} {s : State} {m : MethodId} {below : List Frame} {meth : Method} {c : Code} {g : Gm} {b L : Nat} {xs : Nat → Int32} (X : Cx g p s m #[Value.ref b] meth c (fun q => s.heap.size ≤ q) code RL 4) (hr : meth.sig.returnType = ret) (hX : va_X b L xs s s.heap) (hbl : b < s.heap.size) : SL g p l e s m b below meth c (bk_L_26 l g b L xs (fun k => GL g p l e s m b below meth c (pc_L k))) 989 := (s_aload_n X dL_law_989 rfl (s_aload_n X dL_law_990 rfl (s_iload_n X dL_law_991 rfl (s_iconst X dL_law_992 rfl (s_iadd X dL_law_993 (s_sld X hX hbl dL_law_994 (s_callV X dL_law_995 (mv (vok_V X rfl uw_665 uw_666 uw_667 uw_1 ci_X9_ring yok_X9_ring ⟨Nat.le_of_ble_eq_true rfl, Nat.le_of_ble_eq_true rfl⟩) mv0) (s_aload_n X dL_law_998 rfl (s_aload_n X dL_law_999 rfl (s_iload_n X dL_law_1000 rfl (s_iconst X dL_law_1001 rfl (s_iadd X dL_law_1002 (s_sld X hX hbl dL_law_1003 (s_callV X dL_law_1004 (mv (vok_V X rfl uw_1052 uw_1053 uw_1054 uw_7 ci_X10_ring yok_X10_ring ⟨Nat.le_of_ble_eq_true rfl, Nat.le_of_ble_eq_true rfl⟩) mv0) (s_icmp_eq X dL_law_1007 (by decide) Sd.rf (s_iconst X dL_law_1010 rfl (s_lret X hr dL_law_1011)))))))))))))))))
set_option maxRecDepth 100000 in
theorem sb_L_27 {p : Program} {l : Launch} {e : Env} {s : State} {m : MethodId} {below : List Frame} {meth : Method} {c : Code} {g : Gm} {b L : Nat} {xs : Nat → Int32} (X : Cx g p s m #[Value.ref b] meth c (fun q => s.heap.size ≤ q) code RL 4) (hr : meth.sig.returnType = ret) (hX : va_X b L xs s s.heap) (hbl : b < s.heap.size) : SL g p l e s m b below meth c (bk_L_27 l g b L xs (fun k => GL g p l e s m b below meth c (pc_L k))) 1012 := (s_aload_n X dL_law_1012 rfl (s_aload_n X dL_law_1013 rfl (s_iload_n X dL_law_1014 rfl (s_iconst X dL_law_1015 rfl (s_iadd X dL_law_1016 (s_sld X hX hbl dL_law_1017 (s_aload_n X dL_law_1018 rfl (s_iload_n X dL_law_1019 rfl (s_iconst X dL_law_1020 rfl (s_iadd X dL_law_1021 (s_sld X hX hbl dL_law_1022 (s_callV X dL_law_1023 (mv (vok_V X rfl uw_678 uw_679 uw_680 uw_1 ci_X9_as yok_X9_as ⟨Nat.le_of_ble_eq_true rfl, Nat.le_of_ble_eq_true rfl⟩) mv0) (s_aload_n X dL_law_1026 rfl (s_aload_n X dL_law_1027 rfl (s_iload_n X dL_law_1028 rfl (s_iconst X dL_law_1029 rfl (s_iadd X dL_law_1030 (s_sld X hX hbl dL_law_1031 (s_aload_n X dL_law_1032 rfl (s_iload_n X dL_law_1033 rfl (s_iconst X dL_law_1034 rfl (s_iadd X dL_law_1035 (s_sld X hX hbl dL_law_1036 (s_callV X dL_law_1037 (mv (vok_V X rfl uw_1056 uw_1057 uw_1058 uw_7 ci_X10_as yok_X10_as ⟨Nat.le_of_ble_eq_true rfl, Nat.le_of_ble_eq_true rfl⟩) mv0) (s_icmp_eq X dL_law_1040 (by decide) Sd.rf (s_iconst X dL_law_1043 rfl (s_lret X hr dL_law_1044)))))))))))))))))))))))))))
set_option maxRecDepth 100000 in
theorem sb_L_28 {p : Program} {l : Launch} {e : Env} {s : State} {m : MethodId} {below : List Frame} {meth : Method} {c : Code} {g : Gm} {b L : Nat} {xs : Nat → Int32} (X : Cx g p s m #[Value.ref b] meth c (fun q => s.heap.size ≤ q) code RL 4) (hr : meth.sig.returnType = ret) (hX : va_X b L xs s s.heap) (hbl : b < s.heap.size) : SL g p l e s m b below meth c (bk_L_28 l g b L xs (fun k => GL g p l e s m b below meth c (pc_L k))) 1045 := (s_aload_n X dL_law_1045 rfl (s_callV X dL_law_1046 (mv (vok_V X rfl uw_687 uw_688 uw_689 uw_1 ci_X9_trace yok_X9_trace ⟨Nat.le_of_ble_eq_true rfl, Nat.le_of_ble_eq_true rfl⟩) mv0) (s_aload_n X dL_law_1049 rfl (s_callV X dL_law_1050 (mv (vok_V X rfl uw_1060 uw_1061 uw_1062 uw_7 ci_X10_trace yok_X10_trace ⟨Nat.le_of_ble_eq_true rfl, Nat.le_of_ble_eq_true rfl⟩) mv0) (s_icmp_eq X dL_law_1053 (by decide) Sd.rf (s_iconst X dL_law_1056 rfl (s_lret X hr dL_law_1057)))))))
set_option maxRecDepth 100000 in
theorem sb_L_29 {p : Program} {l : Launch} {e : Env} {s : State} {m : MethodId} {below : List Frame} {meth : Method} {c : Code} {g : Gm} {b L : Nat} {xs : Nat → Int32} (X : Cx g p s m #[Value.ref b] meth c (fun q => s.heap.size ≤ q) code RL 4) (hr : meth.sig.returnType = ret) (hX : va_X b L xs s s.heap) (hbl : b < s.heap.size) : SL g p l e s m b below meth c (bk_L_29 l g b L xs (fun k => GL g p l e s m b below meth c (pc_L k))) 1058 := (s_aload_n X dL_law_1058 rfl (s_callV X dL_law_1059 (mv (vok_V X rfl uw_691 uw_692 uw_693 uw_1 ci_X9_fault yok_X9_fault ⟨Nat.le_of_ble_eq_true rfl, Nat.le_of_ble_eq_true rfl⟩) mv0) (s_aload_n X dL_law_1062 rfl (s_callV X dL_law_1063 (mv (vok_V X rfl uw_1064 uw_1065 uw_1066 uw_7 ci_X10_fault yok_X10_fault ⟨Nat.le_of_ble_eq_true rfl, Nat.le_of_ble_eq_true rfl⟩) mv0) (s_icmp_eq X dL_law_1066 (by decide) Sd.rf (s_iconst X dL_law_1069 rfl (s_lret X hr dL_law_1070)))))))
set_option maxRecDepth 100000 in
theorem sb_L_30 {p : Program} {l : Launch} {e : Env} {s : State} {m : MethodId} {below : List Frame} {meth : Method} {c : Code} {g : Gm} {b L : Nat} {xs : Nat → Int32} (X : Cx g p s m #[Value.ref b] meth c (fun q => s.heap.size ≤ q) code RL 4) (hr : meth.sig.returnType = ret) (hX : va_X b L xs s s.heap) (hbl : b < s.heap.size) : SL g p l e s m b below meth c (bk_L_30 l g b L xs (fun k => GL g p l e s m b below meth c (pc_L k))) 1071 := (s_aload_n X dL_law_1071 rfl (s_aload_n X dL_law_1072 rfl (s_iload_n X dL_law_1073 rfl (s_iconst X dL_law_1074 rfl (s_iadd X dL_law_1075 (s_sld X hX hbl dL_law_1076 (s_callV X dL_law_1077 (mv (vok_V X rfl uw_695 uw_696 uw_697 uw_1 ci_X9_many yok_X9_many ⟨Nat.le_of_ble_eq_true rfl, Nat.le_of_ble_eq_true rfl⟩) mv0) (s_aload_n X dL_law_1080 rfl (s_aload_n X dL_law_1081 rfl (s_iload_n X dL_law_1082 rfl (s_iconst X dL_law_1083 rfl (s_iadd X dL_law_1084 (s_sld X hX hbl dL_law_1085 (s_callV X dL_law_1086 (mv (vok_V X rfl uw_1068 uw_1069 uw_1070 uw_7 ci_X10_many yok_X10_many ⟨Nat.le_of_ble_eq_true rfl, Nat.le_of_ble_eq_true rfl⟩) mv0) (s_icmp_eq X dL_law_1089 (by decide) Sd.rf (s_iconst X dL_law_1092 rfl (s_lret X hr dL_law_1093)))))))))))))))))
set_option maxRecDepth 100000 in
theorem sb_L_31 {p : Program} {l : Launch} {e : Env} {s : State} {m : MethodId} {below : List Frame} {meth : Method} {c : Code} {g : Gm} {b L : Nat} {xs : Nat → Int32} (X : Cx g p s m #[Value.ref b] meth c (fun q => s.heap.size ≤ q) code RL 4) (hr : meth.sig.returnType = ret) (hX : va_X b L xs s s.heap) (hbl : b < s.heap.size) : SL g p l e s m b below meth c (bk_L_31 l g b L xs (fun k => GL g p l e s m b below meth c (pc_L k))) 1094 := (s_iinc X dL_law_1094 rfl (by decide) (s_goto X dL_law_1097 (by decide) Sd.rf))
theorem sb_L {p : Program} {l : Launch} {e : Env} {s : State} {m : MethodId} {below : List Frame} {meth : Method} {c : Code} {g : Gm} {b L : Nat} {xs : Nat → Int32} (X : Cx g p s m #[Value.ref b] meth c (fun q => s.heap.size ≤ q) code RL 4) (hr : meth.sig.returnType = ret) (hX : va_X b L xs s s.heap) (hbl : b < s.heap.size) (k : Nat) (h : Hp) (cb sb : Nat) (ls : LocS) (st : List Value) (hb : bk_L l g b L xs k (fun k => GL g p l e s m b below meth c (pc_L k)) h cb sb ls st) : GL g p l e s m b below meth c (pc_L k) h cb sb ls st := match k, hb with
  | 0, hb => sb_L_0 X hr hX hbl h cb sb ls st hb
  | 1, hb => sb_L_1 X hr hX hbl h cb sb ls st hb
  | 2, hb => sb_L_2 X hr hX hbl h cb sb ls st hb
  | 3, hb => sb_L_3 X hr hX hbl h cb sb ls st hb
  | 4, hb => sb_L_4 X hr hX hbl h cb sb ls st hb
  | 5, hb => sb_L_5 X hr hX hbl h cb sb ls st hb
  | 6, hb => sb_L_6 X hr hX hbl h cb sb ls st hb
  | 7, hb => sb_L_7 X hr hX hbl h cb sb ls st hb
  | 8, hb => sb_L_8 X hr hX hbl h cb sb ls st hb
  | 9, hb => sb_L_9 X hr hX hbl h cb sb ls st hb
  | 10, hb => sb_L_10 X hr hX hbl h cb sb ls st hb
  | 11, hb => sb_L_11 X hr hX hbl h cb sb ls st hb
  | 12, hb => sb_L_12 X hr hX hbl h cb sb ls st hb
  | 13, hb => sb_L_13 X hr hX hbl h cb sb ls st hb
  | 14, hb => sb_L_14 X hr hX hbl h cb sb ls st hb
  | 15, hb => sb_L_15 X hr hX hbl h cb sb ls st hb
  | 16, hb => sb_L_16 X hr hX hbl h cb sb ls st hb
  | 17, hb => sb_L_17 X hr hX hbl h cb sb ls st hb
  | 18, hb => sb_L_18 X hr hX hbl h cb sb ls st hb
  | 19, hb => sb_L_19 X hr hX hbl h cb sb ls st hb
  | 20, hb => sb_L_20 X hr hX hbl h cb sb ls st hb
  | 21, hb => sb_L_21 X hr hX hbl h cb sb ls st hb
  | 22, hb => sb_L_22 X hr hX hbl h cb sb ls st hb
  | 23, hb => sb_L_23 X hr hX hbl h cb sb ls st hb
  | 24, hb => sb_L_24 X hr hX hbl h cb sb ls st hb
  | 25, hb => sb_L_25 X hr hX hbl h cb sb ls st hb
  | 26, hb => sb_L_26 X hr hX hbl h cb sb ls st hb
  | 27, hb => sb_L_27 X hr hX hbl h cb sb ls st hb
  | 28, hb => sb_L_28 X hr hX hbl h cb sb ls st hb
  | 29, hb => sb_L_29 X hr hX hbl h cb sb ls st hb
  | 30, hb => sb_L_30 X hr hX hbl h cb sb ls st hb
  | 31, hb => sb_L_31 X hr hX hbl h cb sb ls st hb
  | _ + 32, hb => hb.elim
/-- G holds where the blocks say so -/
def LwG (l : Launch) (g : Gm) (b L : Nat) (xs : Nat → Int32) (G : Nat → CT) : Prop := ∀ (k : Nat) (h : Hp) (cb sb : Nat) (ls : LocS) (st : List Value), bk_L l g b L xs k G h cb sb ls st → G k h cb sb ls st
/-- what a call comes back with: class and reference tell one state -/
def LwK (g : Gm) (G : Nat → CT) (k b a m i cb sb : Nat) : Prop := ∀ (rl1 : Nat → Nat) (h1 : Hp) (S1 : St) (cb1 sb1 : Nat), cb ≤ cb1 + 55 → sb ≤ sb1 + 6500 → ClsH g rl1 h1 a S1 → ModR g rl1 h1 m S1 → G k h1 cb1 sb1 [some (.ref b), some (.ref a), some (.ref m), some (.int (nI i))] []
