theorem m_232 : Cond.classLink RL 13 eIA ∈ Ug := Ug_at 232 (by decide +kernel) (by decide +kernel)
theorem m_233 : Cond.classLink RL 15 eIS ∈ Ug := Ug_at 233 (by decide +kernel) (by decide +kernel)
theorem m_234 : Cond.methodLink RL 7 yX1_addRelation ∈ Ug := Ug_at 234 (by decide +kernel) (by decide +kernel)
theorem m_235 : Cond.instanceMethod yX1_addRelation ∈ Ug := Ug_at 235 (by decide +kernel) (by decide +kernel)
theorem m_236 : Cond.selects RX1 yX1_addRelation yX1_addRelation ∈ Ug := Ug_at 236 (by decide +kernel) (by decide +kernel)
theorem m_237 : Cond.code yX1_addRelation cX1_addRelation 2 (some .int) ∈ Ug := Ug_at 237 (by decide +kernel) (by decide +kernel)
theorem e_243 : Cond.castable eIA eIA ∈ Ue := Ue_at 243 (by decide +kernel) rfl
theorem e_321 : Cond.castable eIS eIS ∈ Ue := Ue_at 321 (by decide +kernel) rfl
theorem m_338 : Cond.methodLink RL 17 yX1_addClause ∈ Ug := Ug_at 338 (by decide +kernel) (by decide +kernel)
theorem m_339 : Cond.instanceMethod yX1_addClause ∈ Ug := Ug_at 339 (by decide +kernel) (by decide +kernel)
theorem m_340 : Cond.selects RX1 yX1_addClause yX1_addClause ∈ Ug := Ug_at 340 (by decide +kernel) (by decide +kernel)
theorem m_341 : Cond.code yX1_addClause cX1_addClause 3 (some .int) ∈ Ug := Ug_at 341 (by decide +kernel) (by decide +kernel)
theorem m_350 : Cond.methodLink RL 21 yX1_addParity ∈ Ug := Ug_at 350 (by decide +kernel) (by decide +kernel)
theorem m_351 : Cond.instanceMethod yX1_addParity ∈ Ug := Ug_at 351 (by decide +kernel) (by decide +kernel)
theorem m_352 : Cond.selects RX1 yX1_addParity yX1_addParity ∈ Ug := Ug_at 352 (by decide +kernel) (by decide +kernel)
theorem m_353 : Cond.code yX1_addParity cX1_addParity 3 (some .int) ∈ Ug := Ug_at 353 (by decide +kernel) (by decide +kernel)
theorem m_364 : Cond.classLink RL 28 eIO ∈ Ug := Ug_at 364 (by decide +kernel) (by decide +kernel)
theorem m_365 : Cond.methodLink RL 24 yX1_addTuple ∈ Ug := Ug_at 365 (by decide +kernel) (by decide +kernel)
theorem m_366 : Cond.instanceMethod yX1_addTuple ∈ Ug := Ug_at 366 (by decide +kernel) (by decide +kernel)
theorem m_367 : Cond.selects RX1 yX1_addTuple yX1_addTuple ∈ Ug := Ug_at 367 (by decide +kernel) (by decide +kernel)
theorem m_368 : Cond.code yX1_addTuple cX1_addTuple 4 (some .boolean) ∈ Ug := Ug_at 368 (by decide +kernel) (by decide +kernel)
theorem e_375 : Cond.castable eIO eIO ∈ Ue := Ue_at 375 (by decide +kernel) rfl
theorem m_398 : Cond.methodLink RL 30 yX1_removeTuple ∈ Ug := Ug_at 398 (by decide +kernel) (by decide +kernel)
theorem m_399 : Cond.instanceMethod yX1_removeTuple ∈ Ug := Ug_at 399 (by decide +kernel) (by decide +kernel)
theorem m_400 : Cond.selects RX1 yX1_removeTuple yX1_removeTuple ∈ Ug := Ug_at 400 (by decide +kernel) (by decide +kernel)
theorem m_401 : Cond.code yX1_removeTuple cX1_removeTuple 4 (some .boolean) ∈ Ug := Ug_at 401 (by decide +kernel) (by decide +kernel)
theorem m_405 : Cond.methodLink RL 33 yX1_contains ∈ Ug := Ug_at 405 (by decide +kernel) (by decide +kernel)
theorem m_406 : Cond.instanceMethod yX1_contains ∈ Ug := Ug_at 406 (by decide +kernel) (by decide +kernel)
theorem m_407 : Cond.selects RX1 yX1_contains yX1_contains ∈ Ug := Ug_at 407 (by decide +kernel) (by decide +kernel)
theorem m_408 : Cond.code yX1_contains cX1_contains 3 (some .boolean) ∈ Ug := Ug_at 408 (by decide +kernel) (by decide +kernel)
theorem m_412 : Cond.methodLink RL 36 yX1_tupleCount ∈ Ug := Ug_at 412 (by decide +kernel) (by decide +kernel)
theorem m_413 : Cond.instanceMethod yX1_tupleCount ∈ Ug := Ug_at 413 (by decide +kernel) (by decide +kernel)
theorem m_414 : Cond.selects RX1 yX1_tupleCount yX1_tupleCount ∈ Ug := Ug_at 414 (by decide +kernel) (by decide +kernel)
theorem m_415 : Cond.code yX1_tupleCount cX1_tupleCount 2 (some .int) ∈ Ug := Ug_at 415 (by decide +kernel) (by decide +kernel)
theorem m_419 : Cond.methodLink RL 39 yX1_arity ∈ Ug := Ug_at 419 (by decide +kernel) (by decide +kernel)
theorem m_420 : Cond.instanceMethod yX1_arity ∈ Ug := Ug_at 420 (by decide +kernel) (by decide +kernel)
theorem m_421 : Cond.selects RX1 yX1_arity yX1_arity ∈ Ug := Ug_at 421 (by decide +kernel) (by decide +kernel)
theorem m_422 : Cond.code yX1_arity cX1_arity 2 (some .int) ∈ Ug := Ug_at 422 (by decide +kernel) (by decide +kernel)
theorem m_426 : Cond.methodLink RL 42 yX1_areEqual ∈ Ug := Ug_at 426 (by decide +kernel) (by decide +kernel)
theorem m_427 : Cond.instanceMethod yX1_areEqual ∈ Ug := Ug_at 427 (by decide +kernel) (by decide +kernel)
theorem m_428 : Cond.selects RX1 yX1_areEqual yX1_areEqual ∈ Ug := Ug_at 428 (by decide +kernel) (by decide +kernel)
theorem m_429 : Cond.code yX1_areEqual cX1_areEqual 3 (some .boolean) ∈ Ug := Ug_at 429 (by decide +kernel) (by decide +kernel)
theorem m_433 : Cond.methodLink RL 45 yX1_addComplement ∈ Ug := Ug_at 433 (by decide +kernel) (by decide +kernel)
theorem m_434 : Cond.instanceMethod yX1_addComplement ∈ Ug := Ug_at 434 (by decide +kernel) (by decide +kernel)
theorem m_435 : Cond.selects RX1 yX1_addComplement yX1_addComplement ∈ Ug := Ug_at 435 (by decide +kernel) (by decide +kernel)
theorem m_436 : Cond.code yX1_addComplement cX1_addComplement 3 (some .int) ∈ Ug := Ug_at 436 (by decide +kernel) (by decide +kernel)
theorem m_440 : Cond.methodLink RL 48 yX1_addIntersection ∈ Ug := Ug_at 440 (by decide +kernel) (by decide +kernel)
theorem m_441 : Cond.instanceMethod yX1_addIntersection ∈ Ug := Ug_at 441 (by decide +kernel) (by decide +kernel)
theorem m_442 : Cond.selects RX1 yX1_addIntersection yX1_addIntersection ∈ Ug := Ug_at 442 (by decide +kernel) (by decide +kernel)
theorem m_443 : Cond.code yX1_addIntersection cX1_addIntersection 3 (some .int) ∈ Ug := Ug_at 443 (by decide +kernel) (by decide +kernel)
theorem m_448 : Cond.methodLink RL 51 yX1_addProjection ∈ Ug := Ug_at 448 (by decide +kernel) (by decide +kernel)
theorem m_449 : Cond.instanceMethod yX1_addProjection ∈ Ug := Ug_at 449 (by decide +kernel) (by decide +kernel)
theorem m_450 : Cond.selects RX1 yX1_addProjection yX1_addProjection ∈ Ug := Ug_at 450 (by decide +kernel) (by decide +kernel)
theorem m_451 : Cond.code yX1_addProjection cX1_addProjection 4 (some .int) ∈ Ug := Ug_at 451 (by decide +kernel) (by decide +kernel)
theorem m_464 : Cond.methodLink RL 54 yX1_addExchanged ∈ Ug := Ug_at 464 (by decide +kernel) (by decide +kernel)
theorem m_465 : Cond.instanceMethod yX1_addExchanged ∈ Ug := Ug_at 465 (by decide +kernel) (by decide +kernel)
theorem m_466 : Cond.selects RX1 yX1_addExchanged yX1_addExchanged ∈ Ug := Ug_at 466 (by decide +kernel) (by decide +kernel)
theorem m_467 : Cond.code yX1_addExchanged cX1_addExchanged 4 (some .int) ∈ Ug := Ug_at 467 (by decide +kernel) (by decide +kernel)
theorem m_474 : Cond.methodLink RL 58 yX1_apply ∈ Ug := Ug_at 474 (by decide +kernel) (by decide +kernel)
theorem m_475 : Cond.instanceMethod yX1_apply ∈ Ug := Ug_at 475 (by decide +kernel) (by decide +kernel)
theorem m_476 : Cond.selects RX1 yX1_apply yX1_apply ∈ Ug := Ug_at 476 (by decide +kernel) (by decide +kernel)
theorem m_477 : Cond.code yX1_apply cX1_apply 6 (some .int) ∈ Ug := Ug_at 477 (by decide +kernel) (by decide +kernel)
theorem m_491 : Cond.methodLink RL 62 yX1_preserves ∈ Ug := Ug_at 491 (by decide +kernel) (by decide +kernel)
theorem m_492 : Cond.instanceMethod yX1_preserves ∈ Ug := Ug_at 492 (by decide +kernel) (by decide +kernel)
theorem m_493 : Cond.selects RX1 yX1_preserves yX1_preserves ∈ Ug := Ug_at 493 (by decide +kernel) (by decide +kernel)
theorem m_494 : Cond.code yX1_preserves cX1_preserves 4 (some .boolean) ∈ Ug := Ug_at 494 (by decide +kernel) (by decide +kernel)
theorem m_511 : Cond.methodLink RL 66 yX1_isPolymorphism ∈ Ug := Ug_at 511 (by decide +kernel) (by decide +kernel)
theorem m_512 : Cond.instanceMethod yX1_isPolymorphism ∈ Ug := Ug_at 512 (by decide +kernel) (by decide +kernel)
theorem m_513 : Cond.selects RX1 yX1_isPolymorphism yX1_isPolymorphism ∈ Ug := Ug_at 513 (by decide +kernel) (by decide +kernel)
theorem m_514 : Cond.code yX1_isPolymorphism cX1_isPolymorphism 3 (some .boolean) ∈ Ug := Ug_at 514 (by decide +kernel) (by decide +kernel)
theorem m_522 : Cond.methodLink RL 69 yX1_polymorphismCount ∈ Ug := Ug_at 522 (by decide +kernel) (by decide +kernel)
theorem m_523 : Cond.instanceMethod yX1_polymorphismCount ∈ Ug := Ug_at 523 (by decide +kernel) (by decide +kernel)
theorem m_524 : Cond.selects RX1 yX1_polymorphismCount yX1_polymorphismCount ∈ Ug := Ug_at 524 (by decide +kernel) (by decide +kernel)
theorem m_525 : Cond.code yX1_polymorphismCount cX1_polymorphismCount 4 (some .int) ∈ Ug := Ug_at 525 (by decide +kernel) (by decide +kernel)
theorem m_529 : Cond.classLink RL 75 eNS ∈ Ug := Ug_at 529 (by decide +kernel) (by decide +kernel)
theorem m_530 : Cond.methodLink RL 72 yX1_polymorphism ∈ Ug := Ug_at 530 (by decide +kernel) (by decide +kernel)
theorem m_531 : Cond.instanceMethod yX1_polymorphism ∈ Ug := Ug_at 531 (by decide +kernel) (by decide +kernel)
theorem m_532 : Cond.selects RX1 yX1_polymorphism yX1_polymorphism ∈ Ug := Ug_at 532 (by decide +kernel) (by decide +kernel)
theorem m_533 : Cond.code yX1_polymorphism cX1_polymorphism 5 (some .int) ∈ Ug := Ug_at 533 (by decide +kernel) (by decide +kernel)
theorem e_536 : Cond.castable eNS eNS ∈ Ue := Ue_at 536 (by decide +kernel) rfl
theorem m_553 : Cond.methodLink RL 77 yX1_isIdempotent ∈ Ug := Ug_at 553 (by decide +kernel) (by decide +kernel)
theorem m_554 : Cond.instanceMethod yX1_isIdempotent ∈ Ug := Ug_at 554 (by decide +kernel) (by decide +kernel)
theorem m_555 : Cond.selects RX1 yX1_isIdempotent yX1_isIdempotent ∈ Ug := Ug_at 555 (by decide +kernel) (by decide +kernel)
theorem m_556 : Cond.code yX1_isIdempotent cX1_isIdempotent 3 (some .boolean) ∈ Ug := Ug_at 556 (by decide +kernel) (by decide +kernel)
theorem m_560 : Cond.methodLink RL 80 yX1_isMonotone ∈ Ug := Ug_at 560 (by decide +kernel) (by decide +kernel)
theorem m_561 : Cond.instanceMethod yX1_isMonotone ∈ Ug := Ug_at 561 (by decide +kernel) (by decide +kernel)
theorem m_562 : Cond.selects RX1 yX1_isMonotone yX1_isMonotone ∈ Ug := Ug_at 562 (by decide +kernel) (by decide +kernel)
theorem m_563 : Cond.code yX1_isMonotone cX1_isMonotone 4 (some .boolean) ∈ Ug := Ug_at 563 (by decide +kernel) (by decide +kernel)
theorem m_578 : Cond.methodLink RL 83 yX1_projectedArgument ∈ Ug := Ug_at 578 (by decide +kernel) (by decide +kernel)
theorem m_579 : Cond.instanceMethod yX1_projectedArgument ∈ Ug := Ug_at 579 (by decide +kernel) (by decide +kernel)
theorem m_580 : Cond.selects RX1 yX1_projectedArgument yX1_projectedArgument ∈ Ug := Ug_at 580 (by decide +kernel) (by decide +kernel)
theorem m_581 : Cond.code yX1_projectedArgument cX1_projectedArgument 4 (some .int) ∈ Ug := Ug_at 581 (by decide +kernel) (by decide +kernel)
theorem m_586 : Cond.methodLink RL 86 yX1_close ∈ Ug := Ug_at 586 (by decide +kernel) (by decide +kernel)
theorem m_587 : Cond.instanceMethod yX1_close ∈ Ug := Ug_at 587 (by decide +kernel) (by decide +kernel)
theorem m_588 : Cond.selects RX1 yX1_close yX1_close ∈ Ug := Ug_at 588 (by decide +kernel) (by decide +kernel)
theorem m_589 : Cond.code yX1_close cX1_close 8 (some .int) ∈ Ug := Ug_at 589 (by decide +kernel) (by decide +kernel)
theorem m_593 : Cond.methodLink RL 89 yX1_dual ∈ Ug := Ug_at 593 (by decide +kernel) (by decide +kernel)
theorem m_594 : Cond.instanceMethod yX1_dual ∈ Ug := Ug_at 594 (by decide +kernel) (by decide +kernel)
theorem m_595 : Cond.selects RX1 yX1_dual yX1_dual ∈ Ug := Ug_at 595 (by decide +kernel) (by decide +kernel)
theorem m_596 : Cond.code yX1_dual cX1_dual 6 (some .int) ∈ Ug := Ug_at 596 (by decide +kernel) (by decide +kernel)
theorem m_600 : Cond.methodLink RL 92 yX1_dependsOn ∈ Ug := Ug_at 600 (by decide +kernel) (by decide +kernel)
theorem m_601 : Cond.instanceMethod yX1_dependsOn ∈ Ug := Ug_at 601 (by decide +kernel) (by decide +kernel)
theorem m_602 : Cond.selects RX1 yX1_dependsOn yX1_dependsOn ∈ Ug := Ug_at 602 (by decide +kernel) (by decide +kernel)
theorem m_603 : Cond.code yX1_dependsOn cX1_dependsOn 4 (some .boolean) ∈ Ug := Ug_at 603 (by decide +kernel) (by decide +kernel)
theorem m_608 : Cond.methodLink RL 95 yX1_compose ∈ Ug := Ug_at 608 (by decide +kernel) (by decide +kernel)
theorem m_609 : Cond.instanceMethod yX1_compose ∈ Ug := Ug_at 609 (by decide +kernel) (by decide +kernel)
theorem m_610 : Cond.selects RX1 yX1_compose yX1_compose ∈ Ug := Ug_at 610 (by decide +kernel) (by decide +kernel)
theorem m_611 : Cond.code yX1_compose cX1_compose 9 (some .int) ∈ Ug := Ug_at 611 (by decide +kernel) (by decide +kernel)
theorem m_616 : Cond.methodLink RL 98 yX1_relationHasKind ∈ Ug := Ug_at 616 (by decide +kernel) (by decide +kernel)
theorem m_617 : Cond.instanceMethod yX1_relationHasKind ∈ Ug := Ug_at 617 (by decide +kernel) (by decide +kernel)
theorem m_618 : Cond.selects RX1 yX1_relationHasKind yX1_relationHasKind ∈ Ug := Ug_at 618 (by decide +kernel) (by decide +kernel)
theorem m_619 : Cond.code yX1_relationHasKind cX1_relationHasKind 3 (some .boolean) ∈ Ug := Ug_at 619 (by decide +kernel) (by decide +kernel)
theorem m_631 : Cond.methodLink RL 101 yX1_hasKind ∈ Ug := Ug_at 631 (by decide +kernel) (by decide +kernel)
theorem m_632 : Cond.instanceMethod yX1_hasKind ∈ Ug := Ug_at 632 (by decide +kernel) (by decide +kernel)
theorem m_633 : Cond.selects RX1 yX1_hasKind yX1_hasKind ∈ Ug := Ug_at 633 (by decide +kernel) (by decide +kernel)
theorem m_634 : Cond.code yX1_hasKind cX1_hasKind 2 (some .boolean) ∈ Ug := Ug_at 634 (by decide +kernel) (by decide +kernel)
theorem m_642 : Cond.methodLink RL 105 yX1_lowestKind ∈ Ug := Ug_at 642 (by decide +kernel) (by decide +kernel)
theorem m_643 : Cond.instanceMethod yX1_lowestKind ∈ Ug := Ug_at 643 (by decide +kernel) (by decide +kernel)
theorem m_644 : Cond.selects RX1 yX1_lowestKind yX1_lowestKind ∈ Ug := Ug_at 644 (by decide +kernel) (by decide +kernel)
theorem m_645 : Cond.code yX1_lowestKind cX1_lowestKind 2 (some .int) ∈ Ug := Ug_at 645 (by decide +kernel) (by decide +kernel)
theorem m_650 : Cond.methodLink RL 109 yX1_setVariables ∈ Ug := Ug_at 650 (by decide +kernel) (by decide +kernel)
theorem m_651 : Cond.instanceMethod yX1_setVariables ∈ Ug := Ug_at 651 (by decide +kernel) (by decide +kernel)
theorem m_652 : Cond.selects RX1 yX1_setVariables yX1_setVariables ∈ Ug := Ug_at 652 (by decide +kernel) (by decide +kernel)
theorem m_653 : Cond.code yX1_setVariables cX1_setVariables 3 (some .int) ∈ Ug := Ug_at 653 (by decide +kernel) (by decide +kernel)
theorem m_658 : Cond.methodLink RL 112 yX1_addConstraint ∈ Ug := Ug_at 658 (by decide +kernel) (by decide +kernel)
theorem m_659 : Cond.instanceMethod yX1_addConstraint ∈ Ug := Ug_at 659 (by decide +kernel) (by decide +kernel)
theorem m_660 : Cond.selects RX1 yX1_addConstraint yX1_addConstraint ∈ Ug := Ug_at 660 (by decide +kernel) (by decide +kernel)
theorem m_661 : Cond.code yX1_addConstraint cX1_addConstraint 8 (some .int) ∈ Ug := Ug_at 661 (by decide +kernel) (by decide +kernel)
theorem m_678 : Cond.methodLink RL 115 yX1_removeLastConstraint ∈ Ug := Ug_at 678 (by decide +kernel) (by decide +kernel)
theorem m_679 : Cond.instanceMethod yX1_removeLastConstraint ∈ Ug := Ug_at 679 (by decide +kernel) (by decide +kernel)
theorem m_680 : Cond.selects RX1 yX1_removeLastConstraint yX1_removeLastConstraint ∈ Ug := Ug_at 680 (by decide +kernel) (by decide +kernel)
theorem m_681 : Cond.code yX1_removeLastConstraint cX1_removeLastConstraint 1 (some .int) ∈ Ug := Ug_at 681 (by decide +kernel) (by decide +kernel)
theorem m_686 : Cond.methodLink RL 118 yX1_solution ∈ Ug := Ug_at 686 (by decide +kernel) (by decide +kernel)
theorem m_687 : Cond.instanceMethod yX1_solution ∈ Ug := Ug_at 687 (by decide +kernel) (by decide +kernel)
theorem m_688 : Cond.selects RX1 yX1_solution yX1_solution ∈ Ug := Ug_at 688 (by decide +kernel) (by decide +kernel)
theorem m_689 : Cond.code yX1_solution cX1_solution 3 (some .int) ∈ Ug := Ug_at 689 (by decide +kernel) (by decide +kernel)
theorem m_701 : Cond.methodLink RL 121 yX1_isForced ∈ Ug := Ug_at 701 (by decide +kernel) (by decide +kernel)
theorem m_702 : Cond.instanceMethod yX1_isForced ∈ Ug := Ug_at 702 (by decide +kernel) (by decide +kernel)
theorem m_703 : Cond.selects RX1 yX1_isForced yX1_isForced ∈ Ug := Ug_at 703 (by decide +kernel) (by decide +kernel)
theorem m_704 : Cond.code yX1_isForced cX1_isForced 3 (some .boolean) ∈ Ug := Ug_at 704 (by decide +kernel) (by decide +kernel)
theorem m_715 : Cond.classLink RL 127 eUO ∈ Ug := Ug_at 715 (by decide +kernel) (by decide +kernel)
theorem m_716 : Cond.methodLink RL 124 yX1_leastSolution ∈ Ug := Ug_at 716 (by decide +kernel) (by decide +kernel)
theorem m_717 : Cond.instanceMethod yX1_leastSolution ∈ Ug := Ug_at 717 (by decide +kernel) (by decide +kernel)
theorem m_718 : Cond.selects RX1 yX1_leastSolution yX1_leastSolution ∈ Ug := Ug_at 718 (by decide +kernel) (by decide +kernel)
theorem m_719 : Cond.code yX1_leastSolution cX1_leastSolution 1 (some .int) ∈ Ug := Ug_at 719 (by decide +kernel) (by decide +kernel)
theorem e_726 : Cond.castable eUO eUO ∈ Ue := Ue_at 726 (by decide +kernel) rfl
theorem m_752 : Cond.methodLink RL 129 yX1_greatestSolution ∈ Ug := Ug_at 752 (by decide +kernel) (by decide +kernel)
theorem m_753 : Cond.instanceMethod yX1_greatestSolution ∈ Ug := Ug_at 753 (by decide +kernel) (by decide +kernel)
theorem m_754 : Cond.selects RX1 yX1_greatestSolution yX1_greatestSolution ∈ Ug := Ug_at 754 (by decide +kernel) (by decide +kernel)
theorem m_755 : Cond.code yX1_greatestSolution cX1_greatestSolution 1 (some .int) ∈ Ug := Ug_at 755 (by decide +kernel) (by decide +kernel)
theorem m_759 : Cond.methodLink RL 132 yX1_implies ∈ Ug := Ug_at 759 (by decide +kernel) (by decide +kernel)
theorem m_760 : Cond.instanceMethod yX1_implies ∈ Ug := Ug_at 760 (by decide +kernel) (by decide +kernel)
theorem m_761 : Cond.selects RX1 yX1_implies yX1_implies ∈ Ug := Ug_at 761 (by decide +kernel) (by decide +kernel)
theorem m_762 : Cond.code yX1_implies cX1_implies 5 (some .boolean) ∈ Ug := Ug_at 762 (by decide +kernel) (by decide +kernel)
theorem m_770 : Cond.methodLink RL 136 yX1_dimension ∈ Ug := Ug_at 770 (by decide +kernel) (by decide +kernel)
theorem m_771 : Cond.instanceMethod yX1_dimension ∈ Ug := Ug_at 771 (by decide +kernel) (by decide +kernel)
theorem m_772 : Cond.selects RX1 yX1_dimension yX1_dimension ∈ Ug := Ug_at 772 (by decide +kernel) (by decide +kernel)
theorem m_773 : Cond.code yX1_dimension cX1_dimension 1 (some .int) ∈ Ug := Ug_at 773 (by decide +kernel) (by decide +kernel)
theorem m_777 : Cond.methodLink RL 139 yX1_define ∈ Ug := Ug_at 777 (by decide +kernel) (by decide +kernel)
theorem m_778 : Cond.instanceMethod yX1_define ∈ Ug := Ug_at 778 (by decide +kernel) (by decide +kernel)
theorem m_779 : Cond.selects RX1 yX1_define yX1_define ∈ Ug := Ug_at 779 (by decide +kernel) (by decide +kernel)
theorem m_780 : Cond.code yX1_define cX1_define 6 (some .int) ∈ Ug := Ug_at 780 (by decide +kernel) (by decide +kernel)
theorem m_789 : Cond.methodLink RL 142 yX1_firstViolated ∈ Ug := Ug_at 789 (by decide +kernel) (by decide +kernel)
theorem m_790 : Cond.instanceMethod yX1_firstViolated ∈ Ug := Ug_at 790 (by decide +kernel) (by decide +kernel)
theorem m_791 : Cond.selects RX1 yX1_firstViolated yX1_firstViolated ∈ Ug := Ug_at 791 (by decide +kernel) (by decide +kernel)
theorem m_792 : Cond.code yX1_firstViolated cX1_firstViolated 3 (some .int) ∈ Ug := Ug_at 792 (by decide +kernel) (by decide +kernel)
theorem m_802 : Cond.methodLink RL 145 yX1_isRedundant ∈ Ug := Ug_at 802 (by decide +kernel) (by decide +kernel)
theorem m_803 : Cond.instanceMethod yX1_isRedundant ∈ Ug := Ug_at 803 (by decide +kernel) (by decide +kernel)
theorem m_804 : Cond.selects RX1 yX1_isRedundant yX1_isRedundant ∈ Ug := Ug_at 804 (by decide +kernel) (by decide +kernel)
theorem m_805 : Cond.code yX1_isRedundant cX1_isRedundant 2 (some .boolean) ∈ Ug := Ug_at 805 (by decide +kernel) (by decide +kernel)
theorem m_810 : Cond.methodLink RL 148 yX1_append ∈ Ug := Ug_at 810 (by decide +kernel) (by decide +kernel)
theorem m_811 : Cond.instanceMethod yX1_append ∈ Ug := Ug_at 811 (by decide +kernel) (by decide +kernel)
theorem m_812 : Cond.selects RX1 yX1_append yX1_append ∈ Ug := Ug_at 812 (by decide +kernel) (by decide +kernel)
theorem m_813 : Cond.code yX1_append cX1_append 2 (some .int) ∈ Ug := Ug_at 813 (by decide +kernel) (by decide +kernel)
theorem m_819 : Cond.methodLink RL 152 yX1_parse ∈ Ug := Ug_at 819 (by decide +kernel) (by decide +kernel)
theorem m_820 : Cond.instanceMethod yX1_parse ∈ Ug := Ug_at 820 (by decide +kernel) (by decide +kernel)
theorem m_821 : Cond.selects RX1 yX1_parse yX1_parse ∈ Ug := Ug_at 821 (by decide +kernel) (by decide +kernel)
theorem m_822 : Cond.code yX1_parse cX1_parse 4 (some .int) ∈ Ug := Ug_at 822 (by decide +kernel) (by decide +kernel)
theorem m_845 : Cond.methodLink RL 155 yX1_errorPosition ∈ Ug := Ug_at 845 (by decide +kernel) (by decide +kernel)
theorem m_846 : Cond.instanceMethod yX1_errorPosition ∈ Ug := Ug_at 846 (by decide +kernel) (by decide +kernel)
theorem m_847 : Cond.selects RX1 yX1_errorPosition yX1_errorPosition ∈ Ug := Ug_at 847 (by decide +kernel) (by decide +kernel)
theorem m_848 : Cond.code yX1_errorPosition cX1_errorPosition 1 (some .int) ∈ Ug := Ug_at 848 (by decide +kernel) (by decide +kernel)
theorem m_853 : Cond.methodLink RL 158 yX1_write ∈ Ug := Ug_at 853 (by decide +kernel) (by decide +kernel)
theorem m_854 : Cond.instanceMethod yX1_write ∈ Ug := Ug_at 854 (by decide +kernel) (by decide +kernel)
theorem m_855 : Cond.selects RX1 yX1_write yX1_write ∈ Ug := Ug_at 855 (by decide +kernel) (by decide +kernel)
theorem m_856 : Cond.code yX1_write cX1_write 4 (some .int) ∈ Ug := Ug_at 856 (by decide +kernel) (by decide +kernel)
theorem m_868 : Cond.methodLink RL 161 yX1_outputAt ∈ Ug := Ug_at 868 (by decide +kernel) (by decide +kernel)
theorem m_869 : Cond.instanceMethod yX1_outputAt ∈ Ug := Ug_at 869 (by decide +kernel) (by decide +kernel)
theorem m_870 : Cond.selects RX1 yX1_outputAt yX1_outputAt ∈ Ug := Ug_at 870 (by decide +kernel) (by decide +kernel)
theorem m_871 : Cond.code yX1_outputAt cX1_outputAt 2 (some .char) ∈ Ug := Ug_at 871 (by decide +kernel) (by decide +kernel)
theorem m_876 : Cond.methodLink RL 165 yX1_storeFlags ∈ Ug := Ug_at 876 (by decide +kernel) (by decide +kernel)
theorem m_877 : Cond.instanceMethod yX1_storeFlags ∈ Ug := Ug_at 877 (by decide +kernel) (by decide +kernel)
theorem m_878 : Cond.selects RX1 yX1_storeFlags yX1_storeFlags ∈ Ug := Ug_at 878 (by decide +kernel) (by decide +kernel)
theorem m_879 : Cond.code yX1_storeFlags cX1_storeFlags 4 (some .int) ∈ Ug := Ug_at 879 (by decide +kernel) (by decide +kernel)
theorem m_888 : Cond.methodLink RL 168 yX1_setFlag ∈ Ug := Ug_at 888 (by decide +kernel) (by decide +kernel)
theorem m_889 : Cond.instanceMethod yX1_setFlag ∈ Ug := Ug_at 889 (by decide +kernel) (by decide +kernel)
theorem m_890 : Cond.selects RX1 yX1_setFlag yX1_setFlag ∈ Ug := Ug_at 890 (by decide +kernel) (by decide +kernel)
theorem m_891 : Cond.code yX1_setFlag cX1_setFlag 5 (some .boolean) ∈ Ug := Ug_at 891 (by decide +kernel) (by decide +kernel)
theorem m_901 : Cond.methodLink RL 172 yX1_takeFlags ∈ Ug := Ug_at 901 (by decide +kernel) (by decide +kernel)
theorem m_902 : Cond.instanceMethod yX1_takeFlags ∈ Ug := Ug_at 902 (by decide +kernel) (by decide +kernel)
theorem m_903 : Cond.selects RX1 yX1_takeFlags yX1_takeFlags ∈ Ug := Ug_at 903 (by decide +kernel) (by decide +kernel)
theorem m_904 : Cond.code yX1_takeFlags cX1_takeFlags 3 (some .int) ∈ Ug := Ug_at 904 (by decide +kernel) (by decide +kernel)
theorem m_908 : Cond.methodLink RL 175 yX1_restoreSnapshot ∈ Ug := Ug_at 908 (by decide +kernel) (by decide +kernel)
theorem m_909 : Cond.instanceMethod yX1_restoreSnapshot ∈ Ug := Ug_at 909 (by decide +kernel) (by decide +kernel)
theorem m_910 : Cond.selects RX1 yX1_restoreSnapshot yX1_restoreSnapshot ∈ Ug := Ug_at 910 (by decide +kernel) (by decide +kernel)
theorem m_911 : Cond.code yX1_restoreSnapshot cX1_restoreSnapshot 1 (some .int) ∈ Ug := Ug_at 911 (by decide +kernel) (by decide +kernel)
theorem dL_addClause_0 : decode cL_addClause 0 = .ok (.aload_n 3, 1) := by decide +kernel
theorem dL_addClause_1 : decode cL_addClause 1 = .ok (.iconst 0, 1) := by decide +kernel
theorem dL_addClause_10 : decode cL_addClause 10 = .ok (.goto 11, 3) := by decide +kernel
theorem dL_addClause_13 : decode cL_addClause 13 = .ok (.astore 4, 2) := by decide +kernel
theorem dL_addClause_15 : decode cL_addClause 15 = .ok (.iconst 1, 1) := by decide +kernel
theorem dL_addClause_16 : decode cL_addClause 16 = .ok (.ireturn, 1) := by decide +kernel
theorem dL_addClause_17 : decode cL_addClause 17 = .ok (.astore 4, 2) := by decide +kernel
theorem dL_addClause_19 : decode cL_addClause 19 = .ok (.iconst 2, 1) := by decide +kernel
theorem dL_addClause_2 : decode cL_addClause 2 = .ok (.aload_n 0, 1) := by decide +kernel
theorem dL_addClause_20 : decode cL_addClause 20 = .ok (.ireturn, 1) := by decide +kernel
theorem dL_addClause_21 : decode cL_addClause 21 = .ok (.iconst 0, 1) := by decide +kernel
theorem dL_addClause_22 : decode cL_addClause 22 = .ok (.ireturn, 1) := by decide +kernel
theorem dL_addClause_3 : decode cL_addClause 3 = .ok (.iload_n 1, 1) := by decide +kernel
theorem dL_addClause_4 : decode cL_addClause 4 = .ok (.iload_n 2, 1) := by decide +kernel
theorem dL_addClause_5 : decode cL_addClause 5 = .ok (.invokevirtual 17, 3) := by decide +kernel
theorem dL_addClause_8 : decode cL_addClause 8 = .ok (.i2l, 1) := by decide +kernel
theorem dL_addClause_9 : decode cL_addClause 9 = .ok (.lastore, 1) := by decide +kernel
theorem dL_addComplement_0 : decode cL_addComplement 0 = .ok (.aload_n 2, 1) := by decide +kernel
theorem dL_addComplement_1 : decode cL_addComplement 1 = .ok (.iconst 0, 1) := by decide +kernel
theorem dL_addComplement_12 : decode cL_addComplement 12 = .ok (.astore_n 3, 1) := by decide +kernel
theorem dL_addComplement_13 : decode cL_addComplement 13 = .ok (.iconst 1, 1) := by decide +kernel
theorem dL_addComplement_14 : decode cL_addComplement 14 = .ok (.ireturn, 1) := by decide +kernel
theorem dL_addComplement_15 : decode cL_addComplement 15 = .ok (.astore_n 3, 1) := by decide +kernel
theorem dL_addComplement_16 : decode cL_addComplement 16 = .ok (.iconst 2, 1) := by decide +kernel
theorem dL_addComplement_17 : decode cL_addComplement 17 = .ok (.ireturn, 1) := by decide +kernel
theorem dL_addComplement_18 : decode cL_addComplement 18 = .ok (.iconst 0, 1) := by decide +kernel
theorem dL_addComplement_19 : decode cL_addComplement 19 = .ok (.ireturn, 1) := by decide +kernel
theorem dL_addComplement_2 : decode cL_addComplement 2 = .ok (.aload_n 0, 1) := by decide +kernel
theorem dL_addComplement_3 : decode cL_addComplement 3 = .ok (.iload_n 1, 1) := by decide +kernel
theorem dL_addComplement_4 : decode cL_addComplement 4 = .ok (.invokevirtual 45, 3) := by decide +kernel
theorem dL_addComplement_7 : decode cL_addComplement 7 = .ok (.i2l, 1) := by decide +kernel
theorem dL_addComplement_8 : decode cL_addComplement 8 = .ok (.lastore, 1) := by decide +kernel
theorem dL_addComplement_9 : decode cL_addComplement 9 = .ok (.goto 9, 3) := by decide +kernel
theorem dL_addConstraint_0 : decode cL_addConstraint 0 = .ok (.aload 6, 2) := by decide +kernel
theorem dL_addConstraint_11 : decode cL_addConstraint 11 = .ok (.invokevirtual 112, 3) := by decide +kernel
theorem dL_addConstraint_14 : decode cL_addConstraint 14 = .ok (.i2l, 1) := by decide +kernel
theorem dL_addConstraint_15 : decode cL_addConstraint 15 = .ok (.lastore, 1) := by decide +kernel
theorem dL_addConstraint_16 : decode cL_addConstraint 16 = .ok (.goto 11, 3) := by decide +kernel
theorem dL_addConstraint_19 : decode cL_addConstraint 19 = .ok (.astore 7, 2) := by decide +kernel
theorem dL_addConstraint_2 : decode cL_addConstraint 2 = .ok (.iconst 0, 1) := by decide +kernel
theorem dL_addConstraint_21 : decode cL_addConstraint 21 = .ok (.iconst 1, 1) := by decide +kernel
theorem dL_addConstraint_22 : decode cL_addConstraint 22 = .ok (.ireturn, 1) := by decide +kernel
theorem dL_addConstraint_23 : decode cL_addConstraint 23 = .ok (.astore 7, 2) := by decide +kernel
theorem dL_addConstraint_25 : decode cL_addConstraint 25 = .ok (.iconst 2, 1) := by decide +kernel
theorem dL_addConstraint_26 : decode cL_addConstraint 26 = .ok (.ireturn, 1) := by decide +kernel
theorem dL_addConstraint_27 : decode cL_addConstraint 27 = .ok (.iconst 0, 1) := by decide +kernel
theorem dL_addConstraint_28 : decode cL_addConstraint 28 = .ok (.ireturn, 1) := by decide +kernel
theorem dL_addConstraint_3 : decode cL_addConstraint 3 = .ok (.aload_n 0, 1) := by decide +kernel
theorem dL_addConstraint_4 : decode cL_addConstraint 4 = .ok (.iload_n 1, 1) := by decide +kernel
theorem dL_addConstraint_5 : decode cL_addConstraint 5 = .ok (.iload_n 2, 1) := by decide +kernel
theorem dL_addConstraint_6 : decode cL_addConstraint 6 = .ok (.iload_n 3, 1) := by decide +kernel
theorem dL_addConstraint_7 : decode cL_addConstraint 7 = .ok (.iload 4, 2) := by decide +kernel
theorem dL_addConstraint_9 : decode cL_addConstraint 9 = .ok (.iload 5, 2) := by decide +kernel
theorem dL_addExchanged_0 : decode cL_addExchanged 0 = .ok (.aload 4, 2) := by decide +kernel
theorem dL_addExchanged_10 : decode cL_addExchanged 10 = .ok (.i2l, 1) := by decide +kernel
theorem dL_addExchanged_11 : decode cL_addExchanged 11 = .ok (.lastore, 1) := by decide +kernel
theorem dL_addExchanged_12 : decode cL_addExchanged 12 = .ok (.goto 11, 3) := by decide +kernel
theorem dL_addExchanged_15 : decode cL_addExchanged 15 = .ok (.astore 5, 2) := by decide +kernel
theorem dL_addExchanged_17 : decode cL_addExchanged 17 = .ok (.iconst 1, 1) := by decide +kernel
theorem dL_addExchanged_18 : decode cL_addExchanged 18 = .ok (.ireturn, 1) := by decide +kernel
theorem dL_addExchanged_19 : decode cL_addExchanged 19 = .ok (.astore 5, 2) := by decide +kernel
theorem dL_addExchanged_2 : decode cL_addExchanged 2 = .ok (.iconst 0, 1) := by decide +kernel
theorem dL_addExchanged_21 : decode cL_addExchanged 21 = .ok (.iconst 2, 1) := by decide +kernel
theorem dL_addExchanged_22 : decode cL_addExchanged 22 = .ok (.ireturn, 1) := by decide +kernel
theorem dL_addExchanged_23 : decode cL_addExchanged 23 = .ok (.iconst 0, 1) := by decide +kernel
theorem dL_addExchanged_24 : decode cL_addExchanged 24 = .ok (.ireturn, 1) := by decide +kernel
theorem dL_addExchanged_3 : decode cL_addExchanged 3 = .ok (.aload_n 0, 1) := by decide +kernel
theorem dL_addExchanged_4 : decode cL_addExchanged 4 = .ok (.iload_n 1, 1) := by decide +kernel
theorem dL_addExchanged_5 : decode cL_addExchanged 5 = .ok (.iload_n 2, 1) := by decide +kernel
theorem dL_addExchanged_6 : decode cL_addExchanged 6 = .ok (.iload_n 3, 1) := by decide +kernel
theorem dL_addExchanged_7 : decode cL_addExchanged 7 = .ok (.invokevirtual 54, 3) := by decide +kernel
theorem dL_addIntersection_0 : decode cL_addIntersection 0 = .ok (.aload_n 3, 1) := by decide +kernel
theorem dL_addIntersection_1 : decode cL_addIntersection 1 = .ok (.iconst 0, 1) := by decide +kernel
theorem dL_addIntersection_10 : decode cL_addIntersection 10 = .ok (.goto 15, 3) := by decide +kernel
theorem dL_addIntersection_13 : decode cL_addIntersection 13 = .ok (.astore 4, 2) := by decide +kernel
theorem dL_addIntersection_15 : decode cL_addIntersection 15 = .ok (.iconst 1, 1) := by decide +kernel
theorem dL_addIntersection_16 : decode cL_addIntersection 16 = .ok (.ireturn, 1) := by decide +kernel
theorem dL_addIntersection_17 : decode cL_addIntersection 17 = .ok (.astore 4, 2) := by decide +kernel
theorem dL_addIntersection_19 : decode cL_addIntersection 19 = .ok (.iconst 2, 1) := by decide +kernel
theorem dL_addIntersection_2 : decode cL_addIntersection 2 = .ok (.aload_n 0, 1) := by decide +kernel
theorem dL_addIntersection_20 : decode cL_addIntersection 20 = .ok (.ireturn, 1) := by decide +kernel
theorem dL_addIntersection_21 : decode cL_addIntersection 21 = .ok (.astore 4, 2) := by decide +kernel
theorem dL_addIntersection_23 : decode cL_addIntersection 23 = .ok (.iconst 3, 1) := by decide +kernel
theorem dL_addIntersection_24 : decode cL_addIntersection 24 = .ok (.ireturn, 1) := by decide +kernel
theorem dL_addIntersection_25 : decode cL_addIntersection 25 = .ok (.iconst 0, 1) := by decide +kernel
theorem dL_addIntersection_26 : decode cL_addIntersection 26 = .ok (.ireturn, 1) := by decide +kernel
theorem dL_addIntersection_3 : decode cL_addIntersection 3 = .ok (.iload_n 1, 1) := by decide +kernel
theorem dL_addIntersection_4 : decode cL_addIntersection 4 = .ok (.iload_n 2, 1) := by decide +kernel
theorem dL_addIntersection_5 : decode cL_addIntersection 5 = .ok (.invokevirtual 48, 3) := by decide +kernel
theorem dL_addIntersection_8 : decode cL_addIntersection 8 = .ok (.i2l, 1) := by decide +kernel
theorem dL_addIntersection_9 : decode cL_addIntersection 9 = .ok (.lastore, 1) := by decide +kernel
theorem dL_addParity_0 : decode cL_addParity 0 = .ok (.aload_n 3, 1) := by decide +kernel
theorem dL_addParity_1 : decode cL_addParity 1 = .ok (.iconst 0, 1) := by decide +kernel
theorem dL_addParity_10 : decode cL_addParity 10 = .ok (.goto 11, 3) := by decide +kernel
theorem dL_addParity_13 : decode cL_addParity 13 = .ok (.astore 4, 2) := by decide +kernel
theorem dL_addParity_15 : decode cL_addParity 15 = .ok (.iconst 1, 1) := by decide +kernel
theorem dL_addParity_16 : decode cL_addParity 16 = .ok (.ireturn, 1) := by decide +kernel
theorem dL_addParity_17 : decode cL_addParity 17 = .ok (.astore 4, 2) := by decide +kernel
theorem dL_addParity_19 : decode cL_addParity 19 = .ok (.iconst 2, 1) := by decide +kernel
theorem dL_addParity_2 : decode cL_addParity 2 = .ok (.aload_n 0, 1) := by decide +kernel
theorem dL_addParity_20 : decode cL_addParity 20 = .ok (.ireturn, 1) := by decide +kernel
theorem dL_addParity_21 : decode cL_addParity 21 = .ok (.iconst 0, 1) := by decide +kernel
theorem dL_addParity_22 : decode cL_addParity 22 = .ok (.ireturn, 1) := by decide +kernel
theorem dL_addParity_3 : decode cL_addParity 3 = .ok (.iload_n 1, 1) := by decide +kernel
theorem dL_addParity_4 : decode cL_addParity 4 = .ok (.iload_n 2, 1) := by decide +kernel
theorem dL_addParity_5 : decode cL_addParity 5 = .ok (.invokevirtual 21, 3) := by decide +kernel
theorem dL_addParity_8 : decode cL_addParity 8 = .ok (.i2l, 1) := by decide +kernel
theorem dL_addParity_9 : decode cL_addParity 9 = .ok (.lastore, 1) := by decide +kernel
theorem dL_addProjection_0 : decode cL_addProjection 0 = .ok (.aload_n 3, 1) := by decide +kernel
theorem dL_addProjection_1 : decode cL_addProjection 1 = .ok (.iconst 0, 1) := by decide +kernel
theorem dL_addProjection_10 : decode cL_addProjection 10 = .ok (.goto 15, 3) := by decide +kernel
theorem dL_addProjection_13 : decode cL_addProjection 13 = .ok (.astore 4, 2) := by decide +kernel
theorem dL_addProjection_15 : decode cL_addProjection 15 = .ok (.iconst 1, 1) := by decide +kernel
theorem dL_addProjection_16 : decode cL_addProjection 16 = .ok (.ireturn, 1) := by decide +kernel
theorem dL_addProjection_17 : decode cL_addProjection 17 = .ok (.astore 4, 2) := by decide +kernel
theorem dL_addProjection_19 : decode cL_addProjection 19 = .ok (.iconst 2, 1) := by decide +kernel
theorem dL_addProjection_2 : decode cL_addProjection 2 = .ok (.aload_n 0, 1) := by decide +kernel
theorem dL_addProjection_20 : decode cL_addProjection 20 = .ok (.ireturn, 1) := by decide +kernel
theorem dL_addProjection_21 : decode cL_addProjection 21 = .ok (.astore 4, 2) := by decide +kernel
theorem dL_addProjection_23 : decode cL_addProjection 23 = .ok (.iconst 3, 1) := by decide +kernel
theorem dL_addProjection_24 : decode cL_addProjection 24 = .ok (.ireturn, 1) := by decide +kernel
theorem dL_addProjection_25 : decode cL_addProjection 25 = .ok (.iconst 0, 1) := by decide +kernel
theorem dL_addProjection_26 : decode cL_addProjection 26 = .ok (.ireturn, 1) := by decide +kernel
theorem dL_addProjection_3 : decode cL_addProjection 3 = .ok (.iload_n 1, 1) := by decide +kernel
theorem dL_addProjection_4 : decode cL_addProjection 4 = .ok (.iload_n 2, 1) := by decide +kernel
theorem dL_addProjection_5 : decode cL_addProjection 5 = .ok (.invokevirtual 51, 3) := by decide +kernel
theorem dL_addProjection_8 : decode cL_addProjection 8 = .ok (.i2l, 1) := by decide +kernel
theorem dL_addProjection_9 : decode cL_addProjection 9 = .ok (.lastore, 1) := by decide +kernel
theorem dL_addRelation_0 : decode cL_addRelation 0 = .ok (.aload_n 2, 1) := by decide +kernel
theorem dL_addRelation_1 : decode cL_addRelation 1 = .ok (.iconst 0, 1) := by decide +kernel
theorem dL_addRelation_12 : decode cL_addRelation 12 = .ok (.astore_n 3, 1) := by decide +kernel
theorem dL_addRelation_13 : decode cL_addRelation 13 = .ok (.iconst 1, 1) := by decide +kernel
theorem dL_addRelation_14 : decode cL_addRelation 14 = .ok (.ireturn, 1) := by decide +kernel
theorem dL_addRelation_15 : decode cL_addRelation 15 = .ok (.astore_n 3, 1) := by decide +kernel
theorem dL_addRelation_16 : decode cL_addRelation 16 = .ok (.iconst 2, 1) := by decide +kernel
theorem dL_addRelation_17 : decode cL_addRelation 17 = .ok (.ireturn, 1) := by decide +kernel
theorem dL_addRelation_18 : decode cL_addRelation 18 = .ok (.iconst 0, 1) := by decide +kernel
theorem dL_addRelation_19 : decode cL_addRelation 19 = .ok (.ireturn, 1) := by decide +kernel
theorem dL_addRelation_2 : decode cL_addRelation 2 = .ok (.aload_n 0, 1) := by decide +kernel
theorem dL_addRelation_3 : decode cL_addRelation 3 = .ok (.iload_n 1, 1) := by decide +kernel
theorem dL_addRelation_4 : decode cL_addRelation 4 = .ok (.invokevirtual 7, 3) := by decide +kernel
theorem dL_addRelation_7 : decode cL_addRelation 7 = .ok (.i2l, 1) := by decide +kernel
theorem dL_addRelation_8 : decode cL_addRelation 8 = .ok (.lastore, 1) := by decide +kernel
theorem dL_addRelation_9 : decode cL_addRelation 9 = .ok (.goto 9, 3) := by decide +kernel
theorem dL_addTuple_0 : decode cL_addTuple 0 = .ok (.aload_n 3, 1) := by decide +kernel
theorem dL_addTuple_1 : decode cL_addTuple 1 = .ok (.iconst 0, 1) := by decide +kernel
theorem dL_addTuple_11 : decode cL_addTuple 11 = .ok (.lconst 1, 1) := by decide +kernel
theorem dL_addTuple_12 : decode cL_addTuple 12 = .ok (.goto 4, 3) := by decide +kernel
theorem dL_addTuple_15 : decode cL_addTuple 15 = .ok (.lconst 0, 1) := by decide +kernel
theorem dL_addTuple_16 : decode cL_addTuple 16 = .ok (.lastore, 1) := by decide +kernel
theorem dL_addTuple_17 : decode cL_addTuple 17 = .ok (.goto 11, 3) := by decide +kernel
theorem dL_addTuple_2 : decode cL_addTuple 2 = .ok (.aload_n 0, 1) := by decide +kernel
theorem dL_addTuple_20 : decode cL_addTuple 20 = .ok (.astore 4, 2) := by decide +kernel
theorem dL_addTuple_22 : decode cL_addTuple 22 = .ok (.iconst 1, 1) := by decide +kernel
theorem dL_addTuple_23 : decode cL_addTuple 23 = .ok (.ireturn, 1) := by decide +kernel
theorem dL_addTuple_24 : decode cL_addTuple 24 = .ok (.astore 4, 2) := by decide +kernel
theorem dL_addTuple_26 : decode cL_addTuple 26 = .ok (.iconst 2, 1) := by decide +kernel
theorem dL_addTuple_27 : decode cL_addTuple 27 = .ok (.ireturn, 1) := by decide +kernel
theorem dL_addTuple_28 : decode cL_addTuple 28 = .ok (.iconst 0, 1) := by decide +kernel
theorem dL_addTuple_29 : decode cL_addTuple 29 = .ok (.ireturn, 1) := by decide +kernel
theorem dL_addTuple_3 : decode cL_addTuple 3 = .ok (.iload_n 1, 1) := by decide +kernel
theorem dL_addTuple_4 : decode cL_addTuple 4 = .ok (.iload_n 2, 1) := by decide +kernel
theorem dL_addTuple_5 : decode cL_addTuple 5 = .ok (.invokevirtual 24, 3) := by decide +kernel
theorem dL_addTuple_8 : decode cL_addTuple 8 = .ok (.ifCond .eq 7, 3) := by decide +kernel
theorem dL_append_0 : decode cL_append 0 = .ok (.aload_n 2, 1) := by decide +kernel
theorem dL_append_1 : decode cL_append 1 = .ok (.iconst 0, 1) := by decide +kernel
theorem dL_append_12 : decode cL_append 12 = .ok (.astore_n 3, 1) := by decide +kernel
theorem dL_append_13 : decode cL_append 13 = .ok (.iconst 1, 1) := by decide +kernel
theorem dL_append_14 : decode cL_append 14 = .ok (.ireturn, 1) := by decide +kernel
theorem dL_append_15 : decode cL_append 15 = .ok (.astore_n 3, 1) := by decide +kernel
theorem dL_append_16 : decode cL_append 16 = .ok (.iconst 2, 1) := by decide +kernel
theorem dL_append_17 : decode cL_append 17 = .ok (.ireturn, 1) := by decide +kernel
theorem dL_append_18 : decode cL_append 18 = .ok (.iconst 0, 1) := by decide +kernel
theorem dL_append_19 : decode cL_append 19 = .ok (.ireturn, 1) := by decide +kernel
theorem dL_append_2 : decode cL_append 2 = .ok (.aload_n 0, 1) := by decide +kernel
theorem dL_append_3 : decode cL_append 3 = .ok (.iload_n 1, 1) := by decide +kernel
theorem dL_append_4 : decode cL_append 4 = .ok (.invokevirtual 148, 3) := by decide +kernel
theorem dL_append_7 : decode cL_append 7 = .ok (.i2l, 1) := by decide +kernel
theorem dL_append_8 : decode cL_append 8 = .ok (.lastore, 1) := by decide +kernel
theorem dL_append_9 : decode cL_append 9 = .ok (.goto 9, 3) := by decide +kernel
theorem dL_apply_0 : decode cL_apply 0 = .ok (.aload 6, 2) := by decide +kernel
theorem dL_apply_11 : decode cL_apply 11 = .ok (.invokevirtual 58, 3) := by decide +kernel
theorem dL_apply_14 : decode cL_apply 14 = .ok (.i2l, 1) := by decide +kernel
theorem dL_apply_15 : decode cL_apply 15 = .ok (.lastore, 1) := by decide +kernel
theorem dL_apply_16 : decode cL_apply 16 = .ok (.goto 7, 3) := by decide +kernel
theorem dL_apply_19 : decode cL_apply 19 = .ok (.astore 7, 2) := by decide +kernel
theorem dL_apply_2 : decode cL_apply 2 = .ok (.iconst 0, 1) := by decide +kernel
theorem dL_apply_21 : decode cL_apply 21 = .ok (.iconst 1, 1) := by decide +kernel
theorem dL_apply_22 : decode cL_apply 22 = .ok (.ireturn, 1) := by decide +kernel
theorem dL_apply_23 : decode cL_apply 23 = .ok (.iconst 0, 1) := by decide +kernel
theorem dL_apply_24 : decode cL_apply 24 = .ok (.ireturn, 1) := by decide +kernel
theorem dL_apply_3 : decode cL_apply 3 = .ok (.aload_n 0, 1) := by decide +kernel
theorem dL_apply_4 : decode cL_apply 4 = .ok (.iload_n 1, 1) := by decide +kernel
theorem dL_apply_5 : decode cL_apply 5 = .ok (.iload_n 2, 1) := by decide +kernel
theorem dL_apply_6 : decode cL_apply 6 = .ok (.iload_n 3, 1) := by decide +kernel
theorem dL_apply_7 : decode cL_apply 7 = .ok (.iload 4, 2) := by decide +kernel
theorem dL_apply_9 : decode cL_apply 9 = .ok (.iload 5, 2) := by decide +kernel
theorem dL_areEqual_0 : decode cL_areEqual 0 = .ok (.aload_n 3, 1) := by decide +kernel
theorem dL_areEqual_1 : decode cL_areEqual 1 = .ok (.iconst 0, 1) := by decide +kernel
theorem dL_areEqual_11 : decode cL_areEqual 11 = .ok (.lconst 1, 1) := by decide +kernel
theorem dL_areEqual_12 : decode cL_areEqual 12 = .ok (.goto 4, 3) := by decide +kernel
theorem dL_areEqual_15 : decode cL_areEqual 15 = .ok (.lconst 0, 1) := by decide +kernel
theorem dL_areEqual_16 : decode cL_areEqual 16 = .ok (.lastore, 1) := by decide +kernel
theorem dL_areEqual_17 : decode cL_areEqual 17 = .ok (.goto 7, 3) := by decide +kernel
theorem dL_areEqual_2 : decode cL_areEqual 2 = .ok (.aload_n 0, 1) := by decide +kernel
theorem dL_areEqual_20 : decode cL_areEqual 20 = .ok (.astore 4, 2) := by decide +kernel
theorem dL_areEqual_22 : decode cL_areEqual 22 = .ok (.iconst 1, 1) := by decide +kernel
theorem dL_areEqual_23 : decode cL_areEqual 23 = .ok (.ireturn, 1) := by decide +kernel
theorem dL_areEqual_24 : decode cL_areEqual 24 = .ok (.iconst 0, 1) := by decide +kernel
theorem dL_areEqual_25 : decode cL_areEqual 25 = .ok (.ireturn, 1) := by decide +kernel
theorem dL_areEqual_3 : decode cL_areEqual 3 = .ok (.iload_n 1, 1) := by decide +kernel
theorem dL_areEqual_4 : decode cL_areEqual 4 = .ok (.iload_n 2, 1) := by decide +kernel
theorem dL_areEqual_5 : decode cL_areEqual 5 = .ok (.invokevirtual 42, 3) := by decide +kernel
theorem dL_areEqual_8 : decode cL_areEqual 8 = .ok (.ifCond .eq 7, 3) := by decide +kernel
theorem dL_arity_0 : decode cL_arity 0 = .ok (.aload_n 2, 1) := by decide +kernel
theorem dL_arity_1 : decode cL_arity 1 = .ok (.iconst 0, 1) := by decide +kernel
theorem dL_arity_12 : decode cL_arity 12 = .ok (.astore_n 3, 1) := by decide +kernel
theorem dL_arity_13 : decode cL_arity 13 = .ok (.iconst 1, 1) := by decide +kernel
theorem dL_arity_14 : decode cL_arity 14 = .ok (.ireturn, 1) := by decide +kernel
theorem dL_arity_15 : decode cL_arity 15 = .ok (.iconst 0, 1) := by decide +kernel
theorem dL_arity_16 : decode cL_arity 16 = .ok (.ireturn, 1) := by decide +kernel
theorem dL_arity_2 : decode cL_arity 2 = .ok (.aload_n 0, 1) := by decide +kernel
theorem dL_arity_3 : decode cL_arity 3 = .ok (.iload_n 1, 1) := by decide +kernel
theorem dL_arity_4 : decode cL_arity 4 = .ok (.invokevirtual 39, 3) := by decide +kernel
theorem dL_arity_7 : decode cL_arity 7 = .ok (.i2l, 1) := by decide +kernel
theorem dL_arity_8 : decode cL_arity 8 = .ok (.lastore, 1) := by decide +kernel
theorem dL_arity_9 : decode cL_arity 9 = .ok (.goto 6, 3) := by decide +kernel
theorem dL_close_0 : decode cL_close 0 = .ok (.aload 4, 2) := by decide +kernel
theorem dL_close_10 : decode cL_close 10 = .ok (.i2l, 1) := by decide +kernel
theorem dL_close_11 : decode cL_close 11 = .ok (.lastore, 1) := by decide +kernel
theorem dL_close_12 : decode cL_close 12 = .ok (.goto 11, 3) := by decide +kernel
theorem dL_close_15 : decode cL_close 15 = .ok (.astore 5, 2) := by decide +kernel
theorem dL_close_17 : decode cL_close 17 = .ok (.iconst 1, 1) := by decide +kernel
theorem dL_close_18 : decode cL_close 18 = .ok (.ireturn, 1) := by decide +kernel
theorem dL_close_19 : decode cL_close 19 = .ok (.astore 5, 2) := by decide +kernel
theorem dL_close_2 : decode cL_close 2 = .ok (.iconst 0, 1) := by decide +kernel
theorem dL_close_21 : decode cL_close 21 = .ok (.iconst 2, 1) := by decide +kernel
theorem dL_close_22 : decode cL_close 22 = .ok (.ireturn, 1) := by decide +kernel
theorem dL_close_23 : decode cL_close 23 = .ok (.iconst 0, 1) := by decide +kernel
theorem dL_close_24 : decode cL_close 24 = .ok (.ireturn, 1) := by decide +kernel
theorem dL_close_3 : decode cL_close 3 = .ok (.aload_n 0, 1) := by decide +kernel
theorem dL_close_4 : decode cL_close 4 = .ok (.iload_n 1, 1) := by decide +kernel
theorem dL_close_5 : decode cL_close 5 = .ok (.iload_n 2, 1) := by decide +kernel
theorem dL_close_6 : decode cL_close 6 = .ok (.iload_n 3, 1) := by decide +kernel
theorem dL_close_7 : decode cL_close 7 = .ok (.invokevirtual 86, 3) := by decide +kernel
theorem dL_compose_0 : decode cL_compose 0 = .ok (.aload 4, 2) := by decide +kernel
theorem dL_compose_10 : decode cL_compose 10 = .ok (.i2l, 1) := by decide +kernel
theorem dL_compose_11 : decode cL_compose 11 = .ok (.lastore, 1) := by decide +kernel
theorem dL_compose_12 : decode cL_compose 12 = .ok (.goto 7, 3) := by decide +kernel
theorem dL_compose_15 : decode cL_compose 15 = .ok (.astore 5, 2) := by decide +kernel
theorem dL_compose_17 : decode cL_compose 17 = .ok (.iconst 1, 1) := by decide +kernel
theorem dL_compose_18 : decode cL_compose 18 = .ok (.ireturn, 1) := by decide +kernel
theorem dL_compose_19 : decode cL_compose 19 = .ok (.iconst 0, 1) := by decide +kernel
theorem dL_compose_2 : decode cL_compose 2 = .ok (.iconst 0, 1) := by decide +kernel
theorem dL_compose_20 : decode cL_compose 20 = .ok (.ireturn, 1) := by decide +kernel
theorem dL_compose_3 : decode cL_compose 3 = .ok (.aload_n 0, 1) := by decide +kernel
theorem dL_compose_4 : decode cL_compose 4 = .ok (.iload_n 1, 1) := by decide +kernel
theorem dL_compose_5 : decode cL_compose 5 = .ok (.iload_n 2, 1) := by decide +kernel
theorem dL_compose_6 : decode cL_compose 6 = .ok (.iload_n 3, 1) := by decide +kernel
theorem dL_compose_7 : decode cL_compose 7 = .ok (.invokevirtual 95, 3) := by decide +kernel
theorem dL_contains_0 : decode cL_contains 0 = .ok (.aload_n 3, 1) := by decide +kernel
theorem dL_contains_1 : decode cL_contains 1 = .ok (.iconst 0, 1) := by decide +kernel
theorem dL_contains_11 : decode cL_contains 11 = .ok (.lconst 1, 1) := by decide +kernel
theorem dL_contains_12 : decode cL_contains 12 = .ok (.goto 4, 3) := by decide +kernel
theorem dL_contains_15 : decode cL_contains 15 = .ok (.lconst 0, 1) := by decide +kernel
theorem dL_contains_16 : decode cL_contains 16 = .ok (.lastore, 1) := by decide +kernel
theorem dL_contains_17 : decode cL_contains 17 = .ok (.goto 11, 3) := by decide +kernel
theorem dL_contains_2 : decode cL_contains 2 = .ok (.aload_n 0, 1) := by decide +kernel
theorem dL_contains_20 : decode cL_contains 20 = .ok (.astore 4, 2) := by decide +kernel
theorem dL_contains_22 : decode cL_contains 22 = .ok (.iconst 1, 1) := by decide +kernel
theorem dL_contains_23 : decode cL_contains 23 = .ok (.ireturn, 1) := by decide +kernel
theorem dL_contains_24 : decode cL_contains 24 = .ok (.astore 4, 2) := by decide +kernel
theorem dL_contains_26 : decode cL_contains 26 = .ok (.iconst 2, 1) := by decide +kernel
theorem dL_contains_27 : decode cL_contains 27 = .ok (.ireturn, 1) := by decide +kernel
theorem dL_contains_28 : decode cL_contains 28 = .ok (.iconst 0, 1) := by decide +kernel
theorem dL_contains_29 : decode cL_contains 29 = .ok (.ireturn, 1) := by decide +kernel
theorem dL_contains_3 : decode cL_contains 3 = .ok (.iload_n 1, 1) := by decide +kernel
theorem dL_contains_4 : decode cL_contains 4 = .ok (.iload_n 2, 1) := by decide +kernel
theorem dL_contains_5 : decode cL_contains 5 = .ok (.invokevirtual 33, 3) := by decide +kernel
theorem dL_contains_8 : decode cL_contains 8 = .ok (.ifCond .eq 7, 3) := by decide +kernel
theorem dL_define_0 : decode cL_define 0 = .ok (.aload 6, 2) := by decide +kernel
theorem dL_define_11 : decode cL_define 11 = .ok (.invokevirtual 139, 3) := by decide +kernel
theorem dL_define_14 : decode cL_define 14 = .ok (.i2l, 1) := by decide +kernel
theorem dL_define_15 : decode cL_define 15 = .ok (.lastore, 1) := by decide +kernel
theorem dL_define_16 : decode cL_define 16 = .ok (.goto 15, 3) := by decide +kernel
theorem dL_define_19 : decode cL_define 19 = .ok (.astore 7, 2) := by decide +kernel
theorem dL_define_2 : decode cL_define 2 = .ok (.iconst 0, 1) := by decide +kernel
theorem dL_define_21 : decode cL_define 21 = .ok (.iconst 1, 1) := by decide +kernel
theorem dL_define_22 : decode cL_define 22 = .ok (.ireturn, 1) := by decide +kernel
theorem dL_define_23 : decode cL_define 23 = .ok (.astore 7, 2) := by decide +kernel
theorem dL_define_25 : decode cL_define 25 = .ok (.iconst 2, 1) := by decide +kernel
theorem dL_define_26 : decode cL_define 26 = .ok (.ireturn, 1) := by decide +kernel
theorem dL_define_27 : decode cL_define 27 = .ok (.astore 7, 2) := by decide +kernel
theorem dL_define_29 : decode cL_define 29 = .ok (.iconst 3, 1) := by decide +kernel
theorem dL_define_3 : decode cL_define 3 = .ok (.aload_n 0, 1) := by decide +kernel
theorem dL_define_30 : decode cL_define 30 = .ok (.ireturn, 1) := by decide +kernel
theorem dL_define_31 : decode cL_define 31 = .ok (.iconst 0, 1) := by decide +kernel
theorem dL_define_32 : decode cL_define 32 = .ok (.ireturn, 1) := by decide +kernel
theorem dL_define_4 : decode cL_define 4 = .ok (.iload_n 1, 1) := by decide +kernel
theorem dL_define_5 : decode cL_define 5 = .ok (.iload_n 2, 1) := by decide +kernel
theorem dL_define_6 : decode cL_define 6 = .ok (.iload_n 3, 1) := by decide +kernel
theorem dL_define_7 : decode cL_define 7 = .ok (.iload 4, 2) := by decide +kernel
theorem dL_define_9 : decode cL_define 9 = .ok (.iload 5, 2) := by decide +kernel
theorem dL_dependsOn_0 : decode cL_dependsOn 0 = .ok (.aload 4, 2) := by decide +kernel
theorem dL_dependsOn_10 : decode cL_dependsOn 10 = .ok (.ifCond .eq 7, 3) := by decide +kernel
theorem dL_dependsOn_13 : decode cL_dependsOn 13 = .ok (.lconst 1, 1) := by decide +kernel
theorem dL_dependsOn_14 : decode cL_dependsOn 14 = .ok (.goto 4, 3) := by decide +kernel
theorem dL_dependsOn_17 : decode cL_dependsOn 17 = .ok (.lconst 0, 1) := by decide +kernel
theorem dL_dependsOn_18 : decode cL_dependsOn 18 = .ok (.lastore, 1) := by decide +kernel
theorem dL_dependsOn_19 : decode cL_dependsOn 19 = .ok (.goto 11, 3) := by decide +kernel
theorem dL_dependsOn_2 : decode cL_dependsOn 2 = .ok (.iconst 0, 1) := by decide +kernel
theorem dL_dependsOn_22 : decode cL_dependsOn 22 = .ok (.astore 5, 2) := by decide +kernel
theorem dL_dependsOn_24 : decode cL_dependsOn 24 = .ok (.iconst 1, 1) := by decide +kernel
theorem dL_dependsOn_25 : decode cL_dependsOn 25 = .ok (.ireturn, 1) := by decide +kernel
theorem dL_dependsOn_26 : decode cL_dependsOn 26 = .ok (.astore 5, 2) := by decide +kernel
theorem dL_dependsOn_28 : decode cL_dependsOn 28 = .ok (.iconst 2, 1) := by decide +kernel
theorem dL_dependsOn_29 : decode cL_dependsOn 29 = .ok (.ireturn, 1) := by decide +kernel
theorem dL_dependsOn_3 : decode cL_dependsOn 3 = .ok (.aload_n 0, 1) := by decide +kernel
theorem dL_dependsOn_30 : decode cL_dependsOn 30 = .ok (.iconst 0, 1) := by decide +kernel
theorem dL_dependsOn_31 : decode cL_dependsOn 31 = .ok (.ireturn, 1) := by decide +kernel
theorem dL_dependsOn_4 : decode cL_dependsOn 4 = .ok (.iload_n 1, 1) := by decide +kernel
theorem dL_dependsOn_5 : decode cL_dependsOn 5 = .ok (.iload_n 2, 1) := by decide +kernel
theorem dL_dependsOn_6 : decode cL_dependsOn 6 = .ok (.iload_n 3, 1) := by decide +kernel
theorem dL_dependsOn_7 : decode cL_dependsOn 7 = .ok (.invokevirtual 92, 3) := by decide +kernel
theorem dL_dimension_0 : decode cL_dimension 0 = .ok (.aload_n 1, 1) := by decide +kernel
theorem dL_dimension_1 : decode cL_dimension 1 = .ok (.iconst 0, 1) := by decide +kernel
theorem dL_dimension_11 : decode cL_dimension 11 = .ok (.astore_n 2, 1) := by decide +kernel
theorem dL_dimension_12 : decode cL_dimension 12 = .ok (.iconst 1, 1) := by decide +kernel
theorem dL_dimension_13 : decode cL_dimension 13 = .ok (.ireturn, 1) := by decide +kernel
theorem dL_dimension_14 : decode cL_dimension 14 = .ok (.astore_n 2, 1) := by decide +kernel
theorem dL_dimension_15 : decode cL_dimension 15 = .ok (.iconst 2, 1) := by decide +kernel
theorem dL_dimension_16 : decode cL_dimension 16 = .ok (.ireturn, 1) := by decide +kernel
theorem dL_dimension_17 : decode cL_dimension 17 = .ok (.iconst 0, 1) := by decide +kernel
theorem dL_dimension_18 : decode cL_dimension 18 = .ok (.ireturn, 1) := by decide +kernel
theorem dL_dimension_2 : decode cL_dimension 2 = .ok (.aload_n 0, 1) := by decide +kernel
theorem dL_dimension_3 : decode cL_dimension 3 = .ok (.invokevirtual 136, 3) := by decide +kernel
theorem dL_dimension_6 : decode cL_dimension 6 = .ok (.i2l, 1) := by decide +kernel
theorem dL_dimension_7 : decode cL_dimension 7 = .ok (.lastore, 1) := by decide +kernel
theorem dL_dimension_8 : decode cL_dimension 8 = .ok (.goto 9, 3) := by decide +kernel
theorem dL_dual_0 : decode cL_dual 0 = .ok (.aload_n 3, 1) := by decide +kernel
theorem dL_dual_1 : decode cL_dual 1 = .ok (.iconst 0, 1) := by decide +kernel
theorem dL_dual_10 : decode cL_dual 10 = .ok (.goto 7, 3) := by decide +kernel
theorem dL_dual_13 : decode cL_dual 13 = .ok (.astore 4, 2) := by decide +kernel
theorem dL_dual_15 : decode cL_dual 15 = .ok (.iconst 1, 1) := by decide +kernel
theorem dL_dual_16 : decode cL_dual 16 = .ok (.ireturn, 1) := by decide +kernel
theorem dL_dual_17 : decode cL_dual 17 = .ok (.iconst 0, 1) := by decide +kernel
theorem dL_dual_18 : decode cL_dual 18 = .ok (.ireturn, 1) := by decide +kernel
theorem dL_dual_2 : decode cL_dual 2 = .ok (.aload_n 0, 1) := by decide +kernel
theorem dL_dual_3 : decode cL_dual 3 = .ok (.iload_n 1, 1) := by decide +kernel
theorem dL_dual_4 : decode cL_dual 4 = .ok (.iload_n 2, 1) := by decide +kernel
theorem dL_dual_5 : decode cL_dual 5 = .ok (.invokevirtual 89, 3) := by decide +kernel
theorem dL_dual_8 : decode cL_dual 8 = .ok (.i2l, 1) := by decide +kernel
theorem dL_dual_9 : decode cL_dual 9 = .ok (.lastore, 1) := by decide +kernel
theorem dL_errorPosition_0 : decode cL_errorPosition 0 = .ok (.aload_n 1, 1) := by decide +kernel
theorem dL_errorPosition_1 : decode cL_errorPosition 1 = .ok (.iconst 0, 1) := by decide +kernel
theorem dL_errorPosition_11 : decode cL_errorPosition 11 = .ok (.astore_n 2, 1) := by decide +kernel
theorem dL_errorPosition_12 : decode cL_errorPosition 12 = .ok (.iconst 1, 1) := by decide +kernel
theorem dL_errorPosition_13 : decode cL_errorPosition 13 = .ok (.ireturn, 1) := by decide +kernel
theorem dL_errorPosition_14 : decode cL_errorPosition 14 = .ok (.iconst 0, 1) := by decide +kernel
theorem dL_errorPosition_15 : decode cL_errorPosition 15 = .ok (.ireturn, 1) := by decide +kernel
theorem dL_errorPosition_2 : decode cL_errorPosition 2 = .ok (.aload_n 0, 1) := by decide +kernel
theorem dL_errorPosition_3 : decode cL_errorPosition 3 = .ok (.invokevirtual 155, 3) := by decide +kernel
theorem dL_errorPosition_6 : decode cL_errorPosition 6 = .ok (.i2l, 1) := by decide +kernel
theorem dL_errorPosition_7 : decode cL_errorPosition 7 = .ok (.lastore, 1) := by decide +kernel
theorem dL_errorPosition_8 : decode cL_errorPosition 8 = .ok (.goto 6, 3) := by decide +kernel
theorem dL_firstViolated_0 : decode cL_firstViolated 0 = .ok (.aload_n 2, 1) := by decide +kernel
theorem dL_firstViolated_1 : decode cL_firstViolated 1 = .ok (.iconst 0, 1) := by decide +kernel
theorem dL_firstViolated_12 : decode cL_firstViolated 12 = .ok (.astore_n 3, 1) := by decide +kernel
theorem dL_firstViolated_13 : decode cL_firstViolated 13 = .ok (.iconst 1, 1) := by decide +kernel
theorem dL_firstViolated_14 : decode cL_firstViolated 14 = .ok (.ireturn, 1) := by decide +kernel
theorem dL_firstViolated_15 : decode cL_firstViolated 15 = .ok (.astore_n 3, 1) := by decide +kernel
theorem dL_firstViolated_16 : decode cL_firstViolated 16 = .ok (.iconst 2, 1) := by decide +kernel
theorem dL_firstViolated_17 : decode cL_firstViolated 17 = .ok (.ireturn, 1) := by decide +kernel
theorem dL_firstViolated_18 : decode cL_firstViolated 18 = .ok (.iconst 0, 1) := by decide +kernel
theorem dL_firstViolated_19 : decode cL_firstViolated 19 = .ok (.ireturn, 1) := by decide +kernel
theorem dL_firstViolated_2 : decode cL_firstViolated 2 = .ok (.aload_n 0, 1) := by decide +kernel
theorem dL_firstViolated_3 : decode cL_firstViolated 3 = .ok (.iload_n 1, 1) := by decide +kernel
theorem dL_firstViolated_4 : decode cL_firstViolated 4 = .ok (.invokevirtual 142, 3) := by decide +kernel
theorem dL_firstViolated_7 : decode cL_firstViolated 7 = .ok (.i2l, 1) := by decide +kernel
theorem dL_firstViolated_8 : decode cL_firstViolated 8 = .ok (.lastore, 1) := by decide +kernel
theorem dL_firstViolated_9 : decode cL_firstViolated 9 = .ok (.goto 9, 3) := by decide +kernel
theorem dL_greatestSolution_0 : decode cL_greatestSolution 0 = .ok (.aload_n 1, 1) := by decide +kernel
theorem dL_greatestSolution_1 : decode cL_greatestSolution 1 = .ok (.iconst 0, 1) := by decide +kernel
theorem dL_greatestSolution_11 : decode cL_greatestSolution 11 = .ok (.astore_n 2, 1) := by decide +kernel
theorem dL_greatestSolution_12 : decode cL_greatestSolution 12 = .ok (.iconst 1, 1) := by decide +kernel
theorem dL_greatestSolution_13 : decode cL_greatestSolution 13 = .ok (.ireturn, 1) := by decide +kernel
theorem dL_greatestSolution_14 : decode cL_greatestSolution 14 = .ok (.astore_n 2, 1) := by decide +kernel
theorem dL_greatestSolution_15 : decode cL_greatestSolution 15 = .ok (.iconst 2, 1) := by decide +kernel
theorem dL_greatestSolution_16 : decode cL_greatestSolution 16 = .ok (.ireturn, 1) := by decide +kernel
theorem dL_greatestSolution_17 : decode cL_greatestSolution 17 = .ok (.iconst 0, 1) := by decide +kernel
theorem dL_greatestSolution_18 : decode cL_greatestSolution 18 = .ok (.ireturn, 1) := by decide +kernel
theorem dL_greatestSolution_2 : decode cL_greatestSolution 2 = .ok (.aload_n 0, 1) := by decide +kernel
theorem dL_greatestSolution_3 : decode cL_greatestSolution 3 = .ok (.invokevirtual 129, 3) := by decide +kernel
theorem dL_greatestSolution_6 : decode cL_greatestSolution 6 = .ok (.i2l, 1) := by decide +kernel
theorem dL_greatestSolution_7 : decode cL_greatestSolution 7 = .ok (.lastore, 1) := by decide +kernel
theorem dL_greatestSolution_8 : decode cL_greatestSolution 8 = .ok (.goto 9, 3) := by decide +kernel
theorem dL_hasKind_0 : decode cL_hasKind 0 = .ok (.aload_n 2, 1) := by decide +kernel
theorem dL_hasKind_1 : decode cL_hasKind 1 = .ok (.iconst 0, 1) := by decide +kernel
theorem dL_hasKind_10 : decode cL_hasKind 10 = .ok (.lconst 1, 1) := by decide +kernel
theorem dL_hasKind_11 : decode cL_hasKind 11 = .ok (.goto 4, 3) := by decide +kernel
theorem dL_hasKind_14 : decode cL_hasKind 14 = .ok (.lconst 0, 1) := by decide +kernel
theorem dL_hasKind_15 : decode cL_hasKind 15 = .ok (.lastore, 1) := by decide +kernel
theorem dL_hasKind_16 : decode cL_hasKind 16 = .ok (.goto 6, 3) := by decide +kernel
theorem dL_hasKind_19 : decode cL_hasKind 19 = .ok (.astore_n 3, 1) := by decide +kernel
theorem dL_hasKind_2 : decode cL_hasKind 2 = .ok (.aload_n 0, 1) := by decide +kernel
theorem dL_hasKind_20 : decode cL_hasKind 20 = .ok (.iconst 1, 1) := by decide +kernel
theorem dL_hasKind_21 : decode cL_hasKind 21 = .ok (.ireturn, 1) := by decide +kernel
theorem dL_hasKind_22 : decode cL_hasKind 22 = .ok (.iconst 0, 1) := by decide +kernel
theorem dL_hasKind_23 : decode cL_hasKind 23 = .ok (.ireturn, 1) := by decide +kernel
theorem dL_hasKind_3 : decode cL_hasKind 3 = .ok (.iload_n 1, 1) := by decide +kernel
theorem dL_hasKind_4 : decode cL_hasKind 4 = .ok (.invokevirtual 101, 3) := by decide +kernel
theorem dL_hasKind_7 : decode cL_hasKind 7 = .ok (.ifCond .eq 7, 3) := by decide +kernel
theorem dL_implies_0 : decode cL_implies 0 = .ok (.aload 5, 2) := by decide +kernel
theorem dL_implies_12 : decode cL_implies 12 = .ok (.ifCond .eq 7, 3) := by decide +kernel
theorem dL_implies_15 : decode cL_implies 15 = .ok (.lconst 1, 1) := by decide +kernel
theorem dL_implies_16 : decode cL_implies 16 = .ok (.goto 4, 3) := by decide +kernel
theorem dL_implies_19 : decode cL_implies 19 = .ok (.lconst 0, 1) := by decide +kernel
theorem dL_implies_2 : decode cL_implies 2 = .ok (.iconst 0, 1) := by decide +kernel
theorem dL_implies_20 : decode cL_implies 20 = .ok (.lastore, 1) := by decide +kernel
theorem dL_implies_21 : decode cL_implies 21 = .ok (.goto 15, 3) := by decide +kernel
theorem dL_implies_24 : decode cL_implies 24 = .ok (.astore 6, 2) := by decide +kernel
theorem dL_implies_26 : decode cL_implies 26 = .ok (.iconst 1, 1) := by decide +kernel
theorem dL_implies_27 : decode cL_implies 27 = .ok (.ireturn, 1) := by decide +kernel
theorem dL_implies_28 : decode cL_implies 28 = .ok (.astore 6, 2) := by decide +kernel
theorem dL_implies_3 : decode cL_implies 3 = .ok (.aload_n 0, 1) := by decide +kernel
theorem dL_implies_30 : decode cL_implies 30 = .ok (.iconst 2, 1) := by decide +kernel
theorem dL_implies_31 : decode cL_implies 31 = .ok (.ireturn, 1) := by decide +kernel
theorem dL_implies_32 : decode cL_implies 32 = .ok (.astore 6, 2) := by decide +kernel
theorem dL_implies_34 : decode cL_implies 34 = .ok (.iconst 3, 1) := by decide +kernel
theorem dL_implies_35 : decode cL_implies 35 = .ok (.ireturn, 1) := by decide +kernel
theorem dL_implies_36 : decode cL_implies 36 = .ok (.iconst 0, 1) := by decide +kernel
theorem dL_implies_37 : decode cL_implies 37 = .ok (.ireturn, 1) := by decide +kernel
theorem dL_implies_4 : decode cL_implies 4 = .ok (.iload_n 1, 1) := by decide +kernel
theorem dL_implies_5 : decode cL_implies 5 = .ok (.iload_n 2, 1) := by decide +kernel
theorem dL_implies_6 : decode cL_implies 6 = .ok (.iload_n 3, 1) := by decide +kernel
theorem dL_implies_7 : decode cL_implies 7 = .ok (.iload 4, 2) := by decide +kernel
theorem dL_implies_9 : decode cL_implies 9 = .ok (.invokevirtual 132, 3) := by decide +kernel
theorem dL_isForced_0 : decode cL_isForced 0 = .ok (.aload_n 3, 1) := by decide +kernel
theorem dL_isForced_1 : decode cL_isForced 1 = .ok (.iconst 0, 1) := by decide +kernel
theorem dL_isForced_11 : decode cL_isForced 11 = .ok (.lconst 1, 1) := by decide +kernel
theorem dL_isForced_12 : decode cL_isForced 12 = .ok (.goto 4, 3) := by decide +kernel
theorem dL_isForced_15 : decode cL_isForced 15 = .ok (.lconst 0, 1) := by decide +kernel
theorem dL_isForced_16 : decode cL_isForced 16 = .ok (.lastore, 1) := by decide +kernel
theorem dL_isForced_17 : decode cL_isForced 17 = .ok (.goto 11, 3) := by decide +kernel
theorem dL_isForced_2 : decode cL_isForced 2 = .ok (.aload_n 0, 1) := by decide +kernel
theorem dL_isForced_20 : decode cL_isForced 20 = .ok (.astore 4, 2) := by decide +kernel
theorem dL_isForced_22 : decode cL_isForced 22 = .ok (.iconst 1, 1) := by decide +kernel
theorem dL_isForced_23 : decode cL_isForced 23 = .ok (.ireturn, 1) := by decide +kernel
theorem dL_isForced_24 : decode cL_isForced 24 = .ok (.astore 4, 2) := by decide +kernel
theorem dL_isForced_26 : decode cL_isForced 26 = .ok (.iconst 2, 1) := by decide +kernel
theorem dL_isForced_27 : decode cL_isForced 27 = .ok (.ireturn, 1) := by decide +kernel
theorem dL_isForced_28 : decode cL_isForced 28 = .ok (.iconst 0, 1) := by decide +kernel
theorem dL_isForced_29 : decode cL_isForced 29 = .ok (.ireturn, 1) := by decide +kernel
theorem dL_isForced_3 : decode cL_isForced 3 = .ok (.iload_n 1, 1) := by decide +kernel
theorem dL_isForced_4 : decode cL_isForced 4 = .ok (.iload_n 2, 1) := by decide +kernel
theorem dL_isForced_5 : decode cL_isForced 5 = .ok (.invokevirtual 121, 3) := by decide +kernel
theorem dL_isForced_8 : decode cL_isForced 8 = .ok (.ifCond .eq 7, 3) := by decide +kernel
theorem dL_isIdempotent_0 : decode cL_isIdempotent 0 = .ok (.aload_n 3, 1) := by decide +kernel
theorem dL_isIdempotent_1 : decode cL_isIdempotent 1 = .ok (.iconst 0, 1) := by decide +kernel
theorem dL_isIdempotent_11 : decode cL_isIdempotent 11 = .ok (.lconst 1, 1) := by decide +kernel
theorem dL_isIdempotent_12 : decode cL_isIdempotent 12 = .ok (.goto 4, 3) := by decide +kernel
theorem dL_isIdempotent_15 : decode cL_isIdempotent 15 = .ok (.lconst 0, 1) := by decide +kernel
theorem dL_isIdempotent_16 : decode cL_isIdempotent 16 = .ok (.lastore, 1) := by decide +kernel
theorem dL_isIdempotent_17 : decode cL_isIdempotent 17 = .ok (.goto 7, 3) := by decide +kernel
theorem dL_isIdempotent_2 : decode cL_isIdempotent 2 = .ok (.aload_n 0, 1) := by decide +kernel
theorem dL_isIdempotent_20 : decode cL_isIdempotent 20 = .ok (.astore 4, 2) := by decide +kernel
theorem dL_isIdempotent_22 : decode cL_isIdempotent 22 = .ok (.iconst 1, 1) := by decide +kernel
theorem dL_isIdempotent_23 : decode cL_isIdempotent 23 = .ok (.ireturn, 1) := by decide +kernel
theorem dL_isIdempotent_24 : decode cL_isIdempotent 24 = .ok (.iconst 0, 1) := by decide +kernel
theorem dL_isIdempotent_25 : decode cL_isIdempotent 25 = .ok (.ireturn, 1) := by decide +kernel
theorem dL_isIdempotent_3 : decode cL_isIdempotent 3 = .ok (.iload_n 1, 1) := by decide +kernel
theorem dL_isIdempotent_4 : decode cL_isIdempotent 4 = .ok (.iload_n 2, 1) := by decide +kernel
theorem dL_isIdempotent_5 : decode cL_isIdempotent 5 = .ok (.invokevirtual 77, 3) := by decide +kernel
theorem dL_isIdempotent_8 : decode cL_isIdempotent 8 = .ok (.ifCond .eq 7, 3) := by decide +kernel
theorem dL_isMonotone_0 : decode cL_isMonotone 0 = .ok (.aload_n 3, 1) := by decide +kernel
theorem dL_isMonotone_1 : decode cL_isMonotone 1 = .ok (.iconst 0, 1) := by decide +kernel
theorem dL_isMonotone_11 : decode cL_isMonotone 11 = .ok (.lconst 1, 1) := by decide +kernel
theorem dL_isMonotone_12 : decode cL_isMonotone 12 = .ok (.goto 4, 3) := by decide +kernel
theorem dL_isMonotone_15 : decode cL_isMonotone 15 = .ok (.lconst 0, 1) := by decide +kernel
theorem dL_isMonotone_16 : decode cL_isMonotone 16 = .ok (.lastore, 1) := by decide +kernel
theorem dL_isMonotone_17 : decode cL_isMonotone 17 = .ok (.goto 7, 3) := by decide +kernel
theorem dL_isMonotone_2 : decode cL_isMonotone 2 = .ok (.aload_n 0, 1) := by decide +kernel
theorem dL_isMonotone_20 : decode cL_isMonotone 20 = .ok (.astore 4, 2) := by decide +kernel
theorem dL_isMonotone_22 : decode cL_isMonotone 22 = .ok (.iconst 1, 1) := by decide +kernel
theorem dL_isMonotone_23 : decode cL_isMonotone 23 = .ok (.ireturn, 1) := by decide +kernel
theorem dL_isMonotone_24 : decode cL_isMonotone 24 = .ok (.iconst 0, 1) := by decide +kernel
theorem dL_isMonotone_25 : decode cL_isMonotone 25 = .ok (.ireturn, 1) := by decide +kernel
theorem dL_isMonotone_3 : decode cL_isMonotone 3 = .ok (.iload_n 1, 1) := by decide +kernel
theorem dL_isMonotone_4 : decode cL_isMonotone 4 = .ok (.iload_n 2, 1) := by decide +kernel
theorem dL_isMonotone_5 : decode cL_isMonotone 5 = .ok (.invokevirtual 80, 3) := by decide +kernel
theorem dL_isMonotone_8 : decode cL_isMonotone 8 = .ok (.ifCond .eq 7, 3) := by decide +kernel
theorem dL_isPolymorphism_0 : decode cL_isPolymorphism 0 = .ok (.aload_n 3, 1) := by decide +kernel
theorem dL_isPolymorphism_1 : decode cL_isPolymorphism 1 = .ok (.iconst 0, 1) := by decide +kernel
theorem dL_isPolymorphism_11 : decode cL_isPolymorphism 11 = .ok (.lconst 1, 1) := by decide +kernel
theorem dL_isPolymorphism_12 : decode cL_isPolymorphism 12 = .ok (.goto 4, 3) := by decide +kernel
theorem dL_isPolymorphism_15 : decode cL_isPolymorphism 15 = .ok (.lconst 0, 1) := by decide +kernel
theorem dL_isPolymorphism_16 : decode cL_isPolymorphism 16 = .ok (.lastore, 1) := by decide +kernel
theorem dL_isPolymorphism_17 : decode cL_isPolymorphism 17 = .ok (.goto 7, 3) := by decide +kernel
theorem dL_isPolymorphism_2 : decode cL_isPolymorphism 2 = .ok (.aload_n 0, 1) := by decide +kernel
theorem dL_isPolymorphism_20 : decode cL_isPolymorphism 20 = .ok (.astore 4, 2) := by decide +kernel
theorem dL_isPolymorphism_22 : decode cL_isPolymorphism 22 = .ok (.iconst 1, 1) := by decide +kernel
theorem dL_isPolymorphism_23 : decode cL_isPolymorphism 23 = .ok (.ireturn, 1) := by decide +kernel
theorem dL_isPolymorphism_24 : decode cL_isPolymorphism 24 = .ok (.iconst 0, 1) := by decide +kernel
theorem dL_isPolymorphism_25 : decode cL_isPolymorphism 25 = .ok (.ireturn, 1) := by decide +kernel
theorem dL_isPolymorphism_3 : decode cL_isPolymorphism 3 = .ok (.iload_n 1, 1) := by decide +kernel
theorem dL_isPolymorphism_4 : decode cL_isPolymorphism 4 = .ok (.iload_n 2, 1) := by decide +kernel
theorem dL_isPolymorphism_5 : decode cL_isPolymorphism 5 = .ok (.invokevirtual 66, 3) := by decide +kernel
theorem dL_isPolymorphism_8 : decode cL_isPolymorphism 8 = .ok (.ifCond .eq 7, 3) := by decide +kernel
theorem dL_isRedundant_0 : decode cL_isRedundant 0 = .ok (.aload_n 2, 1) := by decide +kernel
theorem dL_isRedundant_1 : decode cL_isRedundant 1 = .ok (.iconst 0, 1) := by decide +kernel
theorem dL_isRedundant_10 : decode cL_isRedundant 10 = .ok (.lconst 1, 1) := by decide +kernel
theorem dL_isRedundant_11 : decode cL_isRedundant 11 = .ok (.goto 4, 3) := by decide +kernel
theorem dL_isRedundant_14 : decode cL_isRedundant 14 = .ok (.lconst 0, 1) := by decide +kernel
theorem dL_isRedundant_15 : decode cL_isRedundant 15 = .ok (.lastore, 1) := by decide +kernel
theorem dL_isRedundant_16 : decode cL_isRedundant 16 = .ok (.goto 6, 3) := by decide +kernel
theorem dL_isRedundant_19 : decode cL_isRedundant 19 = .ok (.astore_n 3, 1) := by decide +kernel
theorem dL_isRedundant_2 : decode cL_isRedundant 2 = .ok (.aload_n 0, 1) := by decide +kernel
theorem dL_isRedundant_20 : decode cL_isRedundant 20 = .ok (.iconst 1, 1) := by decide +kernel
theorem dL_isRedundant_21 : decode cL_isRedundant 21 = .ok (.ireturn, 1) := by decide +kernel
theorem dL_isRedundant_22 : decode cL_isRedundant 22 = .ok (.iconst 0, 1) := by decide +kernel
theorem dL_isRedundant_23 : decode cL_isRedundant 23 = .ok (.ireturn, 1) := by decide +kernel
theorem dL_isRedundant_3 : decode cL_isRedundant 3 = .ok (.iload_n 1, 1) := by decide +kernel
theorem dL_isRedundant_4 : decode cL_isRedundant 4 = .ok (.invokevirtual 145, 3) := by decide +kernel
theorem dL_isRedundant_7 : decode cL_isRedundant 7 = .ok (.ifCond .eq 7, 3) := by decide +kernel
theorem dL_leastSolution_0 : decode cL_leastSolution 0 = .ok (.aload_n 1, 1) := by decide +kernel
theorem dL_leastSolution_1 : decode cL_leastSolution 1 = .ok (.iconst 0, 1) := by decide +kernel
theorem dL_leastSolution_11 : decode cL_leastSolution 11 = .ok (.astore_n 2, 1) := by decide +kernel
theorem dL_leastSolution_12 : decode cL_leastSolution 12 = .ok (.iconst 1, 1) := by decide +kernel
theorem dL_leastSolution_13 : decode cL_leastSolution 13 = .ok (.ireturn, 1) := by decide +kernel
theorem dL_leastSolution_14 : decode cL_leastSolution 14 = .ok (.astore_n 2, 1) := by decide +kernel
theorem dL_leastSolution_15 : decode cL_leastSolution 15 = .ok (.iconst 2, 1) := by decide +kernel
theorem dL_leastSolution_16 : decode cL_leastSolution 16 = .ok (.ireturn, 1) := by decide +kernel
theorem dL_leastSolution_17 : decode cL_leastSolution 17 = .ok (.iconst 0, 1) := by decide +kernel
theorem dL_leastSolution_18 : decode cL_leastSolution 18 = .ok (.ireturn, 1) := by decide +kernel
theorem dL_leastSolution_2 : decode cL_leastSolution 2 = .ok (.aload_n 0, 1) := by decide +kernel
theorem dL_leastSolution_3 : decode cL_leastSolution 3 = .ok (.invokevirtual 124, 3) := by decide +kernel
theorem dL_leastSolution_6 : decode cL_leastSolution 6 = .ok (.i2l, 1) := by decide +kernel
theorem dL_leastSolution_7 : decode cL_leastSolution 7 = .ok (.lastore, 1) := by decide +kernel
theorem dL_leastSolution_8 : decode cL_leastSolution 8 = .ok (.goto 9, 3) := by decide +kernel
theorem dL_lowestKind_0 : decode cL_lowestKind 0 = .ok (.aload_n 1, 1) := by decide +kernel
theorem dL_lowestKind_1 : decode cL_lowestKind 1 = .ok (.iconst 0, 1) := by decide +kernel
theorem dL_lowestKind_11 : decode cL_lowestKind 11 = .ok (.astore_n 2, 1) := by decide +kernel
theorem dL_lowestKind_12 : decode cL_lowestKind 12 = .ok (.iconst 1, 1) := by decide +kernel
theorem dL_lowestKind_13 : decode cL_lowestKind 13 = .ok (.ireturn, 1) := by decide +kernel
theorem dL_lowestKind_14 : decode cL_lowestKind 14 = .ok (.iconst 0, 1) := by decide +kernel
theorem dL_lowestKind_15 : decode cL_lowestKind 15 = .ok (.ireturn, 1) := by decide +kernel
theorem dL_lowestKind_2 : decode cL_lowestKind 2 = .ok (.aload_n 0, 1) := by decide +kernel
theorem dL_lowestKind_3 : decode cL_lowestKind 3 = .ok (.invokevirtual 105, 3) := by decide +kernel
theorem dL_lowestKind_6 : decode cL_lowestKind 6 = .ok (.i2l, 1) := by decide +kernel
theorem dL_lowestKind_7 : decode cL_lowestKind 7 = .ok (.lastore, 1) := by decide +kernel
theorem dL_lowestKind_8 : decode cL_lowestKind 8 = .ok (.goto 6, 3) := by decide +kernel
theorem dL_outputAt_0 : decode cL_outputAt 0 = .ok (.aload_n 2, 1) := by decide +kernel
theorem dL_outputAt_1 : decode cL_outputAt 1 = .ok (.iconst 0, 1) := by decide +kernel
theorem dL_outputAt_12 : decode cL_outputAt 12 = .ok (.astore_n 3, 1) := by decide +kernel
theorem dL_outputAt_13 : decode cL_outputAt 13 = .ok (.iconst 1, 1) := by decide +kernel
theorem dL_outputAt_14 : decode cL_outputAt 14 = .ok (.ireturn, 1) := by decide +kernel
theorem dL_outputAt_15 : decode cL_outputAt 15 = .ok (.iconst 0, 1) := by decide +kernel
theorem dL_outputAt_16 : decode cL_outputAt 16 = .ok (.ireturn, 1) := by decide +kernel
theorem dL_outputAt_2 : decode cL_outputAt 2 = .ok (.aload_n 0, 1) := by decide +kernel
theorem dL_outputAt_3 : decode cL_outputAt 3 = .ok (.iload_n 1, 1) := by decide +kernel
theorem dL_outputAt_4 : decode cL_outputAt 4 = .ok (.invokevirtual 161, 3) := by decide +kernel
theorem dL_outputAt_7 : decode cL_outputAt 7 = .ok (.i2l, 1) := by decide +kernel
theorem dL_outputAt_8 : decode cL_outputAt 8 = .ok (.lastore, 1) := by decide +kernel
theorem dL_outputAt_9 : decode cL_outputAt 9 = .ok (.goto 6, 3) := by decide +kernel
theorem dL_parse_0 : decode cL_parse 0 = .ok (.aload_n 1, 1) := by decide +kernel
theorem dL_parse_1 : decode cL_parse 1 = .ok (.iconst 0, 1) := by decide +kernel
theorem dL_parse_11 : decode cL_parse 11 = .ok (.astore_n 2, 1) := by decide +kernel
theorem dL_parse_12 : decode cL_parse 12 = .ok (.iconst 1, 1) := by decide +kernel
theorem dL_parse_13 : decode cL_parse 13 = .ok (.ireturn, 1) := by decide +kernel
theorem dL_parse_14 : decode cL_parse 14 = .ok (.astore_n 2, 1) := by decide +kernel
theorem dL_parse_15 : decode cL_parse 15 = .ok (.iconst 2, 1) := by decide +kernel
theorem dL_parse_16 : decode cL_parse 16 = .ok (.ireturn, 1) := by decide +kernel
theorem dL_parse_17 : decode cL_parse 17 = .ok (.iconst 0, 1) := by decide +kernel
theorem dL_parse_18 : decode cL_parse 18 = .ok (.ireturn, 1) := by decide +kernel
theorem dL_parse_2 : decode cL_parse 2 = .ok (.aload_n 0, 1) := by decide +kernel
theorem dL_parse_3 : decode cL_parse 3 = .ok (.invokevirtual 152, 3) := by decide +kernel
theorem dL_parse_6 : decode cL_parse 6 = .ok (.i2l, 1) := by decide +kernel
theorem dL_parse_7 : decode cL_parse 7 = .ok (.lastore, 1) := by decide +kernel
theorem dL_parse_8 : decode cL_parse 8 = .ok (.goto 9, 3) := by decide +kernel
theorem dL_polymorphismCount_0 : decode cL_polymorphismCount 0 = .ok (.aload_n 2, 1) := by decide +kernel
theorem dL_polymorphismCount_1 : decode cL_polymorphismCount 1 = .ok (.iconst 0, 1) := by decide +kernel
theorem dL_polymorphismCount_12 : decode cL_polymorphismCount 12 = .ok (.astore_n 3, 1) := by decide +kernel
theorem dL_polymorphismCount_13 : decode cL_polymorphismCount 13 = .ok (.iconst 1, 1) := by decide +kernel
theorem dL_polymorphismCount_14 : decode cL_polymorphismCount 14 = .ok (.ireturn, 1) := by decide +kernel
theorem dL_polymorphismCount_15 : decode cL_polymorphismCount 15 = .ok (.iconst 0, 1) := by decide +kernel
theorem dL_polymorphismCount_16 : decode cL_polymorphismCount 16 = .ok (.ireturn, 1) := by decide +kernel
theorem dL_polymorphismCount_2 : decode cL_polymorphismCount 2 = .ok (.aload_n 0, 1) := by decide +kernel
theorem dL_polymorphismCount_3 : decode cL_polymorphismCount 3 = .ok (.iload_n 1, 1) := by decide +kernel
theorem dL_polymorphismCount_4 : decode cL_polymorphismCount 4 = .ok (.invokevirtual 69, 3) := by decide +kernel
theorem dL_polymorphismCount_7 : decode cL_polymorphismCount 7 = .ok (.i2l, 1) := by decide +kernel
theorem dL_polymorphismCount_8 : decode cL_polymorphismCount 8 = .ok (.lastore, 1) := by decide +kernel
theorem dL_polymorphismCount_9 : decode cL_polymorphismCount 9 = .ok (.goto 6, 3) := by decide +kernel
theorem dL_polymorphism_0 : decode cL_polymorphism 0 = .ok (.aload_n 3, 1) := by decide +kernel
theorem dL_polymorphism_1 : decode cL_polymorphism 1 = .ok (.iconst 0, 1) := by decide +kernel
theorem dL_polymorphism_10 : decode cL_polymorphism 10 = .ok (.goto 11, 3) := by decide +kernel
theorem dL_polymorphism_13 : decode cL_polymorphism 13 = .ok (.astore 4, 2) := by decide +kernel
theorem dL_polymorphism_15 : decode cL_polymorphism 15 = .ok (.iconst 1, 1) := by decide +kernel
theorem dL_polymorphism_16 : decode cL_polymorphism 16 = .ok (.ireturn, 1) := by decide +kernel
theorem dL_polymorphism_17 : decode cL_polymorphism 17 = .ok (.astore 4, 2) := by decide +kernel
theorem dL_polymorphism_19 : decode cL_polymorphism 19 = .ok (.iconst 2, 1) := by decide +kernel
theorem dL_polymorphism_2 : decode cL_polymorphism 2 = .ok (.aload_n 0, 1) := by decide +kernel
theorem dL_polymorphism_20 : decode cL_polymorphism 20 = .ok (.ireturn, 1) := by decide +kernel
theorem dL_polymorphism_21 : decode cL_polymorphism 21 = .ok (.iconst 0, 1) := by decide +kernel
theorem dL_polymorphism_22 : decode cL_polymorphism 22 = .ok (.ireturn, 1) := by decide +kernel
theorem dL_polymorphism_3 : decode cL_polymorphism 3 = .ok (.iload_n 1, 1) := by decide +kernel
theorem dL_polymorphism_4 : decode cL_polymorphism 4 = .ok (.iload_n 2, 1) := by decide +kernel
theorem dL_polymorphism_5 : decode cL_polymorphism 5 = .ok (.invokevirtual 72, 3) := by decide +kernel
theorem dL_polymorphism_8 : decode cL_polymorphism 8 = .ok (.i2l, 1) := by decide +kernel
theorem dL_polymorphism_9 : decode cL_polymorphism 9 = .ok (.lastore, 1) := by decide +kernel
theorem dL_preserves_0 : decode cL_preserves 0 = .ok (.aload 4, 2) := by decide +kernel
theorem dL_preserves_10 : decode cL_preserves 10 = .ok (.ifCond .eq 7, 3) := by decide +kernel
theorem dL_preserves_13 : decode cL_preserves 13 = .ok (.lconst 1, 1) := by decide +kernel
theorem dL_preserves_14 : decode cL_preserves 14 = .ok (.goto 4, 3) := by decide +kernel
theorem dL_preserves_17 : decode cL_preserves 17 = .ok (.lconst 0, 1) := by decide +kernel
theorem dL_preserves_18 : decode cL_preserves 18 = .ok (.lastore, 1) := by decide +kernel
theorem dL_preserves_19 : decode cL_preserves 19 = .ok (.goto 11, 3) := by decide +kernel
theorem dL_preserves_2 : decode cL_preserves 2 = .ok (.iconst 0, 1) := by decide +kernel
theorem dL_preserves_22 : decode cL_preserves 22 = .ok (.astore 5, 2) := by decide +kernel
theorem dL_preserves_24 : decode cL_preserves 24 = .ok (.iconst 1, 1) := by decide +kernel
theorem dL_preserves_25 : decode cL_preserves 25 = .ok (.ireturn, 1) := by decide +kernel
theorem dL_preserves_26 : decode cL_preserves 26 = .ok (.astore 5, 2) := by decide +kernel
theorem dL_preserves_28 : decode cL_preserves 28 = .ok (.iconst 2, 1) := by decide +kernel
theorem dL_preserves_29 : decode cL_preserves 29 = .ok (.ireturn, 1) := by decide +kernel
theorem dL_preserves_3 : decode cL_preserves 3 = .ok (.aload_n 0, 1) := by decide +kernel
theorem dL_preserves_30 : decode cL_preserves 30 = .ok (.iconst 0, 1) := by decide +kernel
theorem dL_preserves_31 : decode cL_preserves 31 = .ok (.ireturn, 1) := by decide +kernel
theorem dL_preserves_4 : decode cL_preserves 4 = .ok (.iload_n 1, 1) := by decide +kernel
theorem dL_preserves_5 : decode cL_preserves 5 = .ok (.iload_n 2, 1) := by decide +kernel
theorem dL_preserves_6 : decode cL_preserves 6 = .ok (.iload_n 3, 1) := by decide +kernel
theorem dL_preserves_7 : decode cL_preserves 7 = .ok (.invokevirtual 62, 3) := by decide +kernel
theorem dL_projectedArgument_0 : decode cL_projectedArgument 0 = .ok (.aload_n 3, 1) := by decide +kernel
theorem dL_projectedArgument_1 : decode cL_projectedArgument 1 = .ok (.iconst 0, 1) := by decide +kernel
theorem dL_projectedArgument_10 : decode cL_projectedArgument 10 = .ok (.goto 11, 3) := by decide +kernel
theorem dL_projectedArgument_13 : decode cL_projectedArgument 13 = .ok (.astore 4, 2) := by decide +kernel
theorem dL_projectedArgument_15 : decode cL_projectedArgument 15 = .ok (.iconst 1, 1) := by decide +kernel
theorem dL_projectedArgument_16 : decode cL_projectedArgument 16 = .ok (.ireturn, 1) := by decide +kernel
theorem dL_projectedArgument_17 : decode cL_projectedArgument 17 = .ok (.astore 4, 2) := by decide +kernel
theorem dL_projectedArgument_19 : decode cL_projectedArgument 19 = .ok (.iconst 2, 1) := by decide +kernel
theorem dL_projectedArgument_2 : decode cL_projectedArgument 2 = .ok (.aload_n 0, 1) := by decide +kernel
theorem dL_projectedArgument_20 : decode cL_projectedArgument 20 = .ok (.ireturn, 1) := by decide +kernel
theorem dL_projectedArgument_21 : decode cL_projectedArgument 21 = .ok (.iconst 0, 1) := by decide +kernel
theorem dL_projectedArgument_22 : decode cL_projectedArgument 22 = .ok (.ireturn, 1) := by decide +kernel
theorem dL_projectedArgument_3 : decode cL_projectedArgument 3 = .ok (.iload_n 1, 1) := by decide +kernel
theorem dL_projectedArgument_4 : decode cL_projectedArgument 4 = .ok (.iload_n 2, 1) := by decide +kernel
theorem dL_projectedArgument_5 : decode cL_projectedArgument 5 = .ok (.invokevirtual 83, 3) := by decide +kernel
theorem dL_projectedArgument_8 : decode cL_projectedArgument 8 = .ok (.i2l, 1) := by decide +kernel
theorem dL_projectedArgument_9 : decode cL_projectedArgument 9 = .ok (.lastore, 1) := by decide +kernel
theorem dL_relationHasKind_0 : decode cL_relationHasKind 0 = .ok (.aload_n 3, 1) := by decide +kernel
theorem dL_relationHasKind_1 : decode cL_relationHasKind 1 = .ok (.iconst 0, 1) := by decide +kernel
theorem dL_relationHasKind_11 : decode cL_relationHasKind 11 = .ok (.lconst 1, 1) := by decide +kernel
theorem dL_relationHasKind_12 : decode cL_relationHasKind 12 = .ok (.goto 4, 3) := by decide +kernel
theorem dL_relationHasKind_15 : decode cL_relationHasKind 15 = .ok (.lconst 0, 1) := by decide +kernel
theorem dL_relationHasKind_16 : decode cL_relationHasKind 16 = .ok (.lastore, 1) := by decide +kernel
theorem dL_relationHasKind_17 : decode cL_relationHasKind 17 = .ok (.goto 11, 3) := by decide +kernel
theorem dL_relationHasKind_2 : decode cL_relationHasKind 2 = .ok (.aload_n 0, 1) := by decide +kernel
theorem dL_relationHasKind_20 : decode cL_relationHasKind 20 = .ok (.astore 4, 2) := by decide +kernel
theorem dL_relationHasKind_22 : decode cL_relationHasKind 22 = .ok (.iconst 1, 1) := by decide +kernel
theorem dL_relationHasKind_23 : decode cL_relationHasKind 23 = .ok (.ireturn, 1) := by decide +kernel
theorem dL_relationHasKind_24 : decode cL_relationHasKind 24 = .ok (.astore 4, 2) := by decide +kernel
theorem dL_relationHasKind_26 : decode cL_relationHasKind 26 = .ok (.iconst 2, 1) := by decide +kernel
theorem dL_relationHasKind_27 : decode cL_relationHasKind 27 = .ok (.ireturn, 1) := by decide +kernel
theorem dL_relationHasKind_28 : decode cL_relationHasKind 28 = .ok (.iconst 0, 1) := by decide +kernel
theorem dL_relationHasKind_29 : decode cL_relationHasKind 29 = .ok (.ireturn, 1) := by decide +kernel
theorem dL_relationHasKind_3 : decode cL_relationHasKind 3 = .ok (.iload_n 1, 1) := by decide +kernel
theorem dL_relationHasKind_4 : decode cL_relationHasKind 4 = .ok (.iload_n 2, 1) := by decide +kernel
theorem dL_relationHasKind_5 : decode cL_relationHasKind 5 = .ok (.invokevirtual 98, 3) := by decide +kernel
theorem dL_relationHasKind_8 : decode cL_relationHasKind 8 = .ok (.ifCond .eq 7, 3) := by decide +kernel
theorem dL_removeLastConstraint_0 : decode cL_removeLastConstraint 0 = .ok (.aload_n 1, 1) := by decide +kernel
theorem dL_removeLastConstraint_1 : decode cL_removeLastConstraint 1 = .ok (.iconst 0, 1) := by decide +kernel
theorem dL_removeLastConstraint_11 : decode cL_removeLastConstraint 11 = .ok (.astore_n 2, 1) := by decide +kernel
theorem dL_removeLastConstraint_12 : decode cL_removeLastConstraint 12 = .ok (.iconst 1, 1) := by decide +kernel
theorem dL_removeLastConstraint_13 : decode cL_removeLastConstraint 13 = .ok (.ireturn, 1) := by decide +kernel
theorem dL_removeLastConstraint_14 : decode cL_removeLastConstraint 14 = .ok (.iconst 0, 1) := by decide +kernel
theorem dL_removeLastConstraint_15 : decode cL_removeLastConstraint 15 = .ok (.ireturn, 1) := by decide +kernel
theorem dL_removeLastConstraint_2 : decode cL_removeLastConstraint 2 = .ok (.aload_n 0, 1) := by decide +kernel
theorem dL_removeLastConstraint_3 : decode cL_removeLastConstraint 3 = .ok (.invokevirtual 115, 3) := by decide +kernel
theorem dL_removeLastConstraint_6 : decode cL_removeLastConstraint 6 = .ok (.i2l, 1) := by decide +kernel
theorem dL_removeLastConstraint_7 : decode cL_removeLastConstraint 7 = .ok (.lastore, 1) := by decide +kernel
theorem dL_removeLastConstraint_8 : decode cL_removeLastConstraint 8 = .ok (.goto 6, 3) := by decide +kernel
theorem dL_removeTuple_0 : decode cL_removeTuple 0 = .ok (.aload_n 3, 1) := by decide +kernel
theorem dL_removeTuple_1 : decode cL_removeTuple 1 = .ok (.iconst 0, 1) := by decide +kernel
theorem dL_removeTuple_11 : decode cL_removeTuple 11 = .ok (.lconst 1, 1) := by decide +kernel
theorem dL_removeTuple_12 : decode cL_removeTuple 12 = .ok (.goto 4, 3) := by decide +kernel
theorem dL_removeTuple_15 : decode cL_removeTuple 15 = .ok (.lconst 0, 1) := by decide +kernel
theorem dL_removeTuple_16 : decode cL_removeTuple 16 = .ok (.lastore, 1) := by decide +kernel
theorem dL_removeTuple_17 : decode cL_removeTuple 17 = .ok (.goto 11, 3) := by decide +kernel
theorem dL_removeTuple_2 : decode cL_removeTuple 2 = .ok (.aload_n 0, 1) := by decide +kernel
theorem dL_removeTuple_20 : decode cL_removeTuple 20 = .ok (.astore 4, 2) := by decide +kernel
theorem dL_removeTuple_22 : decode cL_removeTuple 22 = .ok (.iconst 1, 1) := by decide +kernel
theorem dL_removeTuple_23 : decode cL_removeTuple 23 = .ok (.ireturn, 1) := by decide +kernel
theorem dL_removeTuple_24 : decode cL_removeTuple 24 = .ok (.astore 4, 2) := by decide +kernel
theorem dL_removeTuple_26 : decode cL_removeTuple 26 = .ok (.iconst 2, 1) := by decide +kernel
theorem dL_removeTuple_27 : decode cL_removeTuple 27 = .ok (.ireturn, 1) := by decide +kernel
theorem dL_removeTuple_28 : decode cL_removeTuple 28 = .ok (.iconst 0, 1) := by decide +kernel
theorem dL_removeTuple_29 : decode cL_removeTuple 29 = .ok (.ireturn, 1) := by decide +kernel
theorem dL_removeTuple_3 : decode cL_removeTuple 3 = .ok (.iload_n 1, 1) := by decide +kernel
theorem dL_removeTuple_4 : decode cL_removeTuple 4 = .ok (.iload_n 2, 1) := by decide +kernel
theorem dL_removeTuple_5 : decode cL_removeTuple 5 = .ok (.invokevirtual 30, 3) := by decide +kernel
theorem dL_removeTuple_8 : decode cL_removeTuple 8 = .ok (.ifCond .eq 7, 3) := by decide +kernel
theorem dL_restoreSnapshot_0 : decode cL_restoreSnapshot 0 = .ok (.aload_n 1, 1) := by decide +kernel
theorem dL_restoreSnapshot_1 : decode cL_restoreSnapshot 1 = .ok (.iconst 0, 1) := by decide +kernel
theorem dL_restoreSnapshot_11 : decode cL_restoreSnapshot 11 = .ok (.astore_n 2, 1) := by decide +kernel
theorem dL_restoreSnapshot_12 : decode cL_restoreSnapshot 12 = .ok (.iconst 1, 1) := by decide +kernel
theorem dL_restoreSnapshot_13 : decode cL_restoreSnapshot 13 = .ok (.ireturn, 1) := by decide +kernel
theorem dL_restoreSnapshot_14 : decode cL_restoreSnapshot 14 = .ok (.iconst 0, 1) := by decide +kernel
theorem dL_restoreSnapshot_15 : decode cL_restoreSnapshot 15 = .ok (.ireturn, 1) := by decide +kernel
theorem dL_restoreSnapshot_2 : decode cL_restoreSnapshot 2 = .ok (.aload_n 0, 1) := by decide +kernel
theorem dL_restoreSnapshot_3 : decode cL_restoreSnapshot 3 = .ok (.invokevirtual 175, 3) := by decide +kernel
theorem dL_restoreSnapshot_6 : decode cL_restoreSnapshot 6 = .ok (.i2l, 1) := by decide +kernel
theorem dL_restoreSnapshot_7 : decode cL_restoreSnapshot 7 = .ok (.lastore, 1) := by decide +kernel
theorem dL_restoreSnapshot_8 : decode cL_restoreSnapshot 8 = .ok (.goto 6, 3) := by decide +kernel
theorem dL_setFlag_0 : decode cL_setFlag 0 = .ok (.aload 4, 2) := by decide +kernel
theorem dL_setFlag_10 : decode cL_setFlag 10 = .ok (.ifCond .eq 7, 3) := by decide +kernel
theorem dL_setFlag_13 : decode cL_setFlag 13 = .ok (.lconst 1, 1) := by decide +kernel
theorem dL_setFlag_14 : decode cL_setFlag 14 = .ok (.goto 4, 3) := by decide +kernel
theorem dL_setFlag_17 : decode cL_setFlag 17 = .ok (.lconst 0, 1) := by decide +kernel
theorem dL_setFlag_18 : decode cL_setFlag 18 = .ok (.lastore, 1) := by decide +kernel
theorem dL_setFlag_19 : decode cL_setFlag 19 = .ok (.goto 11, 3) := by decide +kernel
theorem dL_setFlag_2 : decode cL_setFlag 2 = .ok (.iconst 0, 1) := by decide +kernel
theorem dL_setFlag_22 : decode cL_setFlag 22 = .ok (.astore 5, 2) := by decide +kernel
theorem dL_setFlag_24 : decode cL_setFlag 24 = .ok (.iconst 1, 1) := by decide +kernel
theorem dL_setFlag_25 : decode cL_setFlag 25 = .ok (.ireturn, 1) := by decide +kernel
theorem dL_setFlag_26 : decode cL_setFlag 26 = .ok (.astore 5, 2) := by decide +kernel
theorem dL_setFlag_28 : decode cL_setFlag 28 = .ok (.iconst 2, 1) := by decide +kernel
theorem dL_setFlag_29 : decode cL_setFlag 29 = .ok (.ireturn, 1) := by decide +kernel
theorem dL_setFlag_3 : decode cL_setFlag 3 = .ok (.aload_n 0, 1) := by decide +kernel
theorem dL_setFlag_30 : decode cL_setFlag 30 = .ok (.iconst 0, 1) := by decide +kernel
theorem dL_setFlag_31 : decode cL_setFlag 31 = .ok (.ireturn, 1) := by decide +kernel
theorem dL_setFlag_4 : decode cL_setFlag 4 = .ok (.iload_n 1, 1) := by decide +kernel
theorem dL_setFlag_5 : decode cL_setFlag 5 = .ok (.iload_n 2, 1) := by decide +kernel
theorem dL_setFlag_6 : decode cL_setFlag 6 = .ok (.iload_n 3, 1) := by decide +kernel
theorem dL_setFlag_7 : decode cL_setFlag 7 = .ok (.invokevirtual 168, 3) := by decide +kernel
theorem dL_setVariables_0 : decode cL_setVariables 0 = .ok (.aload_n 2, 1) := by decide +kernel
theorem dL_setVariables_1 : decode cL_setVariables 1 = .ok (.iconst 0, 1) := by decide +kernel
theorem dL_setVariables_12 : decode cL_setVariables 12 = .ok (.astore_n 3, 1) := by decide +kernel
theorem dL_setVariables_13 : decode cL_setVariables 13 = .ok (.iconst 1, 1) := by decide +kernel
theorem dL_setVariables_14 : decode cL_setVariables 14 = .ok (.ireturn, 1) := by decide +kernel
theorem dL_setVariables_15 : decode cL_setVariables 15 = .ok (.iconst 0, 1) := by decide +kernel
theorem dL_setVariables_16 : decode cL_setVariables 16 = .ok (.ireturn, 1) := by decide +kernel
theorem dL_setVariables_2 : decode cL_setVariables 2 = .ok (.aload_n 0, 1) := by decide +kernel
theorem dL_setVariables_3 : decode cL_setVariables 3 = .ok (.iload_n 1, 1) := by decide +kernel
theorem dL_setVariables_4 : decode cL_setVariables 4 = .ok (.invokevirtual 109, 3) := by decide +kernel
theorem dL_setVariables_7 : decode cL_setVariables 7 = .ok (.i2l, 1) := by decide +kernel
theorem dL_setVariables_8 : decode cL_setVariables 8 = .ok (.lastore, 1) := by decide +kernel
theorem dL_setVariables_9 : decode cL_setVariables 9 = .ok (.goto 6, 3) := by decide +kernel
theorem dL_solution_0 : decode cL_solution 0 = .ok (.aload_n 2, 1) := by decide +kernel
theorem dL_solution_1 : decode cL_solution 1 = .ok (.iconst 0, 1) := by decide +kernel
theorem dL_solution_12 : decode cL_solution 12 = .ok (.astore_n 3, 1) := by decide +kernel
theorem dL_solution_13 : decode cL_solution 13 = .ok (.iconst 1, 1) := by decide +kernel
theorem dL_solution_14 : decode cL_solution 14 = .ok (.ireturn, 1) := by decide +kernel
theorem dL_solution_15 : decode cL_solution 15 = .ok (.iconst 0, 1) := by decide +kernel
theorem dL_solution_16 : decode cL_solution 16 = .ok (.ireturn, 1) := by decide +kernel
theorem dL_solution_2 : decode cL_solution 2 = .ok (.aload_n 0, 1) := by decide +kernel
theorem dL_solution_3 : decode cL_solution 3 = .ok (.iload_n 1, 1) := by decide +kernel
theorem dL_solution_4 : decode cL_solution 4 = .ok (.invokevirtual 118, 3) := by decide +kernel
theorem dL_solution_7 : decode cL_solution 7 = .ok (.i2l, 1) := by decide +kernel
theorem dL_solution_8 : decode cL_solution 8 = .ok (.lastore, 1) := by decide +kernel
theorem dL_solution_9 : decode cL_solution 9 = .ok (.goto 6, 3) := by decide +kernel
theorem dL_storeFlags_0 : decode cL_storeFlags 0 = .ok (.aload 4, 2) := by decide +kernel
theorem dL_storeFlags_10 : decode cL_storeFlags 10 = .ok (.i2l, 1) := by decide +kernel
theorem dL_storeFlags_11 : decode cL_storeFlags 11 = .ok (.lastore, 1) := by decide +kernel
theorem dL_storeFlags_12 : decode cL_storeFlags 12 = .ok (.goto 11, 3) := by decide +kernel
theorem dL_storeFlags_15 : decode cL_storeFlags 15 = .ok (.astore 5, 2) := by decide +kernel
theorem dL_storeFlags_17 : decode cL_storeFlags 17 = .ok (.iconst 1, 1) := by decide +kernel
theorem dL_storeFlags_18 : decode cL_storeFlags 18 = .ok (.ireturn, 1) := by decide +kernel
theorem dL_storeFlags_19 : decode cL_storeFlags 19 = .ok (.astore 5, 2) := by decide +kernel
theorem dL_storeFlags_2 : decode cL_storeFlags 2 = .ok (.iconst 0, 1) := by decide +kernel
theorem dL_storeFlags_21 : decode cL_storeFlags 21 = .ok (.iconst 2, 1) := by decide +kernel
theorem dL_storeFlags_22 : decode cL_storeFlags 22 = .ok (.ireturn, 1) := by decide +kernel
theorem dL_storeFlags_23 : decode cL_storeFlags 23 = .ok (.iconst 0, 1) := by decide +kernel
theorem dL_storeFlags_24 : decode cL_storeFlags 24 = .ok (.ireturn, 1) := by decide +kernel
theorem dL_storeFlags_3 : decode cL_storeFlags 3 = .ok (.aload_n 0, 1) := by decide +kernel
theorem dL_storeFlags_4 : decode cL_storeFlags 4 = .ok (.iload_n 1, 1) := by decide +kernel
theorem dL_storeFlags_5 : decode cL_storeFlags 5 = .ok (.iload_n 2, 1) := by decide +kernel
theorem dL_storeFlags_6 : decode cL_storeFlags 6 = .ok (.iload_n 3, 1) := by decide +kernel
theorem dL_storeFlags_7 : decode cL_storeFlags 7 = .ok (.invokevirtual 165, 3) := by decide +kernel
theorem dL_takeFlags_0 : decode cL_takeFlags 0 = .ok (.aload_n 3, 1) := by decide +kernel
theorem dL_takeFlags_1 : decode cL_takeFlags 1 = .ok (.iconst 0, 1) := by decide +kernel
theorem dL_takeFlags_10 : decode cL_takeFlags 10 = .ok (.goto 11, 3) := by decide +kernel
theorem dL_takeFlags_13 : decode cL_takeFlags 13 = .ok (.astore 4, 2) := by decide +kernel
theorem dL_takeFlags_15 : decode cL_takeFlags 15 = .ok (.iconst 1, 1) := by decide +kernel
theorem dL_takeFlags_16 : decode cL_takeFlags 16 = .ok (.ireturn, 1) := by decide +kernel
theorem dL_takeFlags_17 : decode cL_takeFlags 17 = .ok (.astore 4, 2) := by decide +kernel
theorem dL_takeFlags_19 : decode cL_takeFlags 19 = .ok (.iconst 2, 1) := by decide +kernel
theorem dL_takeFlags_2 : decode cL_takeFlags 2 = .ok (.aload_n 0, 1) := by decide +kernel
theorem dL_takeFlags_20 : decode cL_takeFlags 20 = .ok (.ireturn, 1) := by decide +kernel
theorem dL_takeFlags_21 : decode cL_takeFlags 21 = .ok (.iconst 0, 1) := by decide +kernel
theorem dL_takeFlags_22 : decode cL_takeFlags 22 = .ok (.ireturn, 1) := by decide +kernel
theorem dL_takeFlags_3 : decode cL_takeFlags 3 = .ok (.iload_n 1, 1) := by decide +kernel
theorem dL_takeFlags_4 : decode cL_takeFlags 4 = .ok (.iload_n 2, 1) := by decide +kernel
theorem dL_takeFlags_5 : decode cL_takeFlags 5 = .ok (.invokevirtual 172, 3) := by decide +kernel
theorem dL_takeFlags_8 : decode cL_takeFlags 8 = .ok (.i2l, 1) := by decide +kernel
theorem dL_takeFlags_9 : decode cL_takeFlags 9 = .ok (.lastore, 1) := by decide +kernel
theorem dL_tupleCount_0 : decode cL_tupleCount 0 = .ok (.aload_n 2, 1) := by decide +kernel
theorem dL_tupleCount_1 : decode cL_tupleCount 1 = .ok (.iconst 0, 1) := by decide +kernel
theorem dL_tupleCount_12 : decode cL_tupleCount 12 = .ok (.astore_n 3, 1) := by decide +kernel
theorem dL_tupleCount_13 : decode cL_tupleCount 13 = .ok (.iconst 1, 1) := by decide +kernel
theorem dL_tupleCount_14 : decode cL_tupleCount 14 = .ok (.ireturn, 1) := by decide +kernel
theorem dL_tupleCount_15 : decode cL_tupleCount 15 = .ok (.iconst 0, 1) := by decide +kernel
theorem dL_tupleCount_16 : decode cL_tupleCount 16 = .ok (.ireturn, 1) := by decide +kernel
theorem dL_tupleCount_2 : decode cL_tupleCount 2 = .ok (.aload_n 0, 1) := by decide +kernel
theorem dL_tupleCount_3 : decode cL_tupleCount 3 = .ok (.iload_n 1, 1) := by decide +kernel
theorem dL_tupleCount_4 : decode cL_tupleCount 4 = .ok (.invokevirtual 36, 3) := by decide +kernel
theorem dL_tupleCount_7 : decode cL_tupleCount 7 = .ok (.i2l, 1) := by decide +kernel
theorem dL_tupleCount_8 : decode cL_tupleCount 8 = .ok (.lastore, 1) := by decide +kernel
theorem dL_tupleCount_9 : decode cL_tupleCount 9 = .ok (.goto 6, 3) := by decide +kernel
theorem dL_write_0 : decode cL_write 0 = .ok (.aload_n 2, 1) := by decide +kernel
theorem dL_write_1 : decode cL_write 1 = .ok (.iconst 0, 1) := by decide +kernel
theorem dL_write_12 : decode cL_write 12 = .ok (.astore_n 3, 1) := by decide +kernel
theorem dL_write_13 : decode cL_write 13 = .ok (.iconst 1, 1) := by decide +kernel
theorem dL_write_14 : decode cL_write 14 = .ok (.ireturn, 1) := by decide +kernel
theorem dL_write_15 : decode cL_write 15 = .ok (.iconst 0, 1) := by decide +kernel
theorem dL_write_16 : decode cL_write 16 = .ok (.ireturn, 1) := by decide +kernel
theorem dL_write_2 : decode cL_write 2 = .ok (.aload_n 0, 1) := by decide +kernel
theorem dL_write_3 : decode cL_write 3 = .ok (.iload_n 1, 1) := by decide +kernel
theorem dL_write_4 : decode cL_write 4 = .ok (.invokevirtual 158, 3) := by decide +kernel
theorem dL_write_7 : decode cL_write 7 = .ok (.i2l, 1) := by decide +kernel
theorem dL_write_8 : decode cL_write 8 = .ok (.lastore, 1) := by decide +kernel
theorem dL_write_9 : decode cL_write 9 = .ok (.goto 6, 3) := by decide +kernel
theorem nc_eIA_eIO : (eIA, eIO) ∈ nCs := List.mem_of_getElem? (i := 8) rfl
theorem nc_eIA_eUO : (eIA, eUO) ∈ nCs := List.mem_of_getElem? (i := 16) rfl
theorem nc_eIS_eIA : (eIS, eIA) ∈ nCs := List.mem_of_getElem? (i := 0) rfl
theorem nc_eIS_eIO : (eIS, eIO) ∈ nCs := List.mem_of_getElem? (i := 9) rfl
theorem nc_eIO_eIA : (eIO, eIA) ∈ nCs := List.mem_of_getElem? (i := 1) rfl
theorem nc_eIO_eUO : (eIO, eUO) ∈ nCs := List.mem_of_getElem? (i := 18) rfl
theorem nc_eNS_eIA : (eNS, eIA) ∈ nCs := List.mem_of_getElem? (i := 2) rfl
theorem nc_eNS_eUO : (eNS, eUO) ∈ nCs := List.mem_of_getElem? (i := 19) rfl
def f_L_addClause (u v w : St) (f : Nat → Int64) (p1 : Int32) (p2 : Int32) : Option (Int32 × St × (Nat → Int64)) := bx (f_X1_addClause u v w p1 p2) (fun E2 z3 => if E2 = eIA then some (1, z3, f) else if E2 = eIS then some (2, z3, f) else none) (fun r1 z3 => gd (inb 0 1) (some (0, z3, (vp_updL f (0 : Int32).toNatClampNeg r1.toInt64))))
def f_L_addComplement (u v w : St) (f : Nat → Int64) (p1 : Int32) : Option (Int32 × St × (Nat → Int64)) := bx (f_X1_addComplement u v w p1) (fun E2 z3 => if E2 = eIO then some (1, z3, f) else if E2 = eIS then some (2, z3, f) else none) (fun r1 z3 => gd (inb 0 1) (some (0, z3, (vp_updL f (0 : Int32).toNatClampNeg r1.toInt64))))
def f_L_addConstraint (u v w : St) (f : Nat → Int64) (p1 : Int32) (p2 : Int32) (p3 : Int32) (p4 : Int32) (p5 : Int32) : Option (Int32 × St × (Nat → Int64)) := bx (f_X1_addConstraint u v w p1 p2 p3 p4 p5) (fun E2 z3 => if E2 = eIO then some (1, z3, f) else if E2 = eIS then some (2, z3, f) else none) (fun r1 z3 => gd (inb 0 1) (some (0, z3, (vp_updL f (0 : Int32).toNatClampNeg r1.toInt64))))
def f_L_addExchanged (u v w : St) (f : Nat → Int64) (p1 : Int32) (p2 : Int32) (p3 : Int32) : Option (Int32 × St × (Nat → Int64)) := bx (f_X1_addExchanged u v w p1 p2 p3) (fun E2 z3 => if E2 = eIO then some (1, z3, f) else if E2 = eIS then some (2, z3, f) else none) (fun r1 z3 => gd (inb 0 1) (some (0, z3, (vp_updL f (0 : Int32).toNatClampNeg r1.toInt64))))
def f_L_addIntersection (u v w : St) (f : Nat → Int64) (p1 : Int32) (p2 : Int32) : Option (Int32 × St × (Nat → Int64)) := bx (f_X1_addIntersection u v w p1 p2) (fun E2 z3 => if E2 = eIO then some (1, z3, f) else if E2 = eIA then some (2, z3, f) else if E2 = eIS then some (3, z3, f) else none) (fun r1 z3 => gd (inb 0 1) (some (0, z3, (vp_updL f (0 : Int32).toNatClampNeg r1.toInt64))))
def f_L_addParity (u v w : St) (f : Nat → Int64) (p1 : Int32) (p2 : Int32) : Option (Int32 × St × (Nat → Int64)) := bx (f_X1_addParity u v w p1 p2) (fun E2 z3 => if E2 = eIA then some (1, z3, f) else if E2 = eIS then some (2, z3, f) else none) (fun r1 z3 => gd (inb 0 1) (some (0, z3, (vp_updL f (0 : Int32).toNatClampNeg r1.toInt64))))
def f_L_addProjection (u v w : St) (f : Nat → Int64) (p1 : Int32) (p2 : Int32) : Option (Int32 × St × (Nat → Int64)) := bx (f_X1_addProjection u v w p1 p2) (fun E2 z3 => if E2 = eIO then some (1, z3, f) else if E2 = eIA then some (2, z3, f) else if E2 = eIS then some (3, z3, f) else none) (fun r1 z3 => gd (inb 0 1) (some (0, z3, (vp_updL f (0 : Int32).toNatClampNeg r1.toInt64))))
def f_L_addRelation (u v w : St) (f : Nat → Int64) (p1 : Int32) : Option (Int32 × St × (Nat → Int64)) := bx (f_X1_addRelation u v w p1) (fun E2 z3 => if E2 = eIA then some (1, z3, f) else if E2 = eIS then some (2, z3, f) else none) (fun r1 z3 => gd (inb 0 1) (some (0, z3, (vp_updL f (0 : Int32).toNatClampNeg r1.toInt64))))
def f_L_addTuple (u v w : St) (f : Nat → Int64) (p1 : Int32) (p2 : Int32) : Option (Int32 × St × (Nat → Int64)) := bx (f_X1_addTuple u v w p1 p2) (fun E2 z3 => if E2 = eIO then some (1, z3, f) else if E2 = eIA then some (2, z3, f) else none) (fun r1 z3 => if r1 = 0 then gd (inb 0 1) (some (0, z3, (vp_updL f (0 : Int32).toNatClampNeg 0))) else gd (inb 0 1) (some (0, z3, (vp_updL f (0 : Int32).toNatClampNeg 1))))
def f_L_append (u v w : St) (f : Nat → Int64) (p1 : Int32) : Option (Int32 × St × (Nat → Int64)) := bx (f_X1_append u v w p1) (fun E2 z3 => if E2 = eIA then some (1, z3, f) else if E2 = eIS then some (2, z3, f) else none) (fun r1 z3 => gd (inb 0 1) (some (0, z3, (vp_updL f (0 : Int32).toNatClampNeg r1.toInt64))))
def f_L_apply (u v w : St) (f : Nat → Int64) (p1 : Int32) (p2 : Int32) (p3 : Int32) (p4 : Int32) (p5 : Int32) : Option (Int32 × (Nat → Int64)) := bz (f_X1_apply u v w p1 p2 p3 p4 p5) (fun E2 => if E2 = eIA then some (1, f) else none) (fun r1 => gd (inb 0 1) (some (0, (vp_updL f (0 : Int32).toNatClampNeg r1.toInt64))))
def f_L_areEqual (u v w : St) (f : Nat → Int64) (p1 : Int32) (p2 : Int32) : Option (Int32 × (Nat → Int64)) := bz (f_X1_areEqual u v w p1 p2) (fun E2 => if E2 = eIO then some (1, f) else none) (fun r1 => if r1 = 0 then gd (inb 0 1) (some (0, (vp_updL f (0 : Int32).toNatClampNeg 0))) else gd (inb 0 1) (some (0, (vp_updL f (0 : Int32).toNatClampNeg 1))))
def f_L_arity (u v w : St) (f : Nat → Int64) (p1 : Int32) : Option (Int32 × (Nat → Int64)) := bz (f_X1_arity u v w p1) (fun E2 => if E2 = eIO then some (1, f) else none) (fun r1 => gd (inb 0 1) (some (0, (vp_updL f (0 : Int32).toNatClampNeg r1.toInt64))))
def f_L_close (u v w : St) (f : Nat → Int64) (p1 : Int32) (p2 : Int32) (p3 : Int32) : Option (Int32 × St × (Nat → Int64)) := bx (f_X1_close u v w p1 p2 p3) (fun E2 z3 => if E2 = eIO then some (1, z3, f) else if E2 = eIA then some (2, z3, f) else none) (fun r1 z3 => gd (inb 0 1) (some (0, z3, (vp_updL f (0 : Int32).toNatClampNeg r1.toInt64))))
def f_L_compose (u v w : St) (f : Nat → Int64) (p1 : Int32) (p2 : Int32) (p3 : Int32) : Option (Int32 × (Nat → Int64)) := bz (f_X1_compose u v w p1 p2 p3) (fun E2 => if E2 = eIA then some (1, f) else none) (fun r1 => gd (inb 0 1) (some (0, (vp_updL f (0 : Int32).toNatClampNeg r1.toInt64))))
def f_L_contains (u v w : St) (f : Nat → Int64) (p1 : Int32) (p2 : Int32) : Option (Int32 × (Nat → Int64)) := bz (f_X1_contains u v w p1 p2) (fun E2 => if E2 = eIO then some (1, f) else if E2 = eIA then some (2, f) else none) (fun r1 => if r1 = 0 then gd (inb 0 1) (some (0, (vp_updL f (0 : Int32).toNatClampNeg 0))) else gd (inb 0 1) (some (0, (vp_updL f (0 : Int32).toNatClampNeg 1))))
def f_L_define (u v w : St) (f : Nat → Int64) (p1 : Int32) (p2 : Int32) (p3 : Int32) (p4 : Int32) (p5 : Int32) : Option (Int32 × St × (Nat → Int64)) := bx (f_X1_define u v w p1 p2 p3 p4 p5) (fun E2 z3 => if E2 = eIA then some (1, z3, f) else if E2 = eIO then some (2, z3, f) else if E2 = eIS then some (3, z3, f) else none) (fun r1 z3 => gd (inb 0 1) (some (0, z3, (vp_updL f (0 : Int32).toNatClampNeg r1.toInt64))))
def f_L_dependsOn (u v w : St) (f : Nat → Int64) (p1 : Int32) (p2 : Int32) (p3 : Int32) : Option (Int32 × (Nat → Int64)) := bz (f_X1_dependsOn u v w p1 p2 p3) (fun E2 => if E2 = eIA then some (1, f) else if E2 = eIO then some (2, f) else none) (fun r1 => if r1 = 0 then gd (inb 0 1) (some (0, (vp_updL f (0 : Int32).toNatClampNeg 0))) else gd (inb 0 1) (some (0, (vp_updL f (0 : Int32).toNatClampNeg 1))))
def f_L_dimension (u v w : St) (f : Nat → Int64) : Option (Int32 × (Nat → Int64)) := bz (f_X1_dimension u v w) (fun E2 => if E2 = eUO then some (1, f) else if E2 = eNS then some (2, f) else none) (fun r1 => gd (inb 0 1) (some (0, (vp_updL f (0 : Int32).toNatClampNeg r1.toInt64))))
def f_L_dual (u v w : St) (f : Nat → Int64) (p1 : Int32) (p2 : Int32) : Option (Int32 × (Nat → Int64)) := bz (f_X1_dual u v w p1 p2) (fun E2 => if E2 = eIA then some (1, f) else none) (fun r1 => gd (inb 0 1) (some (0, (vp_updL f (0 : Int32).toNatClampNeg r1.toInt64))))
def f_L_errorPosition (u v w : St) (f : Nat → Int64) : Option (Int32 × (Nat → Int64)) := bz (f_X1_errorPosition u v w) (fun E2 => if E2 = eIS then some (1, f) else none) (fun r1 => gd (inb 0 1) (some (0, (vp_updL f (0 : Int32).toNatClampNeg r1.toInt64))))
def f_L_firstViolated (u v w : St) (f : Nat → Int64) (p1 : Int32) : Option (Int32 × (Nat → Int64)) := bz (f_X1_firstViolated u v w p1) (fun E2 => if E2 = eIA then some (1, f) else if E2 = eNS then some (2, f) else none) (fun r1 => gd (inb 0 1) (some (0, (vp_updL f (0 : Int32).toNatClampNeg r1.toInt64))))
def f_L_greatestSolution (u v w : St) (f : Nat → Int64) : Option (Int32 × (Nat → Int64)) := bz (f_X1_greatestSolution u v w) (fun E2 => if E2 = eUO then some (1, f) else if E2 = eNS then some (2, f) else none) (fun r1 => gd (inb 0 1) (some (0, (vp_updL f (0 : Int32).toNatClampNeg r1.toInt64))))
def f_L_hasKind (u v w : St) (f : Nat → Int64) (p1 : Int32) : Option (Int32 × (Nat → Int64)) := bz (f_X1_hasKind u v w p1) (fun E2 => if E2 = eIA then some (1, f) else none) (fun r1 => if r1 = 0 then gd (inb 0 1) (some (0, (vp_updL f (0 : Int32).toNatClampNeg 0))) else gd (inb 0 1) (some (0, (vp_updL f (0 : Int32).toNatClampNeg 1))))
def f_L_implies (u v w : St) (f : Nat → Int64) (p1 : Int32) (p2 : Int32) (p3 : Int32) (p4 : Int32) : Option (Int32 × (Nat → Int64)) := bz (f_X1_implies u v w p1 p2 p3 p4) (fun E2 => if E2 = eUO then some (1, f) else if E2 = eIO then some (2, f) else if E2 = eIA then some (3, f) else none) (fun r1 => if r1 = 0 then gd (inb 0 1) (some (0, (vp_updL f (0 : Int32).toNatClampNeg 0))) else gd (inb 0 1) (some (0, (vp_updL f (0 : Int32).toNatClampNeg 1))))
def f_L_isForced (u v w : St) (f : Nat → Int64) (p1 : Int32) (p2 : Int32) : Option (Int32 × (Nat → Int64)) := bz (f_X1_isForced u v w p1 p2) (fun E2 => if E2 = eIO then some (1, f) else if E2 = eIA then some (2, f) else none) (fun r1 => if r1 = 0 then gd (inb 0 1) (some (0, (vp_updL f (0 : Int32).toNatClampNeg 0))) else gd (inb 0 1) (some (0, (vp_updL f (0 : Int32).toNatClampNeg 1))))
def f_L_isIdempotent (u v w : St) (f : Nat → Int64) (p1 : Int32) (p2 : Int32) : Option (Int32 × (Nat → Int64)) := bz (f_X1_isIdempotent u v w p1 p2) (fun E2 => if E2 = eIA then some (1, f) else none) (fun r1 => if r1 = 0 then gd (inb 0 1) (some (0, (vp_updL f (0 : Int32).toNatClampNeg 0))) else gd (inb 0 1) (some (0, (vp_updL f (0 : Int32).toNatClampNeg 1))))
def f_L_isMonotone (u v w : St) (f : Nat → Int64) (p1 : Int32) (p2 : Int32) : Option (Int32 × (Nat → Int64)) := bz (f_X1_isMonotone u v w p1 p2) (fun E2 => if E2 = eIA then some (1, f) else none) (fun r1 => if r1 = 0 then gd (inb 0 1) (some (0, (vp_updL f (0 : Int32).toNatClampNeg 0))) else gd (inb 0 1) (some (0, (vp_updL f (0 : Int32).toNatClampNeg 1))))
def f_L_isPolymorphism (u v w : St) (f : Nat → Int64) (p1 : Int32) (p2 : Int32) : Option (Int32 × (Nat → Int64)) := bz (f_X1_isPolymorphism u v w p1 p2) (fun E2 => if E2 = eIA then some (1, f) else none) (fun r1 => if r1 = 0 then gd (inb 0 1) (some (0, (vp_updL f (0 : Int32).toNatClampNeg 0))) else gd (inb 0 1) (some (0, (vp_updL f (0 : Int32).toNatClampNeg 1))))
def f_L_isRedundant (u v w : St) (f : Nat → Int64) (p1 : Int32) : Option (Int32 × (Nat → Int64)) := bz (f_X1_isRedundant u v w p1) (fun E2 => if E2 = eIO then some (1, f) else none) (fun r1 => if r1 = 0 then gd (inb 0 1) (some (0, (vp_updL f (0 : Int32).toNatClampNeg 0))) else gd (inb 0 1) (some (0, (vp_updL f (0 : Int32).toNatClampNeg 1))))
def f_L_removeTuple (u v w : St) (f : Nat → Int64) (p1 : Int32) (p2 : Int32) : Option (Int32 × St × (Nat → Int64)) := bx (f_X1_removeTuple u v w p1 p2) (fun E2 z3 => if E2 = eIO then some (1, z3, f) else if E2 = eIA then some (2, z3, f) else none) (fun r1 z3 => if r1 = 0 then gd (inb 0 1) (some (0, z3, (vp_updL f (0 : Int32).toNatClampNeg 0))) else gd (inb 0 1) (some (0, z3, (vp_updL f (0 : Int32).toNatClampNeg 1))))
def f_L_tupleCount (u v w : St) (f : Nat → Int64) (p1 : Int32) : Option (Int32 × (Nat → Int64)) := bz (f_X1_tupleCount u v w p1) (fun E2 => if E2 = eIO then some (1, f) else none) (fun r1 => gd (inb 0 1) (some (0, (vp_updL f (0 : Int32).toNatClampNeg r1.toInt64))))
def f_L_preserves (u v w : St) (f : Nat → Int64) (p1 : Int32) (p2 : Int32) (p3 : Int32) : Option (Int32 × (Nat → Int64)) := bz (f_X1_preserves u v w p1 p2 p3) (fun E2 => if E2 = eIA then some (1, f) else if E2 = eIO then some (2, f) else none) (fun r1 => if r1 = 0 then gd (inb 0 1) (some (0, (vp_updL f (0 : Int32).toNatClampNeg 0))) else gd (inb 0 1) (some (0, (vp_updL f (0 : Int32).toNatClampNeg 1))))
def f_L_polymorphismCount (u v w : St) (f : Nat → Int64) (p1 : Int32) : Option (Int32 × (Nat → Int64)) := bz (f_X1_polymorphismCount u v w p1) (fun E2 => if E2 = eIA then some (1, f) else none) (fun r1 => gd (inb 0 1) (some (0, (vp_updL f (0 : Int32).toNatClampNeg r1.toInt64))))
def f_L_polymorphism (u v w : St) (f : Nat → Int64) (p1 : Int32) (p2 : Int32) : Option (Int32 × (Nat → Int64)) := bz (f_X1_polymorphism u v w p1 p2) (fun E2 => if E2 = eIA then some (1, f) else if E2 = eNS then some (2, f) else none) (fun r1 => gd (inb 0 1) (some (0, (vp_updL f (0 : Int32).toNatClampNeg r1.toInt64))))
def f_L_projectedArgument (u v w : St) (f : Nat → Int64) (p1 : Int32) (p2 : Int32) : Option (Int32 × (Nat → Int64)) := bz (f_X1_projectedArgument u v w p1 p2) (fun E2 => if E2 = eIA then some (1, f) else if E2 = eNS then some (2, f) else none) (fun r1 => gd (inb 0 1) (some (0, (vp_updL f (0 : Int32).toNatClampNeg r1.toInt64))))
def f_L_relationHasKind (u v w : St) (f : Nat → Int64) (p1 : Int32) (p2 : Int32) : Option (Int32 × (Nat → Int64)) := bz (f_X1_relationHasKind u v w p1 p2) (fun E2 => if E2 = eIO then some (1, f) else if E2 = eIA then some (2, f) else none) (fun r1 => if r1 = 0 then gd (inb 0 1) (some (0, (vp_updL f (0 : Int32).toNatClampNeg 0))) else gd (inb 0 1) (some (0, (vp_updL f (0 : Int32).toNatClampNeg 1))))
def f_L_lowestKind (u v w : St) (f : Nat → Int64) : Option (Int32 × (Nat → Int64)) := bz (f_X1_lowestKind u v w) (fun E2 => if E2 = eNS then some (1, f) else none) (fun r1 => gd (inb 0 1) (some (0, (vp_updL f (0 : Int32).toNatClampNeg r1.toInt64))))
def f_L_setVariables (u v w : St) (f : Nat → Int64) (p1 : Int32) : Option (Int32 × St × (Nat → Int64)) := bx (f_X1_setVariables u v w p1) (fun E2 z3 => if E2 = eIA then some (1, z3, f) else none) (fun r1 z3 => gd (inb 0 1) (some (0, z3, (vp_updL f (0 : Int32).toNatClampNeg r1.toInt64))))
def f_L_removeLastConstraint (u v w : St) (f : Nat → Int64) : Option (Int32 × St × (Nat → Int64)) := bx (f_X1_removeLastConstraint u v w) (fun E2 z3 => if E2 = eIS then some (1, z3, f) else none) (fun r1 z3 => gd (inb 0 1) (some (0, z3, (vp_updL f (0 : Int32).toNatClampNeg r1.toInt64))))
def f_L_solution (u v w : St) (f : Nat → Int64) (p1 : Int32) : Option (Int32 × (Nat → Int64)) := bz (f_X1_solution u v w p1) (fun E2 => if E2 = eNS then some (1, f) else none) (fun r1 => gd (inb 0 1) (some (0, (vp_updL f (0 : Int32).toNatClampNeg r1.toInt64))))
def f_L_leastSolution (u v w : St) (f : Nat → Int64) : Option (Int32 × (Nat → Int64)) := bz (f_X1_leastSolution u v w) (fun E2 => if E2 = eUO then some (1, f) else if E2 = eNS then some (2, f) else none) (fun r1 => gd (inb 0 1) (some (0, (vp_updL f (0 : Int32).toNatClampNeg r1.toInt64))))
def f_L_parse (u v w : St) (f : Nat → Int64) : Option (Int32 × St × St × (Nat → Int64)) := bx (f_X1_parse u v w) (fun E2 z3 => if E2 = eIA then some (1, z3.1, z3.2, f) else if E2 = eIS then some (2, z3.1, z3.2, f) else none) (fun r1 z3 => gd (inb 0 1) (some (0, z3.1, z3.2, (vp_updL f (0 : Int32).toNatClampNeg r1.toInt64))))
def f_L_write (u v w : St) (f : Nat → Int64) (p1 : Int32) : Option (Int32 × St × (Nat → Int64)) := bx (f_X1_write u v w p1) (fun E2 z3 => if E2 = eIO then some (1, z3, f) else none) (fun r1 z3 => gd (inb 0 1) (some (0, z3, (vp_updL f (0 : Int32).toNatClampNeg r1.toInt64))))
def f_L_outputAt (u v w : St) (f : Nat → Int64) (p1 : Int32) : Option (Int32 × (Nat → Int64)) := bz (f_X1_outputAt u v w p1) (fun E2 => if E2 = eIO then some (1, f) else none) (fun r1 => gd (inb 0 1) (some (0, (vp_updL f (0 : Int32).toNatClampNeg r1.toInt64))))
def f_L_storeFlags (u v w : St) (f : Nat → Int64) (p1 : Int32) (p2 : Int32) (p3 : Int32) : Option (Int32 × St × (Nat → Int64)) := bx (f_X1_storeFlags u v w p1 p2 p3) (fun E2 z3 => if E2 = eIO then some (1, z3, f) else if E2 = eIA then some (2, z3, f) else none) (fun r1 z3 => gd (inb 0 1) (some (0, z3, (vp_updL f (0 : Int32).toNatClampNeg r1.toInt64))))
def f_L_setFlag (u v w : St) (f : Nat → Int64) (p1 : Int32) (p2 : Int32) (p3 : Int32) : Option (Int32 × St × (Nat → Int64)) := bx (f_X1_setFlag u v w p1 p2 p3) (fun E2 z3 => if E2 = eIO then some (1, z3, f) else if E2 = eIS then some (2, z3, f) else none) (fun r1 z3 => if r1 = 0 then gd (inb 0 1) (some (0, z3, (vp_updL f (0 : Int32).toNatClampNeg 0))) else gd (inb 0 1) (some (0, z3, (vp_updL f (0 : Int32).toNatClampNeg 1))))
def f_L_takeFlags (u v w : St) (f : Nat → Int64) (p1 : Int32) (p2 : Int32) : Option (Int32 × St × (Nat → Int64)) := bx (f_X1_takeFlags u v w p1 p2) (fun E2 z3 => if E2 = eIO then some (1, z3, f) else if E2 = eIS then some (2, z3, f) else none) (fun r1 z3 => gd (inb 0 1) (some (0, z3, (vp_updL f (0 : Int32).toNatClampNeg r1.toInt64))))
def f_L_restoreSnapshot (u v w : St) (f : Nat → Int64) : Option (Int32 × St × (Nat → Int64)) := bx (f_X1_restoreSnapshot u v w) (fun E2 z3 => if E2 = eIS then some (1, z3, f) else none) (fun r1 z3 => gd (inb 0 1) (some (0, z3, (vp_updL f (0 : Int32).toNatClampNeg r1.toInt64))))
