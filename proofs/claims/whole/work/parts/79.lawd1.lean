/-! the law, rows 1 -/
theorem dw_469 : decode code 469 = .ok (.aload_n 2, 1) := by decide +kernel
theorem dw_470 : decode code 470 = .ok (.aload_n 0, 1) := by decide +kernel
theorem dw_471 : decode code 471 = .ok (.iload_n 3, 1) := by decide +kernel
theorem dw_472 : decode code 472 = .ok (.iconst 1, 1) := by decide +kernel
theorem dw_473 : decode code 473 = .ok (.iadd, 1) := by decide +kernel
theorem dw_474 : decode code 474 = .ok (.iaload, 1) := by decide +kernel
theorem dw_475 : decode code 475 = .ok (.aload_n 0, 1) := by decide +kernel
theorem dw_476 : decode code 476 = .ok (.iload_n 3, 1) := by decide +kernel
theorem dw_477 : decode code 477 = .ok (.iconst 2, 1) := by decide +kernel
theorem dw_478 : decode code 478 = .ok (.iadd, 1) := by decide +kernel
theorem dw_479 : decode code 479 = .ok (.iaload, 1) := by decide +kernel
theorem dw_480 : decode code 480 = .ok (.aload_n 0, 1) := by decide +kernel
theorem dw_481 : decode code 481 = .ok (.iload_n 3, 1) := by decide +kernel
theorem dw_482 : decode code 482 = .ok (.iconst 3, 1) := by decide +kernel
theorem dw_483 : decode code 483 = .ok (.iadd, 1) := by decide +kernel
theorem dw_484 : decode code 484 = .ok (.iaload, 1) := by decide +kernel
theorem dw_485 : decode code 485 = .ok (.invokevirtual 53, 3) := by decide +kernel
theorem dw_488 : decode code 488 = .ok (.if_icmp .eq 890, 3) := by decide +kernel
theorem dw_491 : decode code 491 = .ok (.iconst 0, 1) := by decide +kernel
theorem dw_492 : decode code 492 = .ok (.ireturn, 1) := by decide +kernel
theorem dw_493 : decode code 493 = .ok (.aload_n 1, 1) := by decide +kernel
theorem dw_494 : decode code 494 = .ok (.aload_n 0, 1) := by decide +kernel
theorem dw_495 : decode code 495 = .ok (.iload_n 3, 1) := by decide +kernel
theorem dw_496 : decode code 496 = .ok (.iconst 1, 1) := by decide +kernel
theorem dw_497 : decode code 497 = .ok (.iadd, 1) := by decide +kernel
theorem dw_498 : decode code 498 = .ok (.iaload, 1) := by decide +kernel
theorem dw_499 : decode code 499 = .ok (.aload_n 0, 1) := by decide +kernel
theorem dw_500 : decode code 500 = .ok (.iload_n 3, 1) := by decide +kernel
theorem dw_501 : decode code 501 = .ok (.iconst 2, 1) := by decide +kernel
theorem dw_502 : decode code 502 = .ok (.iadd, 1) := by decide +kernel
theorem dw_503 : decode code 503 = .ok (.iaload, 1) := by decide +kernel
theorem dw_504 : decode code 504 = .ok (.invokevirtual 54, 3) := by decide +kernel
theorem dw_507 : decode code 507 = .ok (.aload_n 2, 1) := by decide +kernel
theorem dw_508 : decode code 508 = .ok (.aload_n 0, 1) := by decide +kernel
theorem dw_509 : decode code 509 = .ok (.iload_n 3, 1) := by decide +kernel
theorem dw_510 : decode code 510 = .ok (.iconst 1, 1) := by decide +kernel
theorem dw_511 : decode code 511 = .ok (.iadd, 1) := by decide +kernel
theorem dw_512 : decode code 512 = .ok (.iaload, 1) := by decide +kernel
theorem dw_513 : decode code 513 = .ok (.aload_n 0, 1) := by decide +kernel
theorem dw_514 : decode code 514 = .ok (.iload_n 3, 1) := by decide +kernel
theorem dw_515 : decode code 515 = .ok (.iconst 2, 1) := by decide +kernel
theorem dw_516 : decode code 516 = .ok (.iadd, 1) := by decide +kernel
theorem dw_517 : decode code 517 = .ok (.iaload, 1) := by decide +kernel
theorem dw_518 : decode code 518 = .ok (.invokevirtual 57, 3) := by decide +kernel
theorem dw_521 : decode code 521 = .ok (.if_icmp .eq 857, 3) := by decide +kernel
theorem dw_524 : decode code 524 = .ok (.iconst 0, 1) := by decide +kernel
theorem dw_525 : decode code 525 = .ok (.ireturn, 1) := by decide +kernel
theorem dw_526 : decode code 526 = .ok (.aload_n 1, 1) := by decide +kernel
theorem dw_527 : decode code 527 = .ok (.aload_n 0, 1) := by decide +kernel
theorem dw_528 : decode code 528 = .ok (.iload_n 3, 1) := by decide +kernel
theorem dw_529 : decode code 529 = .ok (.iconst 1, 1) := by decide +kernel
theorem dw_530 : decode code 530 = .ok (.iadd, 1) := by decide +kernel
theorem dw_531 : decode code 531 = .ok (.iaload, 1) := by decide +kernel
theorem dw_532 : decode code 532 = .ok (.aload_n 0, 1) := by decide +kernel
theorem dw_533 : decode code 533 = .ok (.iload_n 3, 1) := by decide +kernel
theorem dw_534 : decode code 534 = .ok (.iconst 2, 1) := by decide +kernel
theorem dw_535 : decode code 535 = .ok (.iadd, 1) := by decide +kernel
theorem dw_536 : decode code 536 = .ok (.iaload, 1) := by decide +kernel
theorem dw_537 : decode code 537 = .ok (.aload_n 0, 1) := by decide +kernel
theorem dw_538 : decode code 538 = .ok (.iload_n 3, 1) := by decide +kernel
theorem dw_539 : decode code 539 = .ok (.iconst 3, 1) := by decide +kernel
theorem dw_540 : decode code 540 = .ok (.iadd, 1) := by decide +kernel
theorem dw_541 : decode code 541 = .ok (.iaload, 1) := by decide +kernel
theorem dw_542 : decode code 542 = .ok (.invokevirtual 58, 3) := by decide +kernel
theorem dw_545 : decode code 545 = .ok (.aload_n 2, 1) := by decide +kernel
theorem dw_546 : decode code 546 = .ok (.aload_n 0, 1) := by decide +kernel
theorem dw_547 : decode code 547 = .ok (.iload_n 3, 1) := by decide +kernel
theorem dw_548 : decode code 548 = .ok (.iconst 1, 1) := by decide +kernel
theorem dw_549 : decode code 549 = .ok (.iadd, 1) := by decide +kernel
theorem dw_550 : decode code 550 = .ok (.iaload, 1) := by decide +kernel
theorem dw_551 : decode code 551 = .ok (.aload_n 0, 1) := by decide +kernel
theorem dw_552 : decode code 552 = .ok (.iload_n 3, 1) := by decide +kernel
theorem dw_553 : decode code 553 = .ok (.iconst 2, 1) := by decide +kernel
theorem dw_554 : decode code 554 = .ok (.iadd, 1) := by decide +kernel
theorem dw_555 : decode code 555 = .ok (.iaload, 1) := by decide +kernel
theorem dw_556 : decode code 556 = .ok (.aload_n 0, 1) := by decide +kernel
theorem dw_557 : decode code 557 = .ok (.iload_n 3, 1) := by decide +kernel
theorem dw_558 : decode code 558 = .ok (.iconst 3, 1) := by decide +kernel
theorem dw_559 : decode code 559 = .ok (.iadd, 1) := by decide +kernel
theorem dw_560 : decode code 560 = .ok (.iaload, 1) := by decide +kernel
theorem dw_561 : decode code 561 = .ok (.invokevirtual 61, 3) := by decide +kernel
theorem dw_564 : decode code 564 = .ok (.if_icmp .eq 814, 3) := by decide +kernel
theorem dw_567 : decode code 567 = .ok (.iconst 0, 1) := by decide +kernel
theorem dw_568 : decode code 568 = .ok (.ireturn, 1) := by decide +kernel
theorem dw_569 : decode code 569 = .ok (.aload_n 1, 1) := by decide +kernel
theorem dw_570 : decode code 570 = .ok (.aload_n 0, 1) := by decide +kernel
theorem dw_571 : decode code 571 = .ok (.iload_n 3, 1) := by decide +kernel
theorem dw_572 : decode code 572 = .ok (.iconst 1, 1) := by decide +kernel
theorem dw_573 : decode code 573 = .ok (.iadd, 1) := by decide +kernel
theorem dw_574 : decode code 574 = .ok (.iaload, 1) := by decide +kernel
theorem dw_575 : decode code 575 = .ok (.invokevirtual 62, 3) := by decide +kernel
theorem dw_578 : decode code 578 = .ok (.aload_n 2, 1) := by decide +kernel
theorem dw_579 : decode code 579 = .ok (.aload_n 0, 1) := by decide +kernel
theorem dw_580 : decode code 580 = .ok (.iload_n 3, 1) := by decide +kernel
theorem dw_581 : decode code 581 = .ok (.iconst 1, 1) := by decide +kernel
theorem dw_582 : decode code 582 = .ok (.iadd, 1) := by decide +kernel
theorem dw_583 : decode code 583 = .ok (.iaload, 1) := by decide +kernel
theorem dw_584 : decode code 584 = .ok (.invokevirtual 65, 3) := by decide +kernel
theorem dw_587 : decode code 587 = .ok (.if_icmp .eq 791, 3) := by decide +kernel
theorem dw_590 : decode code 590 = .ok (.iconst 0, 1) := by decide +kernel
theorem dw_591 : decode code 591 = .ok (.ireturn, 1) := by decide +kernel
theorem dw_592 : decode code 592 = .ok (.aload_n 1, 1) := by decide +kernel
theorem dw_593 : decode code 593 = .ok (.aload_n 0, 1) := by decide +kernel
theorem dw_594 : decode code 594 = .ok (.iload_n 3, 1) := by decide +kernel
theorem dw_595 : decode code 595 = .ok (.iconst 1, 1) := by decide +kernel
theorem dw_596 : decode code 596 = .ok (.iadd, 1) := by decide +kernel
theorem dw_597 : decode code 597 = .ok (.iaload, 1) := by decide +kernel
theorem dw_598 : decode code 598 = .ok (.invokevirtual 66, 3) := by decide +kernel
theorem dw_601 : decode code 601 = .ok (.aload_n 2, 1) := by decide +kernel
theorem dw_602 : decode code 602 = .ok (.aload_n 0, 1) := by decide +kernel
theorem dw_603 : decode code 603 = .ok (.iload_n 3, 1) := by decide +kernel
theorem dw_604 : decode code 604 = .ok (.iconst 1, 1) := by decide +kernel
theorem dw_605 : decode code 605 = .ok (.iadd, 1) := by decide +kernel
theorem dw_606 : decode code 606 = .ok (.iaload, 1) := by decide +kernel
theorem dw_607 : decode code 607 = .ok (.invokevirtual 69, 3) := by decide +kernel
theorem dw_610 : decode code 610 = .ok (.if_icmp .eq 768, 3) := by decide +kernel
theorem dw_613 : decode code 613 = .ok (.iconst 0, 1) := by decide +kernel
theorem dw_614 : decode code 614 = .ok (.ireturn, 1) := by decide +kernel
theorem dw_615 : decode code 615 = .ok (.aload_n 1, 1) := by decide +kernel
theorem dw_616 : decode code 616 = .ok (.aload_n 0, 1) := by decide +kernel
theorem dw_617 : decode code 617 = .ok (.iload_n 3, 1) := by decide +kernel
theorem dw_618 : decode code 618 = .ok (.iconst 1, 1) := by decide +kernel
theorem dw_619 : decode code 619 = .ok (.iadd, 1) := by decide +kernel
theorem dw_620 : decode code 620 = .ok (.iaload, 1) := by decide +kernel
theorem dw_621 : decode code 621 = .ok (.invokevirtual 70, 3) := by decide +kernel
theorem dw_624 : decode code 624 = .ok (.aload_n 2, 1) := by decide +kernel
theorem dw_625 : decode code 625 = .ok (.aload_n 0, 1) := by decide +kernel
theorem dw_626 : decode code 626 = .ok (.iload_n 3, 1) := by decide +kernel
theorem dw_627 : decode code 627 = .ok (.iconst 1, 1) := by decide +kernel
theorem dw_628 : decode code 628 = .ok (.iadd, 1) := by decide +kernel
theorem dw_629 : decode code 629 = .ok (.iaload, 1) := by decide +kernel
theorem dw_630 : decode code 630 = .ok (.invokevirtual 73, 3) := by decide +kernel
theorem dw_633 : decode code 633 = .ok (.if_icmp .eq 745, 3) := by decide +kernel
theorem dw_636 : decode code 636 = .ok (.iconst 0, 1) := by decide +kernel
theorem dw_637 : decode code 637 = .ok (.ireturn, 1) := by decide +kernel
theorem dw_638 : decode code 638 = .ok (.aload_n 1, 1) := by decide +kernel
theorem dw_639 : decode code 639 = .ok (.aload_n 0, 1) := by decide +kernel
theorem dw_640 : decode code 640 = .ok (.iload_n 3, 1) := by decide +kernel
theorem dw_641 : decode code 641 = .ok (.iconst 1, 1) := by decide +kernel
theorem dw_642 : decode code 642 = .ok (.iadd, 1) := by decide +kernel
theorem dw_643 : decode code 643 = .ok (.iaload, 1) := by decide +kernel
theorem dw_644 : decode code 644 = .ok (.aload_n 0, 1) := by decide +kernel
theorem dw_645 : decode code 645 = .ok (.iload_n 3, 1) := by decide +kernel
theorem dw_646 : decode code 646 = .ok (.iconst 2, 1) := by decide +kernel
theorem dw_647 : decode code 647 = .ok (.iadd, 1) := by decide +kernel
theorem dw_648 : decode code 648 = .ok (.iaload, 1) := by decide +kernel
theorem dw_649 : decode code 649 = .ok (.invokevirtual 74, 3) := by decide +kernel
theorem dw_652 : decode code 652 = .ok (.aload_n 2, 1) := by decide +kernel
theorem dw_653 : decode code 653 = .ok (.aload_n 0, 1) := by decide +kernel
theorem dw_654 : decode code 654 = .ok (.iload_n 3, 1) := by decide +kernel
theorem dw_655 : decode code 655 = .ok (.iconst 1, 1) := by decide +kernel
theorem dw_656 : decode code 656 = .ok (.iadd, 1) := by decide +kernel
theorem dw_657 : decode code 657 = .ok (.iaload, 1) := by decide +kernel
theorem dw_658 : decode code 658 = .ok (.aload_n 0, 1) := by decide +kernel
theorem dw_659 : decode code 659 = .ok (.iload_n 3, 1) := by decide +kernel
theorem dw_660 : decode code 660 = .ok (.iconst 2, 1) := by decide +kernel
theorem dw_661 : decode code 661 = .ok (.iadd, 1) := by decide +kernel
theorem dw_662 : decode code 662 = .ok (.iaload, 1) := by decide +kernel
theorem dw_663 : decode code 663 = .ok (.invokevirtual 77, 3) := by decide +kernel
theorem dw_666 : decode code 666 = .ok (.if_icmp .eq 712, 3) := by decide +kernel
theorem dw_669 : decode code 669 = .ok (.iconst 0, 1) := by decide +kernel
theorem dw_670 : decode code 670 = .ok (.ireturn, 1) := by decide +kernel
theorem dw_671 : decode code 671 = .ok (.aload_n 1, 1) := by decide +kernel
theorem dw_672 : decode code 672 = .ok (.aload_n 0, 1) := by decide +kernel
theorem dw_673 : decode code 673 = .ok (.iload_n 3, 1) := by decide +kernel
theorem dw_674 : decode code 674 = .ok (.iconst 1, 1) := by decide +kernel
theorem dw_675 : decode code 675 = .ok (.iadd, 1) := by decide +kernel
theorem dw_676 : decode code 676 = .ok (.iaload, 1) := by decide +kernel
theorem dw_677 : decode code 677 = .ok (.aload_n 0, 1) := by decide +kernel
theorem dw_678 : decode code 678 = .ok (.iload_n 3, 1) := by decide +kernel
theorem dw_679 : decode code 679 = .ok (.iconst 2, 1) := by decide +kernel
theorem dw_680 : decode code 680 = .ok (.iadd, 1) := by decide +kernel
theorem dw_681 : decode code 681 = .ok (.iaload, 1) := by decide +kernel
theorem dw_682 : decode code 682 = .ok (.aload_n 0, 1) := by decide +kernel
theorem dw_683 : decode code 683 = .ok (.iload_n 3, 1) := by decide +kernel
theorem dw_684 : decode code 684 = .ok (.iconst 3, 1) := by decide +kernel
theorem dw_685 : decode code 685 = .ok (.iadd, 1) := by decide +kernel
theorem dw_686 : decode code 686 = .ok (.iaload, 1) := by decide +kernel
theorem dw_687 : decode code 687 = .ok (.invokevirtual 78, 3) := by decide +kernel
theorem dw_690 : decode code 690 = .ok (.aload_n 2, 1) := by decide +kernel
theorem dw_691 : decode code 691 = .ok (.aload_n 0, 1) := by decide +kernel
theorem dw_692 : decode code 692 = .ok (.iload_n 3, 1) := by decide +kernel
theorem dw_693 : decode code 693 = .ok (.iconst 1, 1) := by decide +kernel
theorem dw_694 : decode code 694 = .ok (.iadd, 1) := by decide +kernel
theorem dw_695 : decode code 695 = .ok (.iaload, 1) := by decide +kernel
theorem dw_696 : decode code 696 = .ok (.aload_n 0, 1) := by decide +kernel
theorem dw_697 : decode code 697 = .ok (.iload_n 3, 1) := by decide +kernel
theorem dw_698 : decode code 698 = .ok (.iconst 2, 1) := by decide +kernel
theorem dw_699 : decode code 699 = .ok (.iadd, 1) := by decide +kernel
theorem dw_700 : decode code 700 = .ok (.iaload, 1) := by decide +kernel
theorem dw_701 : decode code 701 = .ok (.aload_n 0, 1) := by decide +kernel
theorem dw_702 : decode code 702 = .ok (.iload_n 3, 1) := by decide +kernel
theorem dw_703 : decode code 703 = .ok (.iconst 3, 1) := by decide +kernel
theorem dw_704 : decode code 704 = .ok (.iadd, 1) := by decide +kernel
theorem dw_705 : decode code 705 = .ok (.iaload, 1) := by decide +kernel
theorem dw_706 : decode code 706 = .ok (.invokevirtual 81, 3) := by decide +kernel
theorem dw_709 : decode code 709 = .ok (.if_icmp .eq 669, 3) := by decide +kernel
theorem dw_712 : decode code 712 = .ok (.iconst 0, 1) := by decide +kernel
theorem dw_713 : decode code 713 = .ok (.ireturn, 1) := by decide +kernel
theorem dw_714 : decode code 714 = .ok (.aload_n 1, 1) := by decide +kernel
theorem dw_715 : decode code 715 = .ok (.aload_n 0, 1) := by decide +kernel
theorem dw_716 : decode code 716 = .ok (.iload_n 3, 1) := by decide +kernel
theorem dw_717 : decode code 717 = .ok (.iconst 1, 1) := by decide +kernel
theorem dw_718 : decode code 718 = .ok (.iadd, 1) := by decide +kernel
theorem dw_719 : decode code 719 = .ok (.iaload, 1) := by decide +kernel
theorem dw_720 : decode code 720 = .ok (.aload_n 0, 1) := by decide +kernel
theorem dw_721 : decode code 721 = .ok (.iload_n 3, 1) := by decide +kernel
theorem dw_722 : decode code 722 = .ok (.iconst 2, 1) := by decide +kernel
theorem dw_723 : decode code 723 = .ok (.iadd, 1) := by decide +kernel
theorem dw_724 : decode code 724 = .ok (.iaload, 1) := by decide +kernel
theorem dw_725 : decode code 725 = .ok (.aload_n 0, 1) := by decide +kernel
theorem dw_726 : decode code 726 = .ok (.iload_n 3, 1) := by decide +kernel
theorem dw_727 : decode code 727 = .ok (.iconst 3, 1) := by decide +kernel
theorem dw_728 : decode code 728 = .ok (.iadd, 1) := by decide +kernel
theorem dw_729 : decode code 729 = .ok (.iaload, 1) := by decide +kernel
theorem dw_730 : decode code 730 = .ok (.invokevirtual 82, 3) := by decide +kernel
theorem dw_733 : decode code 733 = .ok (.aload_n 2, 1) := by decide +kernel
theorem dw_734 : decode code 734 = .ok (.aload_n 0, 1) := by decide +kernel
theorem dw_735 : decode code 735 = .ok (.iload_n 3, 1) := by decide +kernel
theorem dw_736 : decode code 736 = .ok (.iconst 1, 1) := by decide +kernel
theorem dw_737 : decode code 737 = .ok (.iadd, 1) := by decide +kernel
theorem dw_738 : decode code 738 = .ok (.iaload, 1) := by decide +kernel
theorem dw_739 : decode code 739 = .ok (.aload_n 0, 1) := by decide +kernel
theorem dw_740 : decode code 740 = .ok (.iload_n 3, 1) := by decide +kernel
theorem dw_741 : decode code 741 = .ok (.iconst 2, 1) := by decide +kernel
theorem dw_742 : decode code 742 = .ok (.iadd, 1) := by decide +kernel
theorem dw_743 : decode code 743 = .ok (.iaload, 1) := by decide +kernel
theorem dw_744 : decode code 744 = .ok (.aload_n 0, 1) := by decide +kernel
theorem dw_745 : decode code 745 = .ok (.iload_n 3, 1) := by decide +kernel
theorem dw_746 : decode code 746 = .ok (.iconst 3, 1) := by decide +kernel
theorem dw_747 : decode code 747 = .ok (.iadd, 1) := by decide +kernel
theorem dw_748 : decode code 748 = .ok (.iaload, 1) := by decide +kernel
theorem dw_749 : decode code 749 = .ok (.invokevirtual 85, 3) := by decide +kernel
theorem dw_752 : decode code 752 = .ok (.if_icmp .eq 626, 3) := by decide +kernel
theorem dw_755 : decode code 755 = .ok (.iconst 0, 1) := by decide +kernel
theorem dw_756 : decode code 756 = .ok (.ireturn, 1) := by decide +kernel
theorem dw_757 : decode code 757 = .ok (.aload_n 1, 1) := by decide +kernel
theorem dw_758 : decode code 758 = .ok (.aload_n 0, 1) := by decide +kernel
theorem dw_759 : decode code 759 = .ok (.iload_n 3, 1) := by decide +kernel
theorem dw_760 : decode code 760 = .ok (.iconst 1, 1) := by decide +kernel
theorem dw_761 : decode code 761 = .ok (.iadd, 1) := by decide +kernel
theorem dw_762 : decode code 762 = .ok (.iaload, 1) := by decide +kernel
theorem dw_763 : decode code 763 = .ok (.aload_n 0, 1) := by decide +kernel
theorem dw_764 : decode code 764 = .ok (.iload_n 3, 1) := by decide +kernel
theorem dw_765 : decode code 765 = .ok (.iconst 2, 1) := by decide +kernel
