theorem d_Lw_law_714 : decode b_Lw_law 714 = .ok (.iaload, 1) := by decide +kernel
theorem d_Lw_law_715 : decode b_Lw_law 715 = .ok (.aload_n 0, 1) := by decide +kernel
theorem d_Lw_law_716 : decode b_Lw_law 716 = .ok (.iload_n 3, 1) := by decide +kernel
theorem d_Lw_law_717 : decode b_Lw_law 717 = .ok (.iconst 2, 1) := by decide +kernel
theorem d_Lw_law_718 : decode b_Lw_law 718 = .ok (.iadd, 1) := by decide +kernel
theorem d_Lw_law_719 : decode b_Lw_law 719 = .ok (.iaload, 1) := by decide +kernel
theorem d_Lw_law_720 : decode b_Lw_law 720 = .ok (.invokevirtual 96, 3) := by decide +kernel
theorem d_Lw_law_723 : decode b_Lw_law 723 = .ok (.aload_n 2, 1) := by decide +kernel
theorem d_Lw_law_724 : decode b_Lw_law 724 = .ok (.aload_n 0, 1) := by decide +kernel
theorem d_Lw_law_725 : decode b_Lw_law 725 = .ok (.iload_n 3, 1) := by decide +kernel
theorem d_Lw_law_726 : decode b_Lw_law 726 = .ok (.iconst 1, 1) := by decide +kernel
theorem d_Lw_law_727 : decode b_Lw_law 727 = .ok (.iadd, 1) := by decide +kernel
theorem d_Lw_law_728 : decode b_Lw_law 728 = .ok (.iaload, 1) := by decide +kernel
theorem d_Lw_law_729 : decode b_Lw_law 729 = .ok (.aload_n 0, 1) := by decide +kernel
theorem d_Lw_law_730 : decode b_Lw_law 730 = .ok (.iload_n 3, 1) := by decide +kernel
theorem d_Lw_law_731 : decode b_Lw_law 731 = .ok (.iconst 2, 1) := by decide +kernel
theorem d_Lw_law_732 : decode b_Lw_law 732 = .ok (.iadd, 1) := by decide +kernel
theorem d_Lw_law_733 : decode b_Lw_law 733 = .ok (.iaload, 1) := by decide +kernel
theorem d_Lw_law_734 : decode b_Lw_law 734 = .ok (.invokevirtual 99, 3) := by decide +kernel
theorem d_Lw_law_737 : decode b_Lw_law 737 = .ok (.if_icmp .eq 171, 3) := by decide +kernel
theorem d_Lw_law_740 : decode b_Lw_law 740 = .ok (.iconst 0, 1) := by decide +kernel
theorem d_Lw_law_741 : decode b_Lw_law 741 = .ok (.ireturn, 1) := by decide +kernel
theorem d_Lw_law_742 : decode b_Lw_law 742 = .ok (.aload_n 1, 1) := by decide +kernel
theorem d_Lw_law_743 : decode b_Lw_law 743 = .ok (.aload_n 0, 1) := by decide +kernel
theorem d_Lw_law_744 : decode b_Lw_law 744 = .ok (.iload_n 3, 1) := by decide +kernel
theorem d_Lw_law_745 : decode b_Lw_law 745 = .ok (.iconst 1, 1) := by decide +kernel
theorem d_Lw_law_746 : decode b_Lw_law 746 = .ok (.iadd, 1) := by decide +kernel
theorem d_Lw_law_747 : decode b_Lw_law 747 = .ok (.iaload, 1) := by decide +kernel
theorem d_Lw_law_748 : decode b_Lw_law 748 = .ok (.aload_n 0, 1) := by decide +kernel
theorem d_Lw_law_749 : decode b_Lw_law 749 = .ok (.iload_n 3, 1) := by decide +kernel
theorem d_Lw_law_750 : decode b_Lw_law 750 = .ok (.iconst 2, 1) := by decide +kernel
theorem d_Lw_law_751 : decode b_Lw_law 751 = .ok (.iadd, 1) := by decide +kernel
theorem d_Lw_law_752 : decode b_Lw_law 752 = .ok (.iaload, 1) := by decide +kernel
theorem d_Lw_law_753 : decode b_Lw_law 753 = .ok (.aload_n 0, 1) := by decide +kernel
theorem d_Lw_law_754 : decode b_Lw_law 754 = .ok (.iload_n 3, 1) := by decide +kernel
theorem d_Lw_law_755 : decode b_Lw_law 755 = .ok (.iconst 3, 1) := by decide +kernel
theorem d_Lw_law_756 : decode b_Lw_law 756 = .ok (.iadd, 1) := by decide +kernel
theorem d_Lw_law_757 : decode b_Lw_law 757 = .ok (.iaload, 1) := by decide +kernel
theorem d_Lw_law_758 : decode b_Lw_law 758 = .ok (.invokevirtual 100, 3) := by decide +kernel
theorem d_Lw_law_761 : decode b_Lw_law 761 = .ok (.aload_n 2, 1) := by decide +kernel
theorem d_Lw_law_762 : decode b_Lw_law 762 = .ok (.aload_n 0, 1) := by decide +kernel
theorem d_Lw_law_763 : decode b_Lw_law 763 = .ok (.iload_n 3, 1) := by decide +kernel
theorem d_Lw_law_764 : decode b_Lw_law 764 = .ok (.iconst 1, 1) := by decide +kernel
theorem d_Lw_law_765 : decode b_Lw_law 765 = .ok (.iadd, 1) := by decide +kernel
theorem d_Lw_law_766 : decode b_Lw_law 766 = .ok (.iaload, 1) := by decide +kernel
theorem d_Lw_law_767 : decode b_Lw_law 767 = .ok (.aload_n 0, 1) := by decide +kernel
theorem d_Lw_law_768 : decode b_Lw_law 768 = .ok (.iload_n 3, 1) := by decide +kernel
theorem d_Lw_law_769 : decode b_Lw_law 769 = .ok (.iconst 2, 1) := by decide +kernel
theorem d_Lw_law_770 : decode b_Lw_law 770 = .ok (.iadd, 1) := by decide +kernel
theorem d_Lw_law_771 : decode b_Lw_law 771 = .ok (.iaload, 1) := by decide +kernel
theorem d_Lw_law_772 : decode b_Lw_law 772 = .ok (.aload_n 0, 1) := by decide +kernel
theorem d_Lw_law_773 : decode b_Lw_law 773 = .ok (.iload_n 3, 1) := by decide +kernel
theorem d_Lw_law_774 : decode b_Lw_law 774 = .ok (.iconst 3, 1) := by decide +kernel
theorem d_Lw_law_775 : decode b_Lw_law 775 = .ok (.iadd, 1) := by decide +kernel
theorem d_Lw_law_776 : decode b_Lw_law 776 = .ok (.iaload, 1) := by decide +kernel
theorem d_Lw_law_777 : decode b_Lw_law 777 = .ok (.invokevirtual 103, 3) := by decide +kernel
theorem d_Lw_law_780 : decode b_Lw_law 780 = .ok (.if_icmp .eq 128, 3) := by decide +kernel
theorem d_Lw_law_783 : decode b_Lw_law 783 = .ok (.iconst 0, 1) := by decide +kernel
theorem d_Lw_law_784 : decode b_Lw_law 784 = .ok (.ireturn, 1) := by decide +kernel
theorem d_Lw_law_785 : decode b_Lw_law 785 = .ok (.aload_n 1, 1) := by decide +kernel
theorem d_Lw_law_786 : decode b_Lw_law 786 = .ok (.aload_n 0, 1) := by decide +kernel
theorem d_Lw_law_787 : decode b_Lw_law 787 = .ok (.iload_n 3, 1) := by decide +kernel
theorem d_Lw_law_788 : decode b_Lw_law 788 = .ok (.iconst 1, 1) := by decide +kernel
theorem d_Lw_law_789 : decode b_Lw_law 789 = .ok (.iadd, 1) := by decide +kernel
theorem d_Lw_law_790 : decode b_Lw_law 790 = .ok (.iaload, 1) := by decide +kernel
theorem d_Lw_law_791 : decode b_Lw_law 791 = .ok (.aload_n 0, 1) := by decide +kernel
theorem d_Lw_law_792 : decode b_Lw_law 792 = .ok (.iload_n 3, 1) := by decide +kernel
theorem d_Lw_law_793 : decode b_Lw_law 793 = .ok (.iconst 2, 1) := by decide +kernel
theorem d_Lw_law_794 : decode b_Lw_law 794 = .ok (.iadd, 1) := by decide +kernel
theorem d_Lw_law_795 : decode b_Lw_law 795 = .ok (.iaload, 1) := by decide +kernel
theorem d_Lw_law_796 : decode b_Lw_law 796 = .ok (.invokevirtual 104, 3) := by decide +kernel
theorem d_Lw_law_799 : decode b_Lw_law 799 = .ok (.aload_n 2, 1) := by decide +kernel
theorem d_Lw_law_800 : decode b_Lw_law 800 = .ok (.aload_n 0, 1) := by decide +kernel
theorem d_Lw_law_801 : decode b_Lw_law 801 = .ok (.iload_n 3, 1) := by decide +kernel
theorem d_Lw_law_802 : decode b_Lw_law 802 = .ok (.iconst 1, 1) := by decide +kernel
theorem d_Lw_law_803 : decode b_Lw_law 803 = .ok (.iadd, 1) := by decide +kernel
theorem d_Lw_law_804 : decode b_Lw_law 804 = .ok (.iaload, 1) := by decide +kernel
theorem d_Lw_law_805 : decode b_Lw_law 805 = .ok (.aload_n 0, 1) := by decide +kernel
theorem d_Lw_law_806 : decode b_Lw_law 806 = .ok (.iload_n 3, 1) := by decide +kernel
theorem d_Lw_law_807 : decode b_Lw_law 807 = .ok (.iconst 2, 1) := by decide +kernel
theorem d_Lw_law_808 : decode b_Lw_law 808 = .ok (.iadd, 1) := by decide +kernel
theorem d_Lw_law_809 : decode b_Lw_law 809 = .ok (.iaload, 1) := by decide +kernel
theorem d_Lw_law_810 : decode b_Lw_law 810 = .ok (.invokevirtual 107, 3) := by decide +kernel
theorem d_Lw_law_813 : decode b_Lw_law 813 = .ok (.if_icmp .eq 95, 3) := by decide +kernel
theorem d_Lw_law_816 : decode b_Lw_law 816 = .ok (.iconst 0, 1) := by decide +kernel
theorem d_Lw_law_817 : decode b_Lw_law 817 = .ok (.ireturn, 1) := by decide +kernel
theorem d_Lw_law_818 : decode b_Lw_law 818 = .ok (.aload_n 1, 1) := by decide +kernel
theorem d_Lw_law_819 : decode b_Lw_law 819 = .ok (.aload_n 0, 1) := by decide +kernel
theorem d_Lw_law_820 : decode b_Lw_law 820 = .ok (.iload_n 3, 1) := by decide +kernel
theorem d_Lw_law_821 : decode b_Lw_law 821 = .ok (.iconst 1, 1) := by decide +kernel
theorem d_Lw_law_822 : decode b_Lw_law 822 = .ok (.iadd, 1) := by decide +kernel
theorem d_Lw_law_823 : decode b_Lw_law 823 = .ok (.iaload, 1) := by decide +kernel
theorem d_Lw_law_824 : decode b_Lw_law 824 = .ok (.aload_n 0, 1) := by decide +kernel
theorem d_Lw_law_825 : decode b_Lw_law 825 = .ok (.iload_n 3, 1) := by decide +kernel
theorem d_Lw_law_826 : decode b_Lw_law 826 = .ok (.iconst 2, 1) := by decide +kernel
theorem d_Lw_law_827 : decode b_Lw_law 827 = .ok (.iadd, 1) := by decide +kernel
theorem d_Lw_law_828 : decode b_Lw_law 828 = .ok (.iaload, 1) := by decide +kernel
theorem d_Lw_law_829 : decode b_Lw_law 829 = .ok (.invokevirtual 108, 3) := by decide +kernel
theorem d_Lw_law_832 : decode b_Lw_law 832 = .ok (.aload_n 2, 1) := by decide +kernel
theorem d_Lw_law_833 : decode b_Lw_law 833 = .ok (.aload_n 0, 1) := by decide +kernel
