theorem dyL_law_736 : decode cL_law 736 = .ok (.aload_n 0, 1) := by decide +kernel
theorem dyL_law_737 : decode cL_law 737 = .ok (.iload_n 3, 1) := by decide +kernel
theorem dyL_law_738 : decode cL_law 738 = .ok (.iconst 1, 1) := by decide +kernel
theorem dyL_law_739 : decode cL_law 739 = .ok (.iadd, 1) := by decide +kernel
theorem dyL_law_740 : decode cL_law 740 = .ok (.iaload, 1) := by decide +kernel
theorem dyL_law_741 : decode cL_law 741 = .ok (.invokevirtual 102, 3) := by decide +kernel
theorem dyL_law_744 : decode cL_law 744 = .ok (.pop, 1) := by decide +kernel
theorem dyL_law_745 : decode cL_law 745 = .ok (.aload_n 2, 1) := by decide +kernel
theorem dyL_law_746 : decode cL_law 746 = .ok (.aload_n 0, 1) := by decide +kernel
theorem dyL_law_747 : decode cL_law 747 = .ok (.iload_n 3, 1) := by decide +kernel
theorem dyL_law_748 : decode cL_law 748 = .ok (.iconst 1, 1) := by decide +kernel
theorem dyL_law_749 : decode cL_law 749 = .ok (.iadd, 1) := by decide +kernel
theorem dyL_law_750 : decode cL_law 750 = .ok (.iaload, 1) := by decide +kernel
theorem dyL_law_751 : decode cL_law 751 = .ok (.invokevirtual 105, 3) := by decide +kernel
theorem dyL_law_754 : decode cL_law 754 = .ok (.pop, 1) := by decide +kernel
theorem dyL_law_755 : decode cL_law 755 = .ok (.goto 490, 3) := by decide +kernel
theorem dyL_law_758 : decode cL_law 758 = .ok (.aload_n 1, 1) := by decide +kernel
theorem dyL_law_759 : decode cL_law 759 = .ok (.aload_n 0, 1) := by decide +kernel
theorem dyL_law_760 : decode cL_law 760 = .ok (.iload_n 3, 1) := by decide +kernel
theorem dyL_law_761 : decode cL_law 761 = .ok (.iconst 1, 1) := by decide +kernel
theorem dyL_law_762 : decode cL_law 762 = .ok (.iadd, 1) := by decide +kernel
theorem dyL_law_763 : decode cL_law 763 = .ok (.iaload, 1) := by decide +kernel
theorem dyL_law_764 : decode cL_law 764 = .ok (.aload_n 0, 1) := by decide +kernel
theorem dyL_law_765 : decode cL_law 765 = .ok (.iload_n 3, 1) := by decide +kernel
theorem dyL_law_766 : decode cL_law 766 = .ok (.iconst 2, 1) := by decide +kernel
theorem dyL_law_767 : decode cL_law 767 = .ok (.iadd, 1) := by decide +kernel
theorem dyL_law_768 : decode cL_law 768 = .ok (.iaload, 1) := by decide +kernel
theorem dyL_law_769 : decode cL_law 769 = .ok (.invokevirtual 106, 3) := by decide +kernel
theorem dyL_law_772 : decode cL_law 772 = .ok (.pop, 1) := by decide +kernel
theorem dyL_law_773 : decode cL_law 773 = .ok (.aload_n 2, 1) := by decide +kernel
theorem dyL_law_774 : decode cL_law 774 = .ok (.aload_n 0, 1) := by decide +kernel
theorem dyL_law_775 : decode cL_law 775 = .ok (.iload_n 3, 1) := by decide +kernel
theorem dyL_law_776 : decode cL_law 776 = .ok (.iconst 1, 1) := by decide +kernel
theorem dyL_law_777 : decode cL_law 777 = .ok (.iadd, 1) := by decide +kernel
theorem dyL_law_778 : decode cL_law 778 = .ok (.iaload, 1) := by decide +kernel
theorem dyL_law_779 : decode cL_law 779 = .ok (.aload_n 0, 1) := by decide +kernel
theorem dyL_law_780 : decode cL_law 780 = .ok (.iload_n 3, 1) := by decide +kernel
theorem dyL_law_781 : decode cL_law 781 = .ok (.iconst 2, 1) := by decide +kernel
theorem dyL_law_782 : decode cL_law 782 = .ok (.iadd, 1) := by decide +kernel
theorem dyL_law_783 : decode cL_law 783 = .ok (.iaload, 1) := by decide +kernel
theorem dyL_law_784 : decode cL_law 784 = .ok (.invokevirtual 109, 3) := by decide +kernel
theorem dyL_law_787 : decode cL_law 787 = .ok (.pop, 1) := by decide +kernel
theorem dyL_law_788 : decode cL_law 788 = .ok (.goto 457, 3) := by decide +kernel
theorem dyL_law_791 : decode cL_law 791 = .ok (.aload_n 1, 1) := by decide +kernel
theorem dyL_law_792 : decode cL_law 792 = .ok (.aload_n 0, 1) := by decide +kernel
theorem dyL_law_793 : decode cL_law 793 = .ok (.iload_n 3, 1) := by decide +kernel
theorem dyL_law_794 : decode cL_law 794 = .ok (.iconst 1, 1) := by decide +kernel
theorem dyL_law_795 : decode cL_law 795 = .ok (.iadd, 1) := by decide +kernel
theorem dyL_law_796 : decode cL_law 796 = .ok (.iaload, 1) := by decide +kernel
theorem dyL_law_797 : decode cL_law 797 = .ok (.invokevirtual 110, 3) := by decide +kernel
theorem dyL_law_800 : decode cL_law 800 = .ok (.pop, 1) := by decide +kernel
theorem dyL_law_801 : decode cL_law 801 = .ok (.aload_n 2, 1) := by decide +kernel
theorem dyL_law_802 : decode cL_law 802 = .ok (.aload_n 0, 1) := by decide +kernel
theorem dyL_law_803 : decode cL_law 803 = .ok (.iload_n 3, 1) := by decide +kernel
theorem dyL_law_804 : decode cL_law 804 = .ok (.iconst 1, 1) := by decide +kernel
theorem dyL_law_805 : decode cL_law 805 = .ok (.iadd, 1) := by decide +kernel
theorem dyL_law_806 : decode cL_law 806 = .ok (.iaload, 1) := by decide +kernel
theorem dyL_law_807 : decode cL_law 807 = .ok (.invokevirtual 113, 3) := by decide +kernel
theorem dyL_law_810 : decode cL_law 810 = .ok (.pop, 1) := by decide +kernel
theorem dyL_law_811 : decode cL_law 811 = .ok (.goto 434, 3) := by decide +kernel
theorem dyL_law_814 : decode cL_law 814 = .ok (.aload_n 1, 1) := by decide +kernel
theorem dyL_law_815 : decode cL_law 815 = .ok (.aload_n 0, 1) := by decide +kernel
theorem dyL_law_816 : decode cL_law 816 = .ok (.iload_n 3, 1) := by decide +kernel
theorem dyL_law_817 : decode cL_law 817 = .ok (.iconst 1, 1) := by decide +kernel
theorem dyL_law_818 : decode cL_law 818 = .ok (.iadd, 1) := by decide +kernel
theorem dyL_law_819 : decode cL_law 819 = .ok (.iaload, 1) := by decide +kernel
theorem dyL_law_820 : decode cL_law 820 = .ok (.invokevirtual 114, 3) := by decide +kernel
theorem dyL_law_823 : decode cL_law 823 = .ok (.pop, 1) := by decide +kernel
theorem dyL_law_824 : decode cL_law 824 = .ok (.aload_n 2, 1) := by decide +kernel
theorem dyL_law_825 : decode cL_law 825 = .ok (.aload_n 0, 1) := by decide +kernel
theorem dyL_law_826 : decode cL_law 826 = .ok (.iload_n 3, 1) := by decide +kernel
theorem dyL_law_827 : decode cL_law 827 = .ok (.iconst 1, 1) := by decide +kernel
theorem dyL_law_828 : decode cL_law 828 = .ok (.iadd, 1) := by decide +kernel
theorem dyL_law_829 : decode cL_law 829 = .ok (.iaload, 1) := by decide +kernel
theorem dyL_law_830 : decode cL_law 830 = .ok (.invokevirtual 117, 3) := by decide +kernel
theorem dyL_law_833 : decode cL_law 833 = .ok (.pop, 1) := by decide +kernel
theorem dyL_law_834 : decode cL_law 834 = .ok (.goto 411, 3) := by decide +kernel
theorem dyL_law_837 : decode cL_law 837 = .ok (.aload_n 1, 1) := by decide +kernel
theorem dyL_law_838 : decode cL_law 838 = .ok (.aload_n 0, 1) := by decide +kernel
theorem dyL_law_839 : decode cL_law 839 = .ok (.iload_n 3, 1) := by decide +kernel
theorem dyL_law_840 : decode cL_law 840 = .ok (.iconst 1, 1) := by decide +kernel
theorem dyL_law_841 : decode cL_law 841 = .ok (.iadd, 1) := by decide +kernel
theorem dyL_law_842 : decode cL_law 842 = .ok (.iaload, 1) := by decide +kernel
theorem dyL_law_843 : decode cL_law 843 = .ok (.aload_n 0, 1) := by decide +kernel
theorem dyL_law_844 : decode cL_law 844 = .ok (.iload_n 3, 1) := by decide +kernel
theorem dyL_law_845 : decode cL_law 845 = .ok (.iconst 2, 1) := by decide +kernel
theorem dyL_law_846 : decode cL_law 846 = .ok (.iadd, 1) := by decide +kernel
theorem dyL_law_847 : decode cL_law 847 = .ok (.iaload, 1) := by decide +kernel
theorem dyL_law_848 : decode cL_law 848 = .ok (.invokevirtual 118, 3) := by decide +kernel
theorem dyL_law_851 : decode cL_law 851 = .ok (.pop, 1) := by decide +kernel
theorem dyL_law_852 : decode cL_law 852 = .ok (.aload_n 2, 1) := by decide +kernel
theorem dyL_law_853 : decode cL_law 853 = .ok (.aload_n 0, 1) := by decide +kernel
theorem dyL_law_854 : decode cL_law 854 = .ok (.iload_n 3, 1) := by decide +kernel
theorem dyL_law_855 : decode cL_law 855 = .ok (.iconst 1, 1) := by decide +kernel
theorem dyL_law_856 : decode cL_law 856 = .ok (.iadd, 1) := by decide +kernel
theorem dyL_law_857 : decode cL_law 857 = .ok (.iaload, 1) := by decide +kernel
theorem dyL_law_858 : decode cL_law 858 = .ok (.aload_n 0, 1) := by decide +kernel
theorem dyL_law_859 : decode cL_law 859 = .ok (.iload_n 3, 1) := by decide +kernel
theorem dyL_law_860 : decode cL_law 860 = .ok (.iconst 2, 1) := by decide +kernel
theorem dyL_law_861 : decode cL_law 861 = .ok (.iadd, 1) := by decide +kernel
theorem dyL_law_862 : decode cL_law 862 = .ok (.iaload, 1) := by decide +kernel
theorem dyL_law_863 : decode cL_law 863 = .ok (.invokevirtual 121, 3) := by decide +kernel
theorem dyL_law_866 : decode cL_law 866 = .ok (.pop, 1) := by decide +kernel
theorem dyL_law_867 : decode cL_law 867 = .ok (.goto 378, 3) := by decide +kernel
theorem dyL_law_870 : decode cL_law 870 = .ok (.aload_n 1, 1) := by decide +kernel
theorem dyL_law_871 : decode cL_law 871 = .ok (.aload_n 0, 1) := by decide +kernel
theorem dyL_law_872 : decode cL_law 872 = .ok (.iload_n 3, 1) := by decide +kernel
theorem dyL_law_873 : decode cL_law 873 = .ok (.iconst 1, 1) := by decide +kernel
theorem dyL_law_874 : decode cL_law 874 = .ok (.iadd, 1) := by decide +kernel
theorem dyL_law_875 : decode cL_law 875 = .ok (.iaload, 1) := by decide +kernel
theorem dyL_law_876 : decode cL_law 876 = .ok (.invokevirtual 122, 3) := by decide +kernel
theorem dyL_law_879 : decode cL_law 879 = .ok (.pop, 1) := by decide +kernel
theorem dyL_law_880 : decode cL_law 880 = .ok (.aload_n 2, 1) := by decide +kernel
theorem dyL_law_881 : decode cL_law 881 = .ok (.aload_n 0, 1) := by decide +kernel
theorem dyL_law_882 : decode cL_law 882 = .ok (.iload_n 3, 1) := by decide +kernel
theorem dyL_law_883 : decode cL_law 883 = .ok (.iconst 1, 1) := by decide +kernel
theorem dyL_law_884 : decode cL_law 884 = .ok (.iadd, 1) := by decide +kernel
theorem dyL_law_885 : decode cL_law 885 = .ok (.iaload, 1) := by decide +kernel
theorem dyL_law_886 : decode cL_law 886 = .ok (.invokevirtual 125, 3) := by decide +kernel
theorem dyL_law_889 : decode cL_law 889 = .ok (.pop, 1) := by decide +kernel
theorem dyL_law_890 : decode cL_law 890 = .ok (.goto 355, 3) := by decide +kernel
theorem dyL_law_893 : decode cL_law 893 = .ok (.aload_n 1, 1) := by decide +kernel
theorem dyL_law_894 : decode cL_law 894 = .ok (.aload_n 0, 1) := by decide +kernel
theorem dyL_law_895 : decode cL_law 895 = .ok (.iload_n 3, 1) := by decide +kernel
theorem dyL_law_896 : decode cL_law 896 = .ok (.iconst 1, 1) := by decide +kernel
theorem dyL_law_897 : decode cL_law 897 = .ok (.iadd, 1) := by decide +kernel
theorem dyL_law_898 : decode cL_law 898 = .ok (.iaload, 1) := by decide +kernel
theorem dyL_law_899 : decode cL_law 899 = .ok (.invokevirtual 126, 3) := by decide +kernel
theorem dyL_law_902 : decode cL_law 902 = .ok (.pop, 1) := by decide +kernel
theorem dyL_law_903 : decode cL_law 903 = .ok (.aload_n 2, 1) := by decide +kernel
theorem dyL_law_904 : decode cL_law 904 = .ok (.aload_n 0, 1) := by decide +kernel
theorem dyL_law_905 : decode cL_law 905 = .ok (.iload_n 3, 1) := by decide +kernel
theorem dyL_law_906 : decode cL_law 906 = .ok (.iconst 1, 1) := by decide +kernel
theorem dyL_law_907 : decode cL_law 907 = .ok (.iadd, 1) := by decide +kernel
theorem dyL_law_908 : decode cL_law 908 = .ok (.iaload, 1) := by decide +kernel
theorem dyL_law_909 : decode cL_law 909 = .ok (.invokevirtual 129, 3) := by decide +kernel
theorem dyL_law_912 : decode cL_law 912 = .ok (.pop, 1) := by decide +kernel
theorem dyL_law_913 : decode cL_law 913 = .ok (.goto 332, 3) := by decide +kernel
theorem dyL_law_916 : decode cL_law 916 = .ok (.aload_n 1, 1) := by decide +kernel
theorem dyL_law_917 : decode cL_law 917 = .ok (.invokevirtual 130, 3) := by decide +kernel
theorem dyL_law_920 : decode cL_law 920 = .ok (.pop, 1) := by decide +kernel
theorem dyL_law_921 : decode cL_law 921 = .ok (.aload_n 2, 1) := by decide +kernel
theorem dyL_law_922 : decode cL_law 922 = .ok (.invokevirtual 133, 3) := by decide +kernel
theorem dyL_law_925 : decode cL_law 925 = .ok (.pop, 1) := by decide +kernel
theorem dyL_law_926 : decode cL_law 926 = .ok (.goto 319, 3) := by decide +kernel
theorem dyL_law_929 : decode cL_law 929 = .ok (.aload_n 1, 1) := by decide +kernel
theorem dyL_law_930 : decode cL_law 930 = .ok (.aload_n 0, 1) := by decide +kernel
theorem dyL_law_931 : decode cL_law 931 = .ok (.iload_n 3, 1) := by decide +kernel
theorem dyL_law_932 : decode cL_law 932 = .ok (.iconst 1, 1) := by decide +kernel
theorem dyL_law_933 : decode cL_law 933 = .ok (.iadd, 1) := by decide +kernel
theorem dyL_law_934 : decode cL_law 934 = .ok (.iaload, 1) := by decide +kernel
theorem dyL_law_935 : decode cL_law 935 = .ok (.invokevirtual 134, 3) := by decide +kernel
theorem dyL_law_938 : decode cL_law 938 = .ok (.aload_n 2, 1) := by decide +kernel
theorem dyL_law_939 : decode cL_law 939 = .ok (.aload_n 0, 1) := by decide +kernel
theorem dyL_law_940 : decode cL_law 940 = .ok (.iload_n 3, 1) := by decide +kernel
theorem dyL_law_941 : decode cL_law 941 = .ok (.iconst 1, 1) := by decide +kernel
theorem dyL_law_942 : decode cL_law 942 = .ok (.iadd, 1) := by decide +kernel
theorem dyL_law_943 : decode cL_law 943 = .ok (.iaload, 1) := by decide +kernel
theorem dyL_law_944 : decode cL_law 944 = .ok (.invokevirtual 137, 3) := by decide +kernel
theorem dyL_law_947 : decode cL_law 947 = .ok (.if_icmp .eq 298, 3) := by decide +kernel
theorem dyL_law_950 : decode cL_law 950 = .ok (.iconst 0, 1) := by decide +kernel
theorem dyL_law_952 : decode cL_law 952 = .ok (.aload_n 1, 1) := by decide +kernel
theorem dyL_law_953 : decode cL_law 953 = .ok (.aload_n 0, 1) := by decide +kernel
theorem dyL_law_954 : decode cL_law 954 = .ok (.iload_n 3, 1) := by decide +kernel
theorem dyL_law_955 : decode cL_law 955 = .ok (.iconst 1, 1) := by decide +kernel
theorem dyL_law_956 : decode cL_law 956 = .ok (.iadd, 1) := by decide +kernel
theorem dyL_law_957 : decode cL_law 957 = .ok (.iaload, 1) := by decide +kernel
theorem dyL_law_958 : decode cL_law 958 = .ok (.invokevirtual 138, 3) := by decide +kernel
theorem dyL_law_961 : decode cL_law 961 = .ok (.pop, 1) := by decide +kernel
theorem dyL_law_962 : decode cL_law 962 = .ok (.aload_n 2, 1) := by decide +kernel
theorem dyL_law_963 : decode cL_law 963 = .ok (.aload_n 0, 1) := by decide +kernel
theorem dyL_law_964 : decode cL_law 964 = .ok (.iload_n 3, 1) := by decide +kernel
theorem dyL_law_965 : decode cL_law 965 = .ok (.iconst 1, 1) := by decide +kernel
theorem dyL_law_966 : decode cL_law 966 = .ok (.iadd, 1) := by decide +kernel
theorem dyL_law_967 : decode cL_law 967 = .ok (.iaload, 1) := by decide +kernel
theorem dyL_law_968 : decode cL_law 968 = .ok (.invokevirtual 141, 3) := by decide +kernel
theorem dyL_law_971 : decode cL_law 971 = .ok (.pop, 1) := by decide +kernel
theorem dyL_law_972 : decode cL_law 972 = .ok (.goto 273, 3) := by decide +kernel
theorem dyL_law_975 : decode cL_law 975 = .ok (.aload_n 1, 1) := by decide +kernel
theorem dyL_law_976 : decode cL_law 976 = .ok (.aload_n 0, 1) := by decide +kernel
theorem dyL_law_977 : decode cL_law 977 = .ok (.iload_n 3, 1) := by decide +kernel
theorem dyL_law_978 : decode cL_law 978 = .ok (.iconst 1, 1) := by decide +kernel
theorem dyL_law_979 : decode cL_law 979 = .ok (.iadd, 1) := by decide +kernel
theorem dyL_law_980 : decode cL_law 980 = .ok (.iaload, 1) := by decide +kernel
theorem dyL_law_981 : decode cL_law 981 = .ok (.invokevirtual 142, 3) := by decide +kernel
theorem dyL_law_984 : decode cL_law 984 = .ok (.pop, 1) := by decide +kernel
theorem dyL_law_985 : decode cL_law 985 = .ok (.aload_n 2, 1) := by decide +kernel
theorem dyL_law_986 : decode cL_law 986 = .ok (.aload_n 0, 1) := by decide +kernel
theorem dyL_law_987 : decode cL_law 987 = .ok (.iload_n 3, 1) := by decide +kernel
theorem dyL_law_988 : decode cL_law 988 = .ok (.iconst 1, 1) := by decide +kernel
theorem dyL_law_989 : decode cL_law 989 = .ok (.iadd, 1) := by decide +kernel
theorem dyL_law_990 : decode cL_law 990 = .ok (.iaload, 1) := by decide +kernel
theorem dyL_law_991 : decode cL_law 991 = .ok (.invokevirtual 145, 3) := by decide +kernel
theorem dyL_law_994 : decode cL_law 994 = .ok (.pop, 1) := by decide +kernel
theorem dyL_law_995 : decode cL_law 995 = .ok (.goto 250, 3) := by decide +kernel
theorem dyL_law_998 : decode cL_law 998 = .ok (.aload_n 1, 1) := by decide +kernel
theorem dyL_law_999 : decode cL_law 999 = .ok (.aload_n 0, 1) := by decide +kernel
theorem dyL_law_1000 : decode cL_law 1000 = .ok (.iload_n 3, 1) := by decide +kernel
theorem dyL_law_1001 : decode cL_law 1001 = .ok (.iconst 1, 1) := by decide +kernel
theorem dyL_law_1002 : decode cL_law 1002 = .ok (.iadd, 1) := by decide +kernel
theorem dyL_law_1003 : decode cL_law 1003 = .ok (.iaload, 1) := by decide +kernel
theorem dyL_law_1004 : decode cL_law 1004 = .ok (.aload_n 0, 1) := by decide +kernel
theorem dyL_law_1005 : decode cL_law 1005 = .ok (.iload_n 3, 1) := by decide +kernel
theorem dyL_law_1006 : decode cL_law 1006 = .ok (.iconst 2, 1) := by decide +kernel
theorem dyL_law_1007 : decode cL_law 1007 = .ok (.iadd, 1) := by decide +kernel
theorem dyL_law_1008 : decode cL_law 1008 = .ok (.iaload, 1) := by decide +kernel
theorem dyL_law_1009 : decode cL_law 1009 = .ok (.invokevirtual 146, 3) := by decide +kernel
theorem dyL_law_1012 : decode cL_law 1012 = .ok (.pop, 1) := by decide +kernel
theorem dyL_law_1013 : decode cL_law 1013 = .ok (.aload_n 2, 1) := by decide +kernel
