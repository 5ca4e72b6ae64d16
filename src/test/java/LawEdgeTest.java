/** THE LAW: its LINES, its conditions, the first wrong byte of each kind, and what it says of a PART. */
public final class LawEdgeTest extends Check {
    public static void main(String[] args) {
        lines();
        lineForm();
        amounts();
        atoms();
        deep();
        sums();
        numbers();
        wordsAndBlanks();
        moreMustCome();
        nothingStays();
        meaning();
        seen();
        full();
        fullJoined();
        white();
        light();
        dries();
        soils();
        end("LawEdgeTest");
    }

    private static void right(String text, int lines) {
        MoonWash m = new MoonWash();
        is("law '" + text + "'", law(m, text), lines);
        is("fault of '" + text + "'", m.fault(), NONE);
        is("count of '" + text + "'", m.count(3), lines);
    }

    private static void rightIf(String condition) {
        right("shine 1 if " + condition, 1);
    }

    /** A condition's wrong byte, counted from the condition's begin. */
    private static void wrongIf(String condition, int fault) {
        wrongLaw("shine 1 if " + condition, 11 + fault);
    }

    /** Whether a condition holds of a part: by WHITE, which is 9 without it. */
    private static boolean holdsOf(MoonWash m, int part, String condition) {
        law(m, "");
        int without = m.part(part, 7);
        law(m, "shine 3 if " + condition);
        int white = m.part(part, 7);
        is("WHITE by '" + condition + "' is one of the two", white == without || white == without + 3, true);
        return white != without;
    }

    private static void yes(String condition) {
        is(condition, holdsOf(new MoonWash(), 3, condition), true);
    }

    private static void no(String condition) {
        is(condition, holdsOf(new MoonWash(), 3, condition), false);
    }

    private static void lines() {
        holds("THE LAW: LINE { ; LINE }, at most 12: twelve", () -> {
            right(times(12, "shine 1"), 12);
            MoonWash m = with("", times(11, "shine 1") + ";dry 2");
            is("all shine", m.part(0, 7), 20);
            is("the twelfth was read", m.part(0, 8), 5);
        });
        holds("THE LAW: LINE { ; LINE }, at most 12: a thirteenth: its first word", () -> {
            wrongLaw(times(13, "shine 1"), 96);
            wrongLaw(times(12, "shine 1") + " ;  dull 99", 99);
            wrongLaw(times(12, "dry 1 if hung") + ";x", 168);
        });
        holds("THE LAW: twelve, and ; behind them", () -> {
            wrongLaw(times(12, "shine 1") + ";", 96);
            wrongLaw(times(12, "shine 1") + ";  ", 98);
        });
        holds("A text that is empty has no LINE", () -> right("", 0));
        holds("A text of blanks alone has no LINE", () -> {
            right(" ", 0);
            right(blanks(400), 0);
        });
        holds("in place of the one before", () -> {
            MoonWash m = with("", "shine 5;dry 3;soil 2");
            is("one", law(m, "dull 1"), 1);
            is("white", m.part(0, 7), 8);
            is("dries", m.part(0, 8), 3);
            m.nights(1);
            is("grey", m.part(0, 0), 0);
            is("none", law(m, ""), 0);
            is("lines", m.count(3), 0);
            is("white", m.part(0, 7), 9);
        });
        holds("in place of the one before: whatever was before, one after another", () -> {
            MoonWash m = new MoonWash();
            law(m, "shine 1 if 2<1;shine 2 if 2<1 or 1<2");
            law(m, "shine 4 if 1<2 and 2<1");
            law(m, "shine 5");
            is("without a condition", m.part(0, 7), 14);
            law(m, "");
            is("without a LINE", m.part(0, 7), 9);
            law(m, "dry 2;shine 3 if hung");
            is("dries", m.part(0, 8), 5);
            is("white", m.part(0, 7), 12);
        });
        holds("in place of the one before: also of the longest", () -> {
            MoonWash m = new MoonWash();
            for (int i = 0; i < 9; i++) {
                law(m, ("shine " + i + " if 1<0" + "+1".repeat(300)).substring(0, 400));
                is("white of " + i, m.part(0, 7), 9 + i);
            }
        });
        holds("(Without a text no LINE holds.)", () -> {
            MoonWash m = new MoonWash();
            is("white", m.part(0, 7), 9);
            is("dries", m.part(0, 8), 3);
            m.nights(1);
            is("grey", m.part(0, 0), 0);
        });
        holds("LINE { ; LINE }: no LINE between, ahead, behind", () -> {
            wrongLaw(";", 0);
            wrongLaw(" ; shine 1", 1);
            wrongLaw("shine 1;;dull 1", 8);
            wrongLaw("shine 1;", 8);
            wrongLaw("shine 1 dull 1", 8);
        });
    }

    private static void lineForm() {
        holds("shine N [ if C ] | dull N [ if C ] | dry N [ if C ] | soil N [ if C ]: without if", () ->
                right("shine 1;dull 1;dry 1;soil 1", 4));
        holds("shine N [ if C ] | dull N [ if C ] | dry N [ if C ] | soil N [ if C ]: with if", () ->
                right("shine 1 if full;dull 1 if hung;dry 1 if 1<2;soil 1 if 1>2", 4));
        holds("words that cannot begin a LINE of THE LAW", () -> {
            String words = "soap water rough takes part grey thin wet stains wind damp night due light spring wolves thieves if or and not full hung a";
            for (String word : words.split(" ")) {
                wrongLaw(word + " 1", 0);
            }
        });
        holds("N must be told", () -> {
            for (String word : new String[] {"shine", "dull", "dry", "soil"}) {
                int n = word.length();
                wrongLaw(word, n);
                wrongLaw(word + " if full", n + 1);
                wrongLaw(word + " ;", n + 1);
                wrongLaw(word + " (1)", n + 1);
            }
        });
        holds("behind N there is if, or ;, or nothing", () -> {
            wrongLaw("shine 1 1", 8);
            wrongLaw("shine 1 full", 8);
            wrongLaw("shine 1 and full", 8);
            wrongLaw("shine 1 (full)", 8);
            wrongLaw("shine 1)", 7);
        });
        holds("behind C there is ; or nothing", () -> {
            wrongIf("full full", 5);
            wrongIf("full if hung", 5);
            wrongIf("full)", 4);
            wrongIf("full 1", 5);
            wrongIf("1<2 part", 4);
            wrongIf("1<2<3", 3);
            wrongIf("1<2>3", 3);
            wrongIf("full not hung", 5);
        });
    }

    private static void amounts() {
        for (String word : new String[] {"shine", "dull", "dry", "soil"}) {
            holds("N 0 to 20 of " + word, () -> {
                right(word + " 0", 1);
                right(word + " 20", 1);
                right(word + " 020", 1);
                wrongLaw(word + " 21", word.length() + 1);
                wrongLaw(word + " 0000", word.length() + 1);
            });
        }
        holds("N 0 to 20: 20 counts for 20", () -> {
            is("shine", with("part 0 grey 9 thin 0", "shine 20").part(0, 7), 20);
            is("dull", with("", "shine 20;shine 5;dull 20").part(0, 7), 14);
            is("dry", with("", "dry 20").part(0, 8), 23);
        });
        holds("N 0 to 20: 0 counts for nothing", () -> {
            MoonWash m = with("", "shine 0;dull 0;dry 0;soil 0");
            is("white", m.part(0, 7), 9);
            is("dries", m.part(0, 8), 3);
            m.nights(1);
            is("grey", m.part(0, 0), 0);
        });
    }

    private static void atoms() {
        holds("C: ALL { or ALL }; ALL: ATOM { and ATOM }: any number of them", () -> {
            rightIf("full");
            rightIf("full or hung");
            rightIf("full and hung");
            rightIf("full or hung and full or hung and full and hung");
        });
        holds("C: something must stand ahead of and behind or, and", () -> {
            wrongIf("or full", 0);
            wrongIf("and full", 0);
            wrongIf("full or", 7);
            wrongIf("full and", 8);
            wrongIf("full or or hung", 8);
            wrongIf("full and or hung", 9);
            wrongIf("full or and hung", 8);
            wrongIf("full or ;", 8);
        });
        holds("ATOM: not ATOM", () -> {
            rightIf("not full");
            rightIf("not not full");
            rightIf("not 1<2");
            wrongIf("not", 3);
            wrongIf("not ;", 4);
            wrongIf("not and full", 4);
            wrongIf("not )", 4);
        });
        holds("ATOM: ( C )", () -> {
            rightIf("(full)");
            rightIf("(full or hung and 1<2)");
            wrongIf("()", 1);
            wrongIf("(full", 5);
            wrongIf("(full;", 5);
            wrongIf("(full hung)", 6);
            wrongIf("(full))", 6);
            wrongIf("(", 1);
            wrongIf(")", 0);
        });
        holds("ATOM: ( C ) is no SUM", () -> {
            wrongIf("(1)<2", 2);
            wrongIf("(1+2)<2", 4);
            wrongIf("2<(1)", 2);
            wrongIf("(full)<2", 6);
            wrongIf("(1<2)+1<2", 5);
        });
        holds("ATOM: full, hung: no SUM", () -> {
            rightIf("full");
            rightIf("hung");
            wrongIf("hung<2", 4);
            wrongIf("full+1<2", 4);
            wrongIf("1<full", 2);
            wrongIf("1+hung<2", 2);
        });
        holds("ATOM: SUM < SUM | SUM > SUM", () -> {
            rightIf("1<2");
            rightIf("1>2");
            wrongIf("1", 1);
            wrongIf("1=2", 1);
            wrongIf("1<=2", 2);
            wrongIf("1<>2", 2);
            wrongIf("1 and 2", 2);
            wrongIf("<2", 0);
            wrongIf("1<", 2);
            wrongIf("1<;", 2);
            wrongIf("1<not full", 2);
        });
    }

    private static void deep() {
        holds("( within one another at most 6 deep", () -> {
            rightIf("((((((full))))))");
            wrongIf("(((((((full)))))))", 6);
        });
        holds("not within one another at most 6 deep", () -> {
            rightIf("not not not not not not full");
            wrongIf("not not not not not not not full", 24);
        });
        holds("( and not within one another at most 6 deep: six of both", () -> {
            rightIf("not(not(not(full)))");
            rightIf("(not(not(not full)))");
            rightIf("((((( not 1<2 )))))");
            wrongIf("not(not(not(not full)))", 12);
            wrongIf("not(not(not((full))))", 12);
            wrongIf("((((((not full))))))", 6);
            wrongIf("not not not not not not (full)", 24);
        });
        holds("at most 6 deep: behind a ) one may go as deep again", () -> {
            rightIf("((((((full)))))) and ((((((hung)))))) or not not not not not not 1<2");
            rightIf("(((((full) or (full)) and (hung))))");
            wrongIf("((((((full)))))) and (((((((hung)))))))", 27);
            rightIf("((((((full)) or ((full))))))");
            wrongIf("((((((full)) or (((full)))))))", 18);
        });
        holds("at most 6 deep: a not goes no further than its ATOM", () -> {
            rightIf("not not not not not not full and not not not not not not hung");
            rightIf("not full and not full and not full and not full and not full and not full and not full and not full");
            wrongIf("not full or not not not not not not not full", 36);
        });
        holds("at most 6 deep: of each LINE by itself", () ->
                right("shine 1 if ((((((full))))));dull 1 if ((((((full))))))", 2));
    }

    private static void sums() {
        holds("SUM: PART { + PART }: any number of them", () -> {
            rightIf("1+2+3+4+5+6+7+8+9<part+grey+thin+wet+stains+wind+damp+night");
            StringBuilder longest = new StringBuilder("0");
            while (longest.length() + 2 <= 400 - 13) {
                longest.append("+1");
            }
            MoonWash m = new MoonWash();
            is("400 bytes", holdsOf(m, 0, "1<" + longest), true);
        });
        holds("SUM: something must stand ahead of and behind +", () -> {
            wrongIf("+1<2", 0);
            wrongIf("1+<2", 2);
            wrongIf("1+", 2);
            wrongIf("1++2<3", 2);
            wrongIf("1<2+", 4);
            wrongIf("1<+2", 2);
            wrongIf("1<2+ ;", 5);
            wrongIf("1 2<3", 2);
        });
        holds("SUM: no other sign", () -> {
            wrongIf("1-1<2", 1);
            wrongIf("1*1<2", 1);
            wrongIf("1<2-1", 3);
        });
        holds("PART: NUMBER | part | grey | thin | wet | stains | wind | damp | night: each", () -> {
            for (String word : "0 part grey thin wet stains wind damp night".split(" ")) {
                rightIf(word + " < " + word);
            }
        });
        holds("PART: other words are none", () -> {
            for (String word : "soap water rough takes due light spring wolves thieves shine dull dry soil if or and white full hung a".split(" ")) {
                wrongIf("1<" + word, 2);
            }
        });
    }

    private static void numbers() {
        holds("All numbers are of 1 to 3 digits: three", () -> {
            rightIf("000<999");
            yes("998<999");
            yes("000<001");
            yes("007<8");
        });
        holds("All numbers are of 1 to 3 digits: four: the begin", () -> {
            wrongIf("1000>1", 0);
            wrongIf("1<1000", 2);
            wrongIf("1+0001<3", 2);
            wrongLaw("shine 0001", 6);
        });
        holds("a number out of its bounds: the begin", () -> {
            wrongLaw("shine 99 if full", 6);
            wrongLaw("shine 999", 6);
        });
    }

    private static void wordsAndBlanks() {
        holds("Words are as long as a to z go on", () -> {
            wrongLaw("shines 1", 0);
            wrongLaw("shinez 1", 0);
            wrongLaw("ashine 1", 0);
            wrongIf("fullhung", 0);
            wrongIf("notfull", 0);
            wrongIf("full andhung", 5);
            wrongIf("parts<1", 0);
            right("shine1if1<2and not(full)or(hung)", 1);
        });
        holds("between all there may be blanks (32), also ahead and behind", () ->
                right("  shine  1  if  (  1  +  2  <  part  )  or  not  full  ;  dull 1  ", 2));
        holds("blanks are 32 alone", () -> {
            for (int other : new int[] {0, 9, 10, 31, 33, 160, 255}) {
                wrongLaw("shine" + (char) other + "1", 5);
                wrongIf("full" + (char) other, 4);
            }
        });
        holds("words of THE LAW are of small letters alone", () -> {
            wrongLaw("Shine 1", 0);
            wrongIf("Full", 0);
            wrongIf("nighT<1", 0);
        });
    }

    private static void moreMustCome() {
        holds("the text's length, if more must come", () -> {
            wrongLaw("shine", 5);
            wrongLaw("shine  ", 7);
            wrongLaw("shine 1 if", 10);
            wrongLaw("shine 1 if  ", 12);
            wrongIf("not ", 4);
            wrongIf("(full ", 6);
            wrongIf("1 ", 2);
            wrongIf("1< ", 3);
        });
        holds("the text's length, if more must come: at 400 bytes", () -> {
            wrongLaw("shine 1 if" + blanks(390), 400);
            wrongLaw(blanks(399) + "(", 399);
            wrongLaw("shine 1" + blanks(392) + ";", 400);
        });
        holds("400 bytes that are a thing each", () -> {
            wrongLaw(";".repeat(400), 0);
            wrongLaw("shine 1" + ";".repeat(393), 8);
            wrongIf("(".repeat(389), 6);
            wrongIf("1<00" + "+1".repeat(192) + "+", 389);
        });
    }

    private static void nothingStays() {
        holds("Of a wrong text nothing stays: THE LAW before holds", () -> {
            MoonWash m = with("", "shine 2;dry 1");
            fails("wrong", IllegalArgumentException.class, x -> law(x, "shine 5;dry 9;x"), m);
            is("lines", m.count(3), 2);
            is("white", m.part(0, 7), 11);
            is("dries", m.part(0, 8), 4);
        });
        holds("Of a wrong text nothing stays: none, if there was none", () -> {
            MoonWash m = new MoonWash();
            fails("wrong", IllegalArgumentException.class, x -> law(x, "shine 5;"), m);
            is("lines", m.count(3), NONE);
            is("white", m.part(0, 7), 9);
        });
        holds("Of a wrong text nothing stays: nor comes with the next", () -> {
            MoonWash m = new MoonWash();
            fails("wrong", IllegalArgumentException.class, x -> law(x, "shine 5 if 1<2;dry 9 if full or"), m);
            is("one", law(m, "shine 1 if hung"), 1);
            is("white", m.part(0, 7), 10);
            is("dries", m.part(0, 8), 3);
        });
    }

    private static void meaning() {
        holds("SUM < SUM: less alone", () -> {
            yes("4<5");
            no("5<5");
            no("6<5");
        });
        holds("SUM > SUM: more alone", () -> {
            yes("6>5");
            no("5>5");
            no("4>5");
        });
        holds("SUM: all PARTS of it together", () -> {
            yes("1+2+3<7");
            no("1+2+3<6");
            yes("7>1+2+3");
            yes("999+999>998+999");
            no("999+999>999+999");
        });
        holds("ALL { or ALL }: one is enough", () -> {
            yes("1<2 or 2<1");
            yes("2<1 or 1<2");
            no("2<1 or 2<1");
            yes("2<1 or 2<1 or 1<2");
        });
        holds("ATOM { and ATOM }: each", () -> {
            yes("1<2 and 1<2");
            no("1<2 and 2<1");
            no("2<1 and 1<2");
            no("1<2 and 1<2 and 2<1");
        });
        holds("and binds ahead of or", () -> {
            yes("1<2 or 1<2 and 2<1");
            yes("2<1 and 1<2 or 1<2");
            no("2<1 or 1<2 and 2<1");
        });
        holds("( C ) first", () -> {
            no("(1<2 or 1<2) and 2<1");
            no("2<1 and (1<2 or 1<2)");
            yes("(2<1 or 1<2) and (1<2 or 2<1)");
        });
        holds("not ATOM: of its ATOM alone", () -> {
            yes("not 2<1");
            no("not 1<2");
            no("not 2<1 and 2<1");
            yes("not 1<2 or 1<2");
            no("not (1<2 or 1<2)");
            yes("1<2 and not 2<1");
            yes("2<1 or not 2<1");
            no("1<2 and not 1<2");
            no("2<1 or not (2<1 or not 2<1)");
            yes("not not 1<2");
            no("not not not not not 1<2");
        });
        holds("at 6 deep it is judged as well", () -> {
            yes("((((((1<2))))))");
            no("((((((2<1))))))");
            yes("not not not not not not 1<2");
            yes("(1<2 and (2<1 or (1<2 and (2<1 or (1<2 and (2<1 or 0<1))))))");
            no("(1<2 and (2<1 or (1<2 and (2<1 or (1<2 and (2<1 or 1<1))))))");
            yes("2<1 or 1<2 and (2<1 or 1<2 and (2<1 or 1<2 and (2<1 or 1<2 and (2<1 or 1<2 and (2<1 or 1<2 and 1<2+3)))))");
        });
        holds("each LINE has its own condition", () -> {
            MoonWash m = with("", "shine 1 if 1<2;shine 2 if 2<1;shine 4;shine 5 if part>0;dull 3 if 2<1;dull 2 if 1<2");
            is("white of 0", m.part(0, 7), 12);
            is("white of 1", m.part(1, 7), 17);
        });
    }

    /** A word of a SUM is just this number of that part. */
    private static void counts(String word, MoonWash m, int part, int due) {
        is(word + " of part " + part + " above " + (due - 1), holdsOf(m, part, word + "+1>" + due), true);
        is(word + " of part " + part + " above " + due, holdsOf(m, part, word + ">" + due), false);
    }

    private static void seen() {
        holds("part", () -> {
            MoonWash m = new MoonWash();
            m.move(0, 5);
            counts("part", m, 0, 0);
            counts("part", m, 7, 7);
        });
        holds("grey", () -> {
            counts("grey", with("part 4 grey 0 thin 5"), 4, 0);
            counts("grey", with("part 4 grey 9 thin 5"), 4, 9);
        });
        holds("thin", () -> {
            counts("thin", with("part 4 grey 5 thin 0"), 4, 0);
            counts("thin", with("part 4 grey 5 thin 9"), 4, 9);
        });
        holds("wet", () -> {
            MoonWash m = with("soap 0 water 1 rough 0");
            counts("wet", m, 4, 0);
            m.wash(4, 0);
            counts("wet", m, 4, 9);
        });
        holds("stains: how many", () -> {
            counts("stains", with("part 4 grey 0 thin 0"), 4, 0);
            counts("stains", with("part 4 grey 0 thin 0 stains e"), 4, 1);
            counts("stains", with("part 4 grey 0 thin 0 stains abcde"), 4, 5);
        });
        holds("wind: WIND of its PEG", () -> {
            MoonWash m = with("wind 7 9;wind 0 0");
            m.move(4, 7);
            counts("wind", m, 4, 9);
            counts("wind", m, 7, 3);
            counts("wind", m, 0, 0);
        });
        holds("damp", () -> {
            counts("damp", new MoonWash(), 4, 0);
            MoonWash m = new MoonWash();
            m.seed(Draws.seedWith(10, 9));
            m.nights(1);
            counts("damp", m, 4, 9);
        });
        holds("night", () -> {
            MoonWash m = new MoonWash();
            counts("night", m, 4, 0);
            m.nights(37);
            counts("night", m, 4, 37);
        });
        holds("hung: it is HUNG", () -> {
            MoonWash m = new MoonWash();
            is("at first", holdsOf(m, 7, "hung"), true);
            m.hang(7, false);
            is("taken down", holdsOf(m, 7, "hung"), false);
            is("another", holdsOf(m, 6, "hung"), true);
            is("also wet", holdsOf(wetAndHung(), 0, "hung"), true);
            is("not hung of one that hangs", holdsOf(m, 6, "not hung"), false);
            is("not hung of one that does not", holdsOf(m, 7, "not hung"), true);
            is("and", holdsOf(m, 7, "1<2 and hung"), false);
            is("or", holdsOf(m, 7, "2<1 or hung"), false);
        });
    }

    private static MoonWash wetAndHung() {
        MoonWash m = with("soap 0 water 1 rough 0;spring 0");
        m.wash(0, 0);
        m.hang(0, true);
        return m;
    }

    private static void full() {
        holds("full: NIGHT modulo 28 is 14", () -> {
            MoonWash m = with("", "shine 1 if full");
            for (int night = 0; night < 100; night++) {
                is("white in night " + night, m.part(0, 7), night == 14 || night == 42 || night == 70 || night == 98 ? 10 : 9);
                m.nights(1);
            }
        });
    }

    private static void fullJoined() {
        holds("full: not, and, or with it", () -> {
            MoonWash m = new MoonWash();
            m.nights(13);
            for (int night = 13; night <= 15; night++) {
                boolean due = night == 14;
                is("not full", holdsOf(m, 0, "not full"), !due);
                is("not not full", holdsOf(m, 0, "not not full"), due);
                is("and", holdsOf(m, 0, "full and 1<2"), due);
                is("or", holdsOf(m, 0, "full or 2<1"), due);
                m.nights(1);
            }
        });
    }

    private static void white() {
        holds("WHITE: 9 without more", () -> is("white", new MoonWash().part(0, 7), 9));
        holds("WHITE: the sum of N of all shine LINES that hold", () ->
                is("white", with("", "shine 2;shine 3 if hung;shine 4 if not hung").part(0, 7), 14));
        holds("WHITE: less that of all dull LINES", () ->
                is("white", with("", "dull 2;dull 3 if hung;dull 4 if not hung").part(0, 7), 4));
        holds("WHITE: less GREY", () -> is("white", with("part 0 grey 4 thin 9").part(0, 7), 5));
        holds("WHITE: less stains", () -> is("white", with("part 0 grey 0 thin 0 stains abce").part(0, 7), 5));
        holds("WHITE: 0 at least: just 0, and below", () -> {
            is("9 of grey", with("part 0 grey 9 thin 0").part(0, 7), 0);
            is("8 of grey", with("part 0 grey 8 thin 0").part(0, 7), 1);
            is("with stains", with("part 0 grey 9 thin 0 stains abcde").part(0, 7), 0);
            is("dull 10", with("", "dull 10").part(0, 7), 0);
            is("dull 240", with("", times(12, "dull 20")).part(0, 7), 0);
        });
        holds("WHITE: 20 at most: just 20, and above", () -> {
            is("shine 10", with("", "shine 10").part(0, 7), 19);
            is("shine 11", with("", "shine 11").part(0, 7), 20);
            is("shine 12", with("", "shine 12").part(0, 7), 20);
            is("shine 240", with("", times(12, "shine 20")).part(0, 7), 20);
        });
        holds("WHITE: 0 at least, 20 at most of all in all alone", () -> {
            is("up ahead of down", with("part 0 grey 9 thin 0 stains abcde", "shine 20;shine 5;dull 7").part(0, 7), 13);
            is("down ahead of up", with("", "dull 20;shine 12").part(0, 7), 1);
        });
        holds("WHITE of a PART that is WET, or not HUNG, is as else", () -> {
            MoonWash m = wetAndHung();
            m.hang(1, false);
            is("wet", m.part(0, 7), 9);
            is("down", m.part(1, 7), 9);
        });
    }

    private static void light() {
        holds("LIGHT: WHITE, if it is HUNG and WET is 0", () -> is("light", with("part 0 grey 2 thin 0").part(0, 6), 7));
        holds("LIGHT: else 0: not HUNG", () -> {
            MoonWash m = new MoonWash();
            m.hang(0, false);
            is("light", m.part(0, 6), 0);
        });
        holds("LIGHT: else 0: WET of 1", () -> {
            MoonWash m = wetAndHung();
            law(m, "dry 5");
            m.seed(Draws.seedWith(10, 0));
            m.nights(1);
            is("wet", m.part(0, 2), 1);
            is("light", m.part(0, 6), 0);
            m.nights(1);
            is("dry", m.part(0, 6), 9);
        });
    }

    /** What a part dries by behind a night of that damp. */
    private static int driesBy(int damp, int wind, String law) {
        MoonWash m = with("wind 0 " + wind, law);
        m.seed(Draws.seedWith(10, damp));
        m.nights(1);
        is("damp", m.count(5), damp);
        return m.part(0, 8);
    }

    private static void dries() {
        holds("DRIES by: WIND of its PEG", () -> {
            is("9", driesBy(0, 9, ""), 9);
            is("0", driesBy(0, 0, ""), 0);
        });
        holds("DRIES by: the sum of N of all dry LINES that hold", () ->
                is("dries", driesBy(0, 1, "dry 2;dry 20 if hung;dry 7 if not hung"), 23));
        holds("DRIES by: less a third of DAMP (that rounded down)", () -> {
            int[] thirds = {0, 0, 0, 1, 1, 1, 2, 2, 2, 3};
            for (int damp = 0; damp <= 9; damp++) {
                is("damp " + damp, driesBy(damp, 9, ""), 9 - thirds[damp]);
            }
        });
        holds("DRIES by: 0 at least in all", () -> {
            is("just 0", driesBy(9, 3, ""), 0);
            is("below", driesBy(9, 2, ""), 0);
            is("above", driesBy(9, 4, ""), 1);
            is("in all alone", driesBy(9, 0, "dry 4"), 1);
        });
    }

    private static void soils() {
        holds("SOILS by: the sum of N of all soil LINES that hold", () -> {
            MoonWash m = with("", "soil 1;soil 2 if part<1;soil 4 if part>6;soil 3 if not hung");
            m.nights(1);
            is("part 0", m.part(0, 0), 3);
            is("part 3", m.part(3, 0), 1);
            is("part 7", m.part(7, 0), 5);
        });
        holds("SOILS by: nothing without a LINE that holds", () -> {
            MoonWash m = with("", "soil 9 if not hung");
            m.nights(5);
            is("grey", m.part(0, 0), 0);
        });
    }
}
