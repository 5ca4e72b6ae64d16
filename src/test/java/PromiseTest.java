import java.util.NoSuchElementException;

/** Each promise of the document by itself: ordinary inputs, the edges that the document names, wrong inputs. */
public final class PromiseTest {
    private static final int NONE = MoonWash.NONE;

    interface Call {
        long answer();
    }

    private static int passed = 0;
    private static int failed = 0;
    private static boolean right = true;

    private static void is(String what, long got, long due) {
        if (got != due) {
            right = false;
            System.out.println("  " + what + " answered " + got + ", due is " + due);
        }
    }

    private static void is(String what, boolean got, boolean due) {
        is(what, got ? 1 : 0, due ? 1 : 0);
    }

    private static void fails(String what, Class<? extends RuntimeException> due, Call call) {
        String got;
        try {
            got = "" + call.answer();
        } catch (RuntimeException e) {
            got = e.getClass().getName();
        }
        if (!got.equals(due.getName())) {
            right = false;
            System.out.println("  " + what + " answered " + got + ", due is " + due.getName());
        }
    }

    private static void noPlace(String what, Call call) {
        fails(what, IndexOutOfBoundsException.class, call);
    }

    private static void noNumber(String what, Call call) {
        fails(what, IllegalArgumentException.class, call);
    }

    private static void noWhat(String what, Call call) {
        fails(what, NoSuchElementException.class, call);
    }

    private static void cannot(String what, Call call) {
        fails(what, IllegalStateException.class, call);
    }

    private static void promise(int number) {
        if (right) {
            passed++;
        } else {
            failed++;
            System.out.println("promise " + number + " is broken");
        }
        right = true;
    }

    private static int house(MoonWash m, String text) {
        Tape.put(m, text);
        return m.house();
    }

    private static int law(MoonWash m, String text) {
        Tape.put(m, text);
        return m.law();
    }

    private static MoonWash with(String house) {
        return with(house, "");
    }

    private static MoonWash with(String house, String law) {
        MoonWash m = new MoonWash();
        house(m, house);
        law(m, law);
        return m;
    }

    /** A wrong text of the house: its first wrong byte, and that nothing of it stays. */
    private static void wrongHouse(String begin, String text, int due) {
        MoonWash m = with(begin);
        m.hang(0, true);
        int soaps = m.count(0);
        int dues = m.count(1);
        noNumber("house '" + text + "'", () -> house(m, text));
        is("fault of '" + text + "'", m.fault(), due);
        is("soaps behind '" + text + "'", m.count(0), soaps);
        is("dues behind '" + text + "'", m.count(1), dues);
        is("texts behind '" + text + "'", m.count(2), 1);
        is("acts behind '" + text + "'", m.count(13), 1);
    }

    private static void wrongHouse(String text, int due) {
        wrongHouse("", text, due);
    }

    private static void wrongLaw(String text, int due) {
        MoonWash m = with("", "shine 1;shine 1");
        m.hang(0, true);
        noNumber("law '" + text + "'", () -> law(m, text));
        is("fault of '" + text + "'", m.fault(), due);
        is("lines behind '" + text + "'", m.count(3), 2);
        is("light behind '" + text + "'", m.light(), 88);
        is("acts behind '" + text + "'", m.count(13), 1);
    }

    /** WHITE of a part by a law of shine 5 under the condition: 14 if it holds, else 9. */
    private static void holds(MoonWash m, int part, String condition, boolean due) {
        int lines = law(m, "shine 5 if " + condition);
        is("lines of '" + condition + "'", lines, 1);
        is("'" + condition + "' holds", m.would(part, 0) - without(m, part), due ? 5 : 0);
    }

    private static int without(MoonWash m, int part) {
        MoonWash plain = with("soap 9 water 1 rough 0 takes abcde");
        return plain.would(part, 0);
    }

    private static String times(int n, String line) {
        StringBuilder b = new StringBuilder();
        for (int i = 0; i < n; i++) {
            b.append(i == 0 ? "" : ";").append(line);
        }
        return b.toString();
    }

    public static void main(String[] args) {
        promise1New();
        promise2Feed();
        promise3End();
        promise4House();
        promise4HouseFaults();
        promise5Law();
        promise5LawConditions();
        promise5LawFaults();
        promise6Fault();
        promise7Part();
        promise8Soap();
        promise9Peg();
        promise10Due();
        promise11Wash();
        promise12Hang();
        promise13Darn();
        promise14Move();
        promise15Drop();
        promise16Nights();
        promise16Draws();
        promise17Shines();
        promise18Light();
        promise19Would();
        promise20Best();
        promise21Least();
        promise22Soaps();
        promise23Washes();
        promise24Soonest();
        promise25Dried();
        promise26Ahead();
        promise27Stained();
        promise28Tries();
        promise29Watch();
        promise30Row();
        promise31Darkest();
        promise32Tide();
        promise33Late();
        promise34Enough();
        promise35Wears();
        promise36Like();
        promise37Halves();
        promise38Trial();
        promise39Span();
        promise40Led();
        promise41Log();
        promise42Seed();
        promise43Undo();
        promise44Image();
        promise45Back();
        promise46Count();
        System.out.println("PromiseTest: " + passed + " passed, " + failed + " failed");
        System.exit(failed == 0 ? 0 : 1);
    }

    private static void promise1New() {
        MoonWash m = new MoonWash();
        for (int p = 0; p < 8; p++) {
            is("grey", m.part(p, 0), 0);
            is("thin", m.part(p, 1), 0);
            is("wet", m.part(p, 2), 0);
            is("stains", m.part(p, 3), 0);
            is("hung", m.part(p, 4), 1);
            is("its peg", m.part(p, 5), p);
            is("wind", m.peg(p, false), 3);
        }
        int[] counts = {0, 0, 0, NONE, 0, 0, 30, 5, 0, 0, 255, 0, 0, 0};
        for (int what = 0; what < counts.length; what++) {
            is("count(" + what + ")", m.count(what), counts[what]);
        }
        is("seed", m.seed(1), 1);
        is("fault", m.fault(), NONE);
        is("tape", m.feed(0, 0, 0, 0, 0), 20);
        is("like", m.like(), NONE);
        is("back", m.back(), false);
        is("undo", m.undo(), false);
        is("NONE", MoonWash.NONE, -1);
        promise(1);
    }

    private static void promise2Feed() {
        MoonWash m = new MoonWash();
        for (int i = 1; i <= 20; i++) {
            is("feed", m.feed(0x20202020, 0x20202020, 0x20202020, 0x20202020, 0x20202020), 20 * i);
        }
        is("a full tape", m.feed(1, 1, 1, 1, 1), NONE);
        is("nothing came", m.house(), 1);
        is("used up", m.feed(0, 0, 0, 0, 0), 20);
        for (int i = 2; i <= 20; i++) {
            m.feed(0, 0, 0, 0, 0);
        }
        m.end(381);
        is("one byte too many", m.feed(0, 0, 0, 0, 0), NONE);
        m.end(380);
        is("just full", m.feed(0, 0, 0, 0, 0), 400);
        m.end(0);
        // 'spri' 'ng 7' and then bytes above 127: the highest byte of a number comes first.
        m.feed(0x73707269, 0x6e672037, 0xff800000, 0, 0);
        m.end(8);
        is("order of bytes", m.house(), 2);
        is("spring", m.count(7), 7);
        m.feed(0x73707269, 0x6e672037, 0xff800000, 0, 0);
        noNumber("a byte of 255", m::house);
        is("stands behind the number", m.fault(), 8);
        promise(2);
    }

    private static void promise3End() {
        MoonWash m = new MoonWash();
        is("end of an empty tape", m.end(0), true);
        is("beyond an empty tape", m.end(1), false);
        Tape.put(m, "spring 19; water 9  ");
        is("below 0", m.end(-1), false);
        is("beyond", m.end(21), false);
        is("all", m.end(20), true);
        is("fewer", m.end(8), true);
        is("no more again", m.end(9), false);
        is("house", m.house(), 1);
        is("cut to 'spring 1'", m.count(7), 1);
        is("water stays", m.count(6), 30);
        promise(3);
    }

    private static void promise4House() {
        MoonWash m = new MoonWash();
        is("no line", house(m, ""), 1);
        is("blanks alone", house(m, "   "), 2);
        is("all", house(m, "soap 9 water 30 rough 3 takes edcba;soap 0 water 1 rough 0;part 7 grey 9 thin 8 stains ace;"
                + "part 0 grey 1 thin 2;wind 0 9;wind 7 0;due 999 light 99;due 0 light 1;spring 20;water 99;wolves 100;thieves 99"), 3);
        int[] soap0 = {9, 30, 3, 31};
        int[] soap1 = {0, 1, 0, 0};
        for (int i = 0; i < 4; i++) {
            is("soap 0", m.soap(0, i), soap0[i]);
            is("soap 1", m.soap(1, i), soap1[i]);
        }
        int[] part7 = {9, 8, 0, 21, 1, 7};
        for (int i = 0; i < 6; i++) {
            is("part 7", m.part(7, i), part7[i]);
        }
        is("wind 0", m.peg(0, false), 9);
        is("wind 7", m.peg(7, false), 0);
        is("due 0", m.due(0, false) * 100 + m.due(0, true), 99999);
        is("due 1", m.due(1, false) * 100 + m.due(1, true), 1);
        int[] counts = {2, 2, 3, NONE, 0, 0, 99, 20, 100, 99};
        for (int i = 0; i < counts.length; i++) {
            is("count " + i, m.count(i), counts[i]);
        }
        is("no blanks, many blanks, digits", house(m, "  part7grey 003  thin02;water007 ; spring  000"), 4);
        is("told anew", m.part(7, 0), 3);
        is("told anew", m.part(7, 1), 2);
        is("all stains are told", m.part(7, 3), 0);
        is("water", m.count(6), 7);
        is("spring", m.count(7), 0);
        is("more soaps come behind", house(m, "soap 1 water 2 rough 3;soap 1 water 2 rough 3;soap 1 water 2 rough 3;soap 5 water 2 rough 3"), 5);
        is("6 soaps", m.count(0), 6);
        is("the last", m.soap(5, 0), 5);
        is("14 lines", house(m, times(14, "spring 1")), 6);
        is("8 dues", house(m, times(6, "due 5 light 6")), 7);
        for (int i = 8; i <= 12; i++) {
            is("texts", house(m, ""), i);
        }
        m.hang(0, true);
        fails("a 13th text", UnsupportedOperationException.class, () -> house(m, "spring 3"));
        is("fault of a refused text", m.fault(), NONE);
        is("spring stays", m.count(7), 1);
        is("texts stay", m.count(2), 12);
        is("acts stay", m.count(13), 1);
        is("the tape is used up", m.feed(0, 0, 0, 0, 0), 20);
        noNumber("a wrong 13th text", () -> house(m, "spring x"));
        is("fault of a refused text", m.fault(), 7);
        is("the tape is used up by a wrong one", m.feed(0, 0, 0, 0, 0), 20);
        promise(4);
    }

    private static void promise4HouseFaults() {
        String soap = "soap 1 water 1 rough 1";
        wrongHouse(";", 0);
        wrongHouse("  ;", 2);
        wrongHouse("spring 1;", 9);
        wrongHouse("spring 1 ; ", 11);
        wrongHouse("spring 1 1", 9);
        wrongHouse("spring", 6);
        wrongHouse("springs 1", 0);
        wrongHouse("springz 1", 0);
        wrongHouse("aspring 1", 0);
        wrongHouse("spring 1z", 8);
        wrongHouse("spring 1#", 8);
        wrongHouse("#spring 1", 0);
        wrongHouse(times(398, "").replace(';', ' ') + " ;;", 398);
        wrongHouse(times(401, ""), 0);
        wrongHouse("Spring 1", 0);
        wrongHouse("spring\t1", 6);
        wrongHouse("spring 21", 7);
        wrongHouse("spring 0001", 7);
        wrongHouse("water 100", 6);
        wrongHouse("wolves 101", 7);
        wrongHouse("thieves 101", 8);
        wrongHouse("wind 8 1", 5);
        wrongHouse("wind 0 10", 7);
        wrongHouse("wind 1", 6);
        wrongHouse("due 1000 light 1", 4);
        wrongHouse("due 1 light 0", 12);
        wrongHouse("due 1 light 100", 12);
        wrongHouse("due 1 dark 1", 6);
        wrongHouse("part 8 grey 1 thin 1", 5);
        wrongHouse("part 0 grey 10 thin 1", 12);
        wrongHouse("part 0 grey 1 thin 10", 19);
        wrongHouse("part 0 thin 1", 7);
        wrongHouse("part 0 grey 1", 13);
        wrongHouse("part 0 grey 1 ; ", 14);
        wrongHouse("part 0 grey 1 thin 1 takes a", 21);
        wrongHouse("part 0 grey 1 thin 1 stains f", 28);
        wrongHouse("part 0 grey 1 thin 1 stains abA", 30);
        wrongHouse("part 0 grey 1 thin 1 stains aba", 28);
        wrongHouse("part 0 grey 1 thin 1 stains 1", 28);
        wrongHouse("part 0 grey 1 thin 1 stains", 27);
        wrongHouse("part 0 grey 1 thin 1 stainsa", 21);
        wrongHouse("soap 10 water 1 rough 1", 5);
        wrongHouse("soap 1 water 0 rough 1", 13);
        wrongHouse("soap 1 water 31 rough 1", 13);
        wrongHouse("soap 1 water 1 rough 4", 21);
        wrongHouse(soap + " stains a", 23);
        wrongHouse(soap + " takes abcdef", 29);
        wrongHouse(soap + " takes #", 29);
        wrongHouse(soap + " takes a b", 31);
        wrongHouse(soap + ";" + soap + " takes", 51);
        wrongHouse(times(6, soap) + "; " + soap, 139);
        wrongHouse(times(5, soap), soap + "; soap 1 water 1 rough 1;spring x", 24);
        wrongHouse(times(8, "due 1 light 1") + ";due 1 light 1", 112);
        wrongHouse(times(7, "due 1 light 1"), "due 1 light 1;due 1 light 1", 14);
        wrongHouse(times(14, "spring 1") + ";", 126);
        wrongHouse(times(14, "spring 1") + "; spring 1", 127);
        wrongHouse(times(15, "spring 1") + ";x", 126);
        promise(4);
    }

    private static void promise5Law() {
        MoonWash m = new MoonWash();
        is("without", m.count(3), NONE);
        is("no line", law(m, ""), 0);
        is("blanks", law(m, "  "), 0);
        is("lines", m.count(3), 0);
        is("four", law(m, "shine 20;dull 12 ; dry 4;soil 0"), 4);
        is("lines", m.count(3), 4);
        is("white", m.part(0, 7), 17);
        is("dries", m.part(0, 8), 7);
        is("12 lines", law(m, times(12, "shine 0")), 12);
        is("in place of the one before", m.part(0, 7), 9);
        is("dries as before", m.part(0, 8), 3);
        StringBuilder longest = new StringBuilder("dry 1 if 0<0");
        while (longest.length() < 400) {
            longest.append("+1");
        }
        is("400 bytes", law(m, longest.toString()), 1);
        is("they hold", m.part(0, 8), 4);
        is("20 at most", law(m, "shine 11;shine 1"), 2);
        is("white", m.part(0, 7), 20);
        law(m, "shine 20;dull 20;dull 10");
        is("0 at least", m.part(0, 7), 0);
        law(m, "dull 20;shine 15");
        is("bounds of all together alone", m.part(0, 7), 4);
        is("the tape is used up", m.feed(0, 0, 0, 0, 0), 20);
        // A third of DAMP is rounded down; 0 at least in all.
        MoonWash wet = with("soap 1 water 1 rough 0;wind 0 1;wind 1 0", "dry 2 if part<1");
        int damp = 0;
        for (int i = 0; i < 40; i++) {
            wet.nights(1);
            damp = wet.count(5);
            is("dries by", wet.part(0, 8), 3 - damp / 3);
            is("dries by 0 at least", wet.part(1, 8), 0);
        }
        promise(5);
    }

    private static void promise5LawConditions() {
        // would() makes the part not wet, and hung: 9 of white but for the law.
        MoonWash m = with("soap 9 water 1 rough 0 takes abcde;wind 2 8");
        holds(m, 3, "part<4", true);
        holds(m, 3, "part<3", false);
        holds(m, 3, "part>3", false);
        holds(m, 3, "part>2", true);
        holds(m, 2, "wind>7", true);
        holds(m, 2, "wind>8", false);
        holds(m, 0, "thin>0", true);
        holds(m, 0, "grey+wet+stains<1", true);
        holds(m, 0, "hung", true);
        holds(m, 0, "not hung", false);
        holds(m, 0, "not not hung", true);
        holds(m, 0, "full", false);
        holds(m, 0, "0<1 or 0<1 and 1<0", true);
        holds(m, 0, "1<0 and 0<1 or 0<1", true);
        holds(m, 0, "1<0 and (0<1 or 0<1)", false);
        holds(m, 0, "not 1<0 and 1<0", false);
        holds(m, 0, "not (1<0 and 1<0)", true);
        holds(m, 0, "not 0<1 or 0<1", true);
        holds(m, 0, "not(0<1 or 0<1)", false);
        holds(m, 0, "1+2+3<7 and 1+2+3>5", true);
        holds(m, 0, "999 + 999 > 997+1 + 999", true);
        holds(m, 0, "007<8 and 000<1", true);
        holds(m, 5, "((((((part>4))))))", true);
        holds(m, 5, "not not not not not not part>4", true);
        holds(m, 5, "not(not(not(part>4)))", false);
        holds(m, 5, "(part>4)and(part<6)or(part>9)", true);
        holds(m, 5, "((part>4 or full) and (part<6 or full)) and ((part>4 or full) and (hung or full))", true);
        MoonWash f = with("part 1 grey 2 thin 3 stains abe", "shine 1 if full;shine 2 if night>14;shine 4 if night<1");
        is("night 0", f.part(0, 7), 13);
        f.nights(14);
        is("night 14", f.part(0, 7), 10);
        f.nights(1);
        is("night 15", f.part(0, 7), 11);
        f.nights(27);
        is("night 42", f.part(0, 7), 12);
        law(f, "shine 10 if grey>1 and grey<3 and thin>2 and thin<4 and stains>2 and stains<4");
        is("what it has", f.part(1, 7), 14);
        is("another", f.part(0, 7), 9);
        law(f, "dull 1 if not hung;dull 2 if wet>8;shine 1 if damp>4;shine 2 if damp<5");
        f.hang(0, false);
        is("hung", f.part(0, 7) - f.part(2, 7), -1);
        is("damp", f.part(2, 7), f.count(5) > 4 ? 10 : 11);
        promise(5);
    }

    private static void promise5LawFaults() {
        wrongLaw(";", 0);
        wrongLaw("shine", 5);
        wrongLaw("shine 21", 6);
        wrongLaw("shine 0001", 6);
        wrongLaw("shines 1", 0);
        wrongLaw(" bright 1", 1);
        wrongLaw("shine 1;", 8);
        wrongLaw("shine 1; soap 1", 9);
        wrongLaw("shine 1 1", 8);
        wrongLaw("shine 1 when full", 8);
        wrongLaw("shine 1 if", 10);
        wrongLaw("shine 1 if  ;", 12);
        wrongLaw("shine 1 if full full", 16);
        wrongLaw("shine 1 if fullhung", 11);
        wrongLaw("shine 1 if full and", 19);
        wrongLaw("shine 1 if full or or", 19);
        wrongLaw("shine 1 if hung<2", 15);
        wrongLaw("shine 1 if 2<hung", 13);
        wrongLaw("shine 1 if 2", 12);
        wrongLaw("shine 1 if 2+", 13);
        wrongLaw("shine 1 if 2=2", 12);
        wrongLaw("shine 1 if 2<3<4", 14);
        wrongLaw("shine 1 if 2<+4", 13);
        wrongLaw("shine 1 if 2<1000", 13);
        wrongLaw("shine 1 if soap<1", 11);
        wrongLaw("shine 1 if not", 14);
        wrongLaw("shine 1 if (full", 16);
        wrongLaw("shine 1 if (full  ", 18);
        wrongLaw("shine 1 if (full;", 16);
        wrongLaw("shine 1 if full)", 15);
        wrongLaw("shine 1 if ()", 12);
        wrongLaw("shine 1 if (1)<2", 13);
        wrongLaw("shine 1 if (((((( (full)))))))", 18);
        wrongLaw("shine 1 if not(not(not(not full)))", 23);
        wrongLaw("shine 1 if not not not not not not not full", 35);
        wrongLaw("shine 1 if ((((((full)))))) and ((((((full or (hung)))))))", 46);
        wrongLaw(times(12, "shine 1") + ";", 96);
        wrongLaw(times(12, "shine 1") + " ; shine 1", 98);
        promise(5);
    }

    private static void promise6Fault() {
        MoonWash m = new MoonWash();
        is("ahead of any", m.fault(), NONE);
        noNumber("wrong", () -> house(m, "spring 1;x"));
        is("of the house", m.fault(), 9);
        noNumber("wrong", () -> law(m, "dull"));
        is("of the law", m.fault(), 4);
        Tape.put(m, "x");
        noNumber("no text", () -> m.stained(true));
        is("stained reads none", m.fault(), 4);
        m.image();
        m.back();
        is("not gone back", m.fault(), 4);
        m.hang(0, false);
        m.undo();
        is("not undone", m.fault(), 4);
        law(m, "dull 1");
        is("right", m.fault(), NONE);
        promise(6);
    }

    private static void promise7Part() {
        MoonWash m = with("soap 2 water 3 rough 1 takes ab;part 2 grey 4 thin 5 stains acd;wind 2 7", "dry 1;shine 3 if part>2");
        int[] due = {4, 5, 0, 13, 1, 2, 2, 2, 8, 2, 12};
        for (int what = 0; what < due.length; what++) {
            is("part 2, " + what, m.part(2, what), due[what]);
        }
        is("all light", m.light(), 9 + 9 + 2 + 5 * 12);
        is("share of 12 in 80", m.part(7, 9), 15);
        m.wash(2, 0);
        int[] washed = {2, 7, 9, 12, 0, 2, 0, 5, 8, 0, 12};
        for (int what = 0; what < washed.length; what++) {
            is("washed 2, " + what, m.part(2, what), washed[what]);
        }
        m.hang(2, true);
        is("wet has no light", m.part(2, 6), 0);
        m.nights(2);
        is("dry has light", m.part(2, 6), 5);
        m.hang(2, false);
        is("taken down has none", m.part(2, 6), 0);
        is("but white", m.part(2, 7), 5);
        m.drop(0);
        is("never without soaps", m.part(2, 10), 12);
        MoonWash dark = with("", "dull 9");
        is("share without light", dark.part(0, 9), 0);
        is("all the light", with("", "dull 9 if part>0").part(0, 9), 100);
        is("9 in 72", new MoonWash().part(0, 9), 12);
        noPlace("part -1", () -> m.part(-1, 0));
        noPlace("part 8", () -> m.part(8, 11));
        noWhat("what 11", () -> m.part(7, 11));
        noWhat("what -1", () -> m.part(0, -1));
        promise(7);
    }

    private static void promise8Soap() {
        MoonWash m = with("soap 1 water 2 rough 3 takes ae;soap 9 water 30 rough 0");
        int[] first = {1, 2, 3, 17};
        int[] second = {9, 30, 0, 0};
        for (int i = 0; i < 4; i++) {
            is("soap 0", m.soap(0, i), first[i]);
            is("soap 1", m.soap(1, i), second[i]);
        }
        noPlace("soap 2", () -> m.soap(2, 9));
        noPlace("soap -1", () -> m.soap(-1, 0));
        noWhat("what 4", () -> m.soap(1, 4));
        noWhat("what -1", () -> m.soap(1, -1));
        promise(8);
    }

    private static void promise9Peg() {
        MoonWash m = with("wind 0 9;wind 7 1");
        m.move(0, 7);
        is("wind stays with the peg", m.peg(0, false), 9);
        is("wind", m.peg(7, false), 1);
        is("part", m.peg(7, true), 0);
        is("part", m.peg(0, true), 7);
        is("part", m.peg(4, true), 4);
        noPlace("peg 8", () -> m.peg(8, false));
        noPlace("peg -1", () -> m.peg(-1, true));
        promise(9);
    }

    private static void promise10Due() {
        MoonWash m = with("due 5 light 60;due 2 light 7");
        is("night", m.due(0, false), 5);
        is("light", m.due(0, true), 60);
        is("night", m.due(1, false), 2);
        is("light", m.due(1, true), 7);
        noPlace("due 2", () -> m.due(2, false));
        noPlace("due -1", () -> m.due(-1, true));
        promise(10);
    }

    private static void promise11Wash() {
        MoonWash m = with("soap 3 water 10 rough 2 takes abc;soap 9 water 1 rough 3;water 20;spring 0;part 1 grey 5 thin 5 stains bde");
        is("stains out", m.wash(1, 0), 2);
        int[] due = {2, 8, 9, 24, 0};
        for (int what = 0; what < due.length; what++) {
            is("washed " + what, m.part(1, what), due[what]);
        }
        is("water", m.count(6), 10);
        is("again", m.wash(1, 0), 0);
        is("grey 0 at least", m.part(1, 0), 0);
        is("thin 9 at most", m.part(1, 1), 9);
        is("no water", m.count(6), 0);
        is("acts", m.count(13), 2);
        cannot("without water", () -> m.wash(1, 1));
        is("nothing changed", m.part(1, 2) * 1000 + m.count(13) * 100 + m.count(12), 9202);
        noPlace("part first", () -> m.wash(8, 0));
        noPlace("part", () -> m.wash(-1, 0));
        noPlace("soap", () -> m.wash(0, 2));
        noPlace("soap", () -> m.wash(0, -1));
        is("one other is not washed", m.part(0, 2), 0);
        promise(11);
    }

    private static void promise12Hang() {
        MoonWash m = new MoonWash();
        is("hung already", m.hang(3, true), false);
        is("taken down", m.hang(3, false), true);
        is("down already", m.hang(3, false), false);
        is("hung", m.part(3, 4), 0);
        is("others", m.count(10), 247);
        is("hung again", m.hang(3, true), true);
        is("all", m.count(10), 255);
        is("acts", m.count(13), 4);
        noPlace("part 8", () -> m.hang(8, true) ? 1 : 0);
        noPlace("part -1", () -> m.hang(-1, false) ? 1 : 0);
        promise(12);
    }

    private static void promise13Darn() {
        MoonWash m = with("part 0 grey 0 thin 7;part 1 grey 0 thin 2;water 7");
        is("3 less", m.darn(0), 4);
        is("water", m.count(6), 5);
        is("0 at least", m.darn(1), 0);
        is("also at 0", m.darn(1), 0);
        is("water", m.count(6), 1);
        cannot("not 2 of water", () -> m.darn(0));
        is("thin", m.part(0, 1), 4);
        is("acts", m.count(13), 3);
        noPlace("part first", () -> m.darn(8));
        noPlace("part", () -> m.darn(-1));
        MoonWash two = with("part 0 grey 0 thin 9;water 2");
        is("2 are enough", two.darn(0), 6);
        promise(13);
    }

    private static void promise14Move() {
        MoonWash m = new MoonWash();
        is("that had it", m.move(2, 5), 5);
        is("its peg", m.part(2, 5), 5);
        is("where it was", m.part(5, 5), 2);
        is("its own", m.move(2, 5), 2);
        is("back", m.move(5, 5), 2);
        is("peg", m.part(2, 5), 2);
        is("acts", m.count(13), 3);
        noPlace("part 8", () -> m.move(8, 0));
        noPlace("peg 8", () -> m.move(0, 8));
        noPlace("part -1", () -> m.move(-1, 0));
        noPlace("peg -1", () -> m.move(0, -1));
        promise(14);
    }

    private static void promise15Drop() {
        MoonWash m = with("soap 0 water 1 rough 0;soap 1 water 2 rough 1 takes b;soap 2 water 3 rough 2 takes c;"
                + "soap 3 water 4 rough 3 takes d;soap 4 water 5 rough 0 takes e;soap 5 water 6 rough 1");
        is("how many", m.drop(5), 5);
        is("how many", m.drop(1), 4);
        is("before it", m.soap(0, 1), 1);
        is("behind it", m.soap(1, 0) * 1000 + m.soap(1, 1) * 100 + m.soap(1, 2) * 10 + m.soap(1, 3), 2324);
        is("the last", m.soap(3, 3), 16);
        noPlace("gone", () -> m.drop(4));
        noPlace("none", () -> m.drop(-1));
        is("a soap may come anew", house(m, times(2, "soap 7 water 7 rough 1 takes a")), 2);
        is("six again", m.count(0), 6);
        is("behind the others", m.soap(5, 0), 7);
        promise(15);
    }

    private static void promise16Nights() {
        MoonWash m = with("soap 9 water 1 rough 0;wind 0 9;wind 1 0;wind 2 4;wind 3 9;water 98;spring 5", "dry 4;soil 2 if part>6");
        for (int p = 0; p < 4; p++) {
            m.wash(p, 0);
            m.hang(p, p < 3);
        }
        is("water", m.count(6), 94);
        is("dry behind one night", m.nights(1), 1);
        is("night", m.count(4), 1);
        is("dry", m.part(0, 2), 0);
        is("not soiled", m.part(0, 0), 0);
        is("wet, taken down", m.part(3, 2), 9);
        is("soiled", m.part(7, 0), 2);
        is("water", m.count(6), 99);
        is("more dry", m.nights(9), 2);
        is("water 99 at most", m.count(6), 99);
        is("grey 9 at most", m.part(7, 0), 9);
        is("night", m.count(4), 10);
        is("60", m.nights(60), 0);
        is("night", m.count(4), 70);
        is("acts", m.count(13), 11);
        noNumber("0", () -> m.nights(0));
        noNumber("61", () -> m.nights(61));
        noNumber("-1", () -> m.nights(-1));
        is("nothing changed", m.count(4) * 100 + m.count(13), 7011);
        // Of a part that gets dry this night nothing is soiled yet.
        MoonWash s = with("soap 9 water 1 rough 0;wind 0 9", "dry 4;soil 1");
        s.wash(0, 0);
        s.hang(0, true);
        s.nights(1);
        is("dry, not grey", s.part(0, 2) * 10 + s.part(0, 0), 0);
        s.nights(1);
        is("grey", s.part(0, 0), 1);
        // An unhung part is neither dried nor soiled.
        s.hang(1, false);
        int grey = s.part(1, 0);
        s.nights(5);
        is("not soiled", s.part(1, 0), grey);
        promise(16);
    }

    /** The draws by the document's words, beside the program: DAMP, wolves, thieves, in their order. */
    private static void promise16Draws() {
        MoonWash m = with("wolves 40;thieves 25");
        long seed = 77;
        m.seed(77);
        int[] stains = new int[8];
        int[] grey = new int[8];
        int hung = 255;
        for (int night = 1; night <= 24; night++) {
            if (night % 3 == 0) {
                m.hang(night % 8, true);
                hung |= 1 << night % 8;
            }
            m.nights(1);
            seed = next(seed);
            is("damp", m.count(5), drawn(seed) % 10);
            seed = next(seed);
            if (drawn(seed) % 100 < 40) {
                seed = next(seed);
                int part = drawn(seed) % 8;
                seed = next(seed);
                stains[part] |= (hung >> part & 1) << drawn(seed) % 5;
            }
            seed = next(seed);
            if (drawn(seed) % 100 < 25) {
                seed = next(seed);
                int part = drawn(seed) % 8;
                grey[part] = (hung >> part & 1) == 1 ? 9 : grey[part];
                hung &= ~(1 << part);
            }
            is("hung", m.count(10), hung);
            for (int p = 0; p < 8; p++) {
                is("stains", m.part(p, 3), stains[p]);
                is("grey", m.part(p, 0), grey[p]);
            }
        }
        is("seed", m.seed(1), (int) seed);
        MoonWash all = with("wolves 100;thieves 100");
        all.nights(60);
        is("thieves of 100 take all", all.count(10), 0);
        MoonWash none = new MoonWash();
        none.nights(60);
        is("of 0 none", none.count(10), 255);
        promise(16);
    }

    private static long next(long seed) {
        return (int) (seed * 1103515245L + 12345L);
    }

    private static int drawn(long seed) {
        return (int) ((seed & 0xffffffffL) >> 16) & 32767;
    }

    private static void promise17Shines() {
        MoonWash m = with("soap 0 water 1 rough 0;part 0 grey 9 thin 0;part 1 grey 8 thin 0;part 2 grey 8 thin 0 stains a");
        is("white 0 does not shine", m.shines(), 250);
        m.hang(7, false);
        m.wash(6, 0);
        m.hang(6, true);
        is("nor what is wet, or not hung", m.shines(), 58);
        promise(17);
    }

    private static void promise18Light() {
        MoonWash m = with("soap 0 water 1 rough 0;part 0 grey 9 thin 0;part 1 grey 8 thin 0;part 2 grey 7 thin 0 stains a");
        is("together", m.light(), 0 + 1 + 1 + 5 * 9);
        m.hang(7, false);
        m.wash(6, 0);
        m.hang(6, true);
        is("without wet and taken down", m.light(), 29);
        law(m, "shine 20");
        is("20 each", m.light(), 20 + 20 + 20 + 3 * 20);
        promise(18);
    }

    private static void promise19Would() {
        MoonWash m = with("soap 3 water 30 rough 2 takes ab;soap 9 water 1 rough 0;water 0;part 0 grey 5 thin 4 stains abc",
                "shine 4 if thin>6;shine 2 if wet<1;shine 1 if hung;dull 1 if grey>1;dull 1 if stains>0");
        is("as washed", m.would(0, 0), 9 + 4 + 2 + 1 - 1 - 1 - 2 - 1);
        is("by another", m.would(0, 1), 9 + 2 + 1 - 1 - 3);
        m.hang(0, false);
        is("as if hung", m.would(0, 0), 11);
        is("nothing changed", m.part(0, 0) * 10 + m.part(0, 2), 50);
        is("still down", m.part(0, 4), 0);
        noPlace("part", () -> m.would(8, 0));
        noPlace("part", () -> m.would(-1, 0));
        noPlace("soap", () -> m.would(0, 2));
        noPlace("soap", () -> m.would(0, -1));
        promise(19);
    }

    private static void promise20Best() {
        MoonWash m = with("soap 3 water 5 rough 0;soap 4 water 9 rough 0;soap 3 water 9 rough 0 takes a;soap 4 water 8 rough 0;"
                + "soap 4 water 8 rough 0;part 0 grey 9 thin 0;part 1 grey 5 thin 0 stains ab;part 2 grey 3 thin 0");
        is("of least water, then the least", m.best(0), 3);
        is("with stains as well", m.best(1), 3);
        is("a cheap one is enough", m.best(2), 0);
        is("at white the cheapest", m.best(7), 0);
        is("without soaps", new MoonWash().best(7), NONE);
        MoonWash dark = with("soap 0 water 2 rough 0;soap 0 water 1 rough 0", "dull 20");
        is("also of WHITE 0", dark.best(0), 1);
        noPlace("part", () -> m.best(8));
        noPlace("part", () -> m.best(-1));
        promise(20);
    }

    private static void promise21Least() {
        MoonWash m = with("soap 2 water 3 rough 0;soap 5 water 7 rough 0;soap 2 water 3 rough 0;water 0;"
                + "part 0 grey 4 thin 0;part 3 grey 6 thin 0;part 6 grey 1 thin 0");
        // WHITE: 5 9 9 3 9 9 8 9, together 61; most 70 (by soap 1 on 0, on 3 leaves 1).
        is("0", m.least(0, NONE), 0);
        is("61", m.least(61, NONE), 0);
        is("61, none is washed", m.least(61, 0), NONE);
        is("62 by one of 3", m.least(62, NONE), 3);
        is("62: part 0 by none", m.least(62, 0), NONE);
        is("62: part 3 by none", m.least(62, 3), NONE);
        is("62: part 6 by soap 0", m.least(62, 6), 0);
        is("63 by one of 3", m.least(63, NONE), 3);
        is("63: part 3", m.least(63, 3), 0);
        is("65 by two", m.least(65, NONE), 6);
        is("65: part 0", m.least(65, 0), 0);
        is("66 by the dear one", m.least(66, NONE), 7);
        is("66: part 3", m.least(66, 3), 1);
        is("66: part 0", m.least(66, 0), NONE);
        is("the most", m.least(71, NONE), 17);
        is("71: part 0", m.least(71, 0), 1);
        is("71: part 6", m.least(71, 6), 0);
        is("71: part 7", m.least(71, 7), NONE);
        is("more is not there", m.least(72, NONE), NONE);
        is("more is not there", m.least(160, 0), NONE);
        m.hang(1, false);
        is("as if hung", m.least(61, NONE), 0);
        noPlace("part first", () -> m.least(161, 8));
        noPlace("part", () -> m.least(0, -2));
        noNumber("161", () -> m.least(161, NONE));
        noNumber("-1", () -> m.least(-1, 0));
        MoonWash w = with("soap 9 water 30 rough 0;part 2 grey 9 thin 0;part 3 grey 9 thin 0", "dull 5 if wet>0;shine 11 if not hung;shine 11 if grey<1");
        is("160 by two", w.least(160, NONE), 60);
        w.wash(0, 0);
        is("as if not wet", w.least(120, NONE), 0);
        is("of three, as if not wet", w.least(121, NONE), 30);
        MoonWash one = with("soap 0 water 1 rough 0", "dull 9 if part>0 and thin<1");
        is("one part is enough", one.least(9, NONE), 0);
        is("then none is washed", one.least(9, 7), NONE);
        is("one more", one.least(10, NONE), 1);
        is("part 6 is not", one.least(10, 6), NONE);
        is("the first way washes the last", one.least(10, 7), 0);
        is("all of 20 are 160", with("", "shine 20").least(160, NONE), 0);
        MoonWash dear = with("soap 9 water 30 rough 0;water 0", "shine 11;dull 11 if thin<1");
        is("eight times 30", dear.least(160, NONE), 240);
        is("each by soap 0", dear.least(160, 7), 0);
        promise(21);
    }

    private static void promise22Soaps() {
        MoonWash m = with("soap 1 water 1 rough 1 takes a;soap 1 water 1 rough 1 takes b;soap 1 water 1 rough 1 takes bc;"
                + "soap 1 water 1 rough 1 takes ad;soap 1 water 1 rough 1 takes cd;"
                + "part 0 grey 0 thin 0 stains abcd;part 1 grey 0 thin 0 stains e;part 2 grey 0 thin 0 stains be;part 3 grey 0 thin 0 stains ac");
        is("the fewest", m.soaps(0), 12);
        is("what cannot come out", m.soaps(1), 0);
        is("but for that", m.soaps(2), 2);
        is("the least as bits", m.soaps(3), 5);
        is("no stains", m.soaps(7), 0);
        is("without soaps", new MoonWash().soaps(0), 0);
        noPlace("part", () -> m.soaps(8));
        noPlace("part", () -> m.soaps(-1));
        promise(22);
    }

    private static void promise23Washes() {
        MoonWash m = with("soap 2 water 1 rough 0;soap 0 water 1 rough 0;soap 9 water 1 rough 0;part 0 grey 9 thin 0;part 1 grey 8 thin 0");
        is("9 by 2", m.washes(0, 0), 5);
        is("8 by 2", m.washes(1, 0), 4);
        is("by 0", m.washes(0, 1), NONE);
        is("by 9", m.washes(0, 2), 1);
        is("white is", m.washes(7, 0), 0);
        is("white is, by 0", m.washes(7, 1), 0);
        noPlace("part", () -> m.washes(8, 0));
        noPlace("part", () -> m.washes(-1, 0));
        noPlace("soap", () -> m.washes(0, 3));
        noPlace("soap", () -> m.washes(0, -1));
        promise(23);
    }

    private static void promise24Soonest() {
        MoonWash m = with("soap 1 water 1 rough 0;wind 0 1;wind 1 2;wind 2 9;wind 3 0;wind 4 5;wind 5 1;wind 6 1;wind 7 0");
        is("all dry", m.soonest(0, NONE), 0);
        is("first way", m.soonest(0, 3), 3);
        m.wash(3, 0);
        m.wash(5, 0);
        is("not hung", m.soonest(0, NONE), 0);
        m.hang(3, true);
        is("the best peg", m.soonest(0, NONE), 1);
        is("its peg", m.soonest(0, 3), 2);
        is("part 0", m.soonest(0, 0), 0);
        is("part 2", m.soonest(0, 2), 3);
        is("part 7", m.soonest(0, 7), 7);
        m.hang(5, true);
        is("two of the best", m.soonest(0, NONE), 2);
        is("two pegs", m.soonest(0, 3) * 10 + m.soonest(0, 5), 24);
        is("by a told damp", m.soonest(9, NONE), 5);
        is("three pegs fit", m.soonest(9, 3) * 10 + m.soonest(9, 5), 24);
        m.hang(0, false);
        is("one that is down may have any", m.soonest(0, 0), 0);
        noPlace("part first", () -> m.soonest(10, 8));
        noPlace("part", () -> m.soonest(0, -2));
        noNumber("10", () -> m.soonest(10, NONE));
        noNumber("-1", () -> m.soonest(-1, 0));
        is("nothing moved", m.part(3, 5), 3);
        // The least wind that there is dries in 40 nights, or not at all.
        MoonWash slow = with("soap 1 water 1 rough 0", "dry 9 if night>38");
        for (int g = 0; g < 8; g++) {
            house(slow, "wind " + g + " 0");
        }
        slow.wash(0, 0);
        slow.hang(0, true);
        is("in 40", slow.soonest(2, NONE), 40);
        is("peg", slow.soonest(2, 0), 0);
        is("a damp of 3 takes more", slow.soonest(3, NONE), NONE);
        is("no way", slow.soonest(3, 0), NONE);
        law(slow, "dry 9 if night>39");
        is("41 are too many", slow.soonest(0, NONE), NONE);
        is("no way", slow.soonest(0, 5), NONE);
        // The law may look at the peg's wind.
        MoonWash lee = with("soap 1 water 1 rough 0;wind 4 0", "dry 20 if wind<1");
        lee.wash(1, 0);
        lee.hang(1, true);
        is("the lee is best", lee.soonest(0, NONE) * 10 + lee.soonest(0, 1), 14);
        promise(24);
    }

    private static void promise25Dried() {
        MoonWash m = with("soap 1 water 1 rough 0;wind 1 1;wind 2 0");
        is("not wet", m.dried(0, 0), 0);
        for (int p = 0; p < 4; p++) {
            m.wash(p, 0);
            m.hang(p, p < 3);
        }
        is("by 3", m.dried(0, 0), 3);
        is("by 3 at damp 2", m.dried(0, 2), 3);
        is("by 2", m.dried(0, 3), 5);
        is("by 0", m.dried(0, 9), NONE);
        is("by 1", m.dried(1, 0), 9);
        is("no wind", m.dried(2, 0), NONE);
        is("not hung", m.dried(3, 0), NONE);
        law(m, "dry 9 if night>38");
        is("in 40", m.dried(2, 0), 40);
        law(m, "dry 9 if night>39");
        is("41 are too many", m.dried(2, 0), NONE);
        law(m, "dry 1 if wet>7;dry 3 if damp>4");
        is("by the law of each night", m.dried(2, 0), NONE);
        is("by the law of each night", m.dried(2, 5), 4);
        is("nothing stays", m.part(2, 2), 9);
        noPlace("part first", () -> m.dried(8, 10));
        noPlace("part", () -> m.dried(-1, 0));
        noNumber("10", () -> m.dried(0, 10));
        noNumber("-1", () -> m.dried(0, -1));
        promise(25);
    }

    private static void promise26Ahead() {
        MoonWash m = with("soap 9 water 1 rough 0;part 1 grey 3 thin 0;wolves 100;thieves 100",
                "soil 1 if night>1;shine 5 if damp>6;shine 2 if full;dry 1 if part<1");
        m.wash(0, 0);
        m.hang(0, true);
        is("now", m.ahead(0, 0, 9, 0), 9);
        is("now: no damp comes", m.ahead(1, 0, 9, 2), 6);
        is("one night", m.ahead(0, 1, 0, 0), 5);
        is("of damp", m.ahead(0, 1, 9, 0), 8);
        is("dry", m.ahead(0, 3, 0, 0), 0);
        is("grey from the third night on", m.ahead(1, 2, 0, 1), 3);
        is("grey", m.ahead(1, 5, 0, 1), 6);
        is("grey 9 at most", m.ahead(1, 40, 0, 1), 9);
        is("light by its damp", m.ahead(1, 2, 7, 2), 11);
        is("light", m.ahead(1, 2, 6, 2), 6);
        is("light by its night", m.ahead(1, 14, 0, 2), 2);
        is("light of what is wet", m.ahead(0, 2, 0, 2), 0);
        is("light of what is dry", m.ahead(0, 3, 0, 2), 9);
        is("nothing stays", m.count(4) + m.part(1, 0) + m.count(5), 3);
        is("nobody steals", m.ahead(7, 1, 0, 2), 9);
        noPlace("part first", () -> m.ahead(8, 41, 10, 3));
        noPlace("part", () -> m.ahead(-1, 0, 0, 0));
        noNumber("n", () -> m.ahead(0, 41, 0, 3));
        noNumber("n", () -> m.ahead(0, -1, 0, 0));
        noNumber("damp", () -> m.ahead(0, 0, 10, 3));
        noNumber("damp", () -> m.ahead(0, 0, -1, 0));
        noWhat("what", () -> m.ahead(0, 0, 0, 3));
        noWhat("what", () -> m.ahead(0, 40, 9, -1));
        promise(26);
    }

    private static long told(MoonWash m, String tape, boolean sure) {
        Tape.put(m, tape);
        return m.stained(sure);
    }

    private static void promise27Stained() {
        MoonWash m = with("soap 1 water 1 rough 1 takes ab;soap 1 water 1 rough 1 takes bcd;soap 1 water 1 rough 1");
        is("all sets", told(m, "", false), 32);
        is("in all", told(m, "", true), 0);
        is("none left by ab", told(m, "\0\0", false), 4);
        is("left by ab", told(m, "\0\1", false), 28);
        is("left by none", told(m, "\2\1", false), 31);
        is("nothing to leave", told(m, "\2\0", false), 1);
        is("parted", told(m, "\0\0\1\1", false), 2);
        is("a is in all", told(m, "\0\0\1\1", true), 1);
        is("cannot be", told(m, "\0\0\0\1", false), 0);
        is("without", told(m, "\0\0\0\1", true), 0);
        StringBuilder forty = new StringBuilder();
        for (int i = 0; i < 20; i++) {
            forty.append("\0\0");
        }
        is("40 bytes", told(m, forty.toString(), false), 4);
        noNumber("42 bytes", () -> told(m, forty + "\0\0", false));
        noNumber("an odd byte", () -> told(m, "\0", false));
        noNumber("no soap", () -> told(m, "\3\0", true));
        noNumber("a soap of 255", () -> told(m, "\u00ff\0", true));
        noNumber("neither", () -> told(m, "\0\2", true));
        is("the tape is used up", m.feed(0, 0, 0, 0, 0), 20);
        m.stained(true);
        is("the tape is used up", m.feed(0, 0, 0, 0, 0), 20);
        promise(27);
    }

    private static long tries(MoonWash m, String tape) {
        Tape.put(m, tape);
        return m.tries();
    }

    private static void promise28Tries() {
        MoonWash m = with("soap 1 water 1 rough 1 takes ab;soap 1 water 1 rough 1 takes abcd;soap 1 water 1 rough 1 takes bcde;soap 1 water 1 rough 1");
        is("of all", tries(m, ""), 1);
        is("of ab", tries(m, "\0\0"), 2);
        is("of two", tries(m, "\0\0\2\0"), 3);
        is("what none parts", tries(m, "\0\0\2\1"), 0);
        is("of one", tries(m, "\3\0"), NONE);
        is("of none", tries(m, "\0\0\0\1"), NONE);
        is("also what parts nothing", tries(with("soap 1 water 1 rough 1 takes abcde"), ""), 0);
        is("without soaps", new MoonWash().tries(), NONE);
        noNumber("an odd byte", () -> tries(m, "\0"));
        noNumber("no soap", () -> tries(m, "\4\0"));
        noNumber("neither", () -> tries(m, "\0\2"));
        is("the tape is used up", m.feed(0, 0, 0, 0, 0), 20);
        is("twenty bytes of 0", m.tries(), 2);
        is("used up", m.feed(0, 0, 0, 0, 0), 20);
        promise(28);
    }

    private static void promise29Watch() {
        MoonWash m = new MoonWash();
        is("all", m.watch(), 73);
        m.hang(0, false);
        is("without 0", m.watch(), 73);
        m.hang(7, false);
        is("without 0 and 7", m.watch(), 36);
        for (int p = 1; p < 6; p++) {
            m.hang(p, false);
        }
        is("6 alone", m.watch(), 32);
        m.move(6, 0);
        is("on peg 0", m.watch(), 1);
        m.hang(7, true);
        is("0 and 7 are not beside", m.watch(), 65);
        m.hang(6, false);
        m.hang(7, false);
        is("none", m.watch(), 0);
        promise(29);
    }

    private static void promise30Row() {
        MoonWash m = new MoonWash();
        is("all", m.row(), 8);
        m.hang(3, false);
        is("around", m.row(), 7);
        m.hang(5, false);
        is("over 7 and 0", m.row(), 5);
        m.hang(0, false);
        is("in the middle", m.row(), 2);
        for (int p = 0; p < 8; p++) {
            m.hang(p, false);
        }
        is("none", m.row(), 0);
        promise(30);
    }

    private static void promise31Darkest() {
        MoonWash m = new MoonWash();
        is("the least of several", m.darkest(), 0);
        house(m, "part 6 grey 3 thin 0;part 4 grey 2 thin 0;part 7 grey 3 thin 0");
        is("darkest", m.darkest(), 6);
        m.hang(5, false);
        is("taken down", m.darkest(), 5);
        m.hang(2, false);
        is("of several", m.darkest(), 2);
        promise(31);
    }

    private static void promise32Tide() {
        MoonWash m = with("soap 9 water 1 rough 0;wind 0 1", "shine 1 if night>39;soil 1 if part>6 and night>4;shine 1 if damp>8");
        m.wash(0, 0);
        m.hang(0, true);
        is("now", m.tide(63, 0), 0);
        is("0", m.tide(0, 5), 0);
        is("behind the 9th: 7 got grey by 4", m.tide(68, 0), 9);
        is("in the 40th", m.tide(71, 0), 40);
        is("no more", m.tide(72, 0), NONE);
        is("by damp", m.tide(70, 9), 1);
        is("never", m.tide(160, 9), NONE);
        MoonWash n = with("", "shine 1 if night>39");
        is("40", n.tide(80, 0), 40);
        is("41 are too many", with("", "shine 1 if night>40").tide(80, 0), NONE);
        noNumber("161", () -> m.tide(161, 0));
        noNumber("-1", () -> m.tide(-1, 0));
        noNumber("damp", () -> m.tide(0, 10));
        noNumber("damp", () -> m.tide(0, -1));
        is("nothing stays", m.count(4), 0);
        promise(32);
    }

    private static void promise33Late() {
        MoonWash m = with("due 0 light 72;due 0 light 73;due 40 light 99;due 41 light 99;due 3 light 64;due 3 light 65;due 2 light 72;due 1 light 99",
                "soil 1 if night>1;shine 5 if damp>6");
        is("late", m.late(0), 2 + 4 + 32 + 128);
        is("late of damp", m.late(7), 2 + 4);
        m.nights(1);
        is("gone by, and 41 now in sight", m.late(0) & 15, 12);
        is("a told night is now", m.late(0) >> 7, 1 - (m.light() >= 99 ? 1 : 0));
        is("without dues", new MoonWash().late(9), 0);
        is("two of one night", with("due 2 light 80;due 2 light 50;due 2 light 81;due 1 light 72").late(0), 5);
        noNumber("10", () -> m.late(10));
        noNumber("-1", () -> m.late(-1));
        promise(33);
    }

    private static void promise34Enough() {
        MoonWash m = with("water 10;spring 3");
        is("now", m.enough(10), 0);
        is("0", m.enough(0), 0);
        is("one", m.enough(11), 1);
        is("one", m.enough(13), 1);
        is("two", m.enough(14), 2);
        is("99", m.enough(99), 30);
        is("in 99 nights", with("water 0;spring 1").enough(99), 99);
        is("never", with("water 98;spring 0").enough(99), NONE);
        noNumber("100", () -> m.enough(100));
        noNumber("-1", () -> m.enough(-1));
        promise(34);
    }

    private static void promise35Wears() {
        MoonWash m = with("soap 1 water 1 rough 0;soap 1 water 1 rough 1;soap 1 water 30 rough 3;water 0;part 1 grey 0 thin 9;part 2 grey 0 thin 8");
        is("9 by 1", m.wears(0, 0), 9);
        is("9 by 2", m.wears(0, 1), 5);
        is("9 by 4", m.wears(0, 2), 3);
        is("worn", m.wears(1, 0), 0);
        is("1 by 4", m.wears(2, 2), 1);
        noPlace("part", () -> m.wears(8, 0));
        noPlace("part", () -> m.wears(-1, 0));
        noPlace("soap", () -> m.wears(0, 3));
        noPlace("soap", () -> m.wears(0, -1));
        promise(35);
    }

    private static void promise36Like() {
        MoonWash m = with("", "shine 1 if night<1");
        is("without", m.like(), NONE);
        m.image();
        is("alike", m.like(), 8);
        m.hang(3, false);
        is("one is down", m.like(), 7);
        m.nights(1);
        is("the image has its own night", m.like(), 0);
        law(m, "shine 1");
        is("the image has its own law", m.like(), 7);
        m.undo();
        house(m, "part 0 grey 1 thin 0");
        is("less", m.like(), 6);
        m.image();
        is("anew", m.like(), 8);
        promise(36);
    }

    private static void promise37Halves() {
        MoonWash m = new MoonWash();
        is("even", m.halves(), 0);
        house(m, "part 0 grey 9 thin 0;part 1 grey 9 thin 0");
        is("one of the two each", m.halves(), 1);
        house(m, "part 0 grey 0 thin 0;part 1 grey 0 thin 0;part 5 grey 9 thin 0;part 4 grey 9 thin 0;part 6 grey 1 thin 0");
        is("around", m.halves(), 1);
        house(m, "part 2 grey 9 thin 0;part 3 grey 9 thin 0;part 4 grey 0 thin 0;part 5 grey 0 thin 0;part 6 grey 0 thin 0");
        is("around", m.halves(), 3);
        promise(37);
    }

    private static void promise38Trial() {
        MoonWash m = with("wolves 60;thieves 10;part 0 grey 0 thin 0 stains abc;part 1 grey 0 thin 0 stains a", "soil 1 if damp>7");
        is("now", m.trial(0, false), m.light());
        is("stains of all together", m.trial(0, true), 4);
        for (int n = 1; n <= 40; n += 3) {
            int light = m.trial(n, false);
            int stains = m.trial(n, true);
            m.nights(n);
            int sum = 0;
            for (int p = 0; p < 8; p++) {
                sum += Integer.bitCount(m.part(p, 3));
            }
            is("light then", m.light(), light);
            is("stains then", sum, stains);
            m.undo();
        }
        is("nothing stays", m.count(4) + m.count(13), 0);
        is("the seed stays", m.seed(1), 1);
        noNumber("41", () -> m.trial(41, false));
        noNumber("-1", () -> m.trial(-1, true));
        promise(38);
    }

    private static void promise39Span() {
        MoonWash m = with("wolves 60;thieves 30", "soil 1 if damp>7;shine 2 if damp<3");
        m.seed(99);
        for (int n = 0; n <= 40; n += 5) {
            int least = 999;
            int most = -1;
            for (int seed = 1; seed <= 6; seed++) {
                int was = m.seed(seed);
                int light = m.trial(n, false);
                m.seed(was);
                least = Math.min(least, light);
                most = Math.max(most, light);
            }
            is("least", m.span(n, false), least);
            is("most", m.span(n, true), most);
        }
        is("the seed stays", m.seed(1), 99);
        MoonWash dark = with("", "dull 20");
        is("no light at all", dark.span(3, true) * 10 + dark.span(3, false), 0);
        is("most there can be", with("", "shine 20").span(3, false), 160);
        noNumber("41", () -> m.span(41, false));
        noNumber("-1", () -> m.span(-1, true));
        promise(39);
    }

    private static void promise40Led() {
        MoonWash m = with("soap 1 water 1 rough 0;soap 1 water 1 rough 0;water 99;spring 20");
        is("never", m.led(1, false), 0);
        is("never", m.led(1, true), NONE);
        m.wash(1, 0);
        m.wash(1, 1);
        m.wash(2, 0);
        is("twice", m.led(1, false), 2);
        is("the latest soap", m.led(1, true), 1);
        is("another part", m.led(2, false) * 10 + m.led(2, true), 10);
        m.drop(0);
        is("its number then", m.led(1, true), 1);
        m.wash(1, 0);
        is("anew", m.led(1, true), 0);
        for (int i = 0; i < 59; i++) {
            m.nights(1);
            m.wash(5, 0);
        }
        is("one row of it is left", m.led(1, false), 1);
        is("59 rows", m.led(5, false), 59);
        is("the log forgot", m.led(2, false), 0);
        is("the log forgot", m.led(2, true), NONE);
        noPlace("part", () -> m.led(8, true));
        noPlace("part", () -> m.led(-1, false));
        promise(40);
    }

    private static void promise41Log() {
        MoonWash m = with("soap 1 water 1 rough 0;soap 1 water 1 rough 0 takes abc;water 99;spring 20;part 3 grey 0 thin 0 stains bcd");
        is("none", m.log(0, 0), NONE);
        m.wash(3, 1);
        m.nights(2);
        m.wash(6, 0);
        int[] latest = {2, 6, 0, 0};
        int[] before = {0, 3, 1, 6};
        for (int what = 0; what < 4; what++) {
            is("latest", m.log(0, what), latest[what]);
            is("before", m.log(1, what), before[what]);
            is("none", m.log(2, what), NONE);
            is("none", m.log(-1, what), NONE);
        }
        noWhat("what 4", () -> m.log(0, 4));
        noWhat("what -1", () -> m.log(99, -1));
        for (int i = 0; i < 60; i++) {
            is("rows", m.count(12), Math.min(60, 2 + i));
            m.nights(1);
            m.wash(i % 8, 0);
        }
        is("60 rows", m.count(12), 60);
        is("the oldest", m.log(59, 0), 3);
        is("the latest", m.log(0, 0), 62);
        is("no more", m.log(60, 0), NONE);
        m.undo();
        is("undone", m.log(0, 0), 61);
        is("the one that went is there again", m.log(59, 0), 2);
        promise(41);
    }

    private static void promise42Seed() {
        MoonWash m = new MoonWash();
        is("at first", m.seed(-7), 1);
        is("as told", m.seed(Integer.MIN_VALUE), -7);
        is("as told", m.seed(0), Integer.MIN_VALUE);
        m.nights(1);
        // Three draws: 12345, then two more.
        is("goes round", m.seed(1), (int) next(next(next(0))));
        is("is no act", m.count(13), 1);
        m.image();
        m.seed(55);
        m.back();
        is("gone back", m.seed(2), 1);
        promise(42);
    }

    private static void promise43Undo() {
        MoonWash m = with("soap 2 water 2 rough 1 takes ab;soap 3 water 3 rough 0;wolves 50;part 0 grey 4 thin 4 stains abc");
        is("none", m.undo(), false);
        m.wash(0, 0);
        m.hang(0, true);
        m.darn(0);
        m.move(0, 7);
        m.drop(0);
        m.seed(123);
        m.nights(9);
        m.seed(321);
        is("six", m.count(13), 6);
        is("undone", m.undo(), true);
        is("seed", m.seed(4), 123);
        is("night", m.count(4), 0);
        is("drop undone", m.undo(), true);
        is("soaps", m.count(0) * 10 + m.soap(0, 0), 22);
        is("seed, too", m.seed(5), 1);
        m.undo();
        is("moved back", m.part(0, 5) * 10 + m.part(7, 5), 7);
        m.undo();
        is("thin again", m.part(0, 1), 6);
        m.undo();
        is("down again", m.part(0, 4), 0);
        m.undo();
        int[] due = {4, 4, 0, 7, 1};
        for (int what = 0; what < due.length; what++) {
            is("as at first", m.part(0, what), due[what]);
        }
        is("water", m.count(6), 30);
        is("log", m.count(12), 0);
        is("no more", m.undo(), false);
        for (int i = 0; i < 15; i++) {
            m.nights(1);
            is("12 at most", m.count(13), Math.min(12, i + 1));
        }
        for (int i = 14; i >= 3; i--) {
            is("undone", m.undo(), true);
            is("night", m.count(4), i);
        }
        is("the older ones went", m.undo(), false);
        m.hang(0, true);
        m.image();
        m.hang(1, true);
        is("the image forgets none", m.count(13), 2);
        law(m, "");
        is("a text does", m.undo(), false);
        m.hang(0, true);
        house(m, "");
        is("a text does", m.undo(), false);
        m.hang(0, true);
        m.back();
        is("going back does", m.undo(), false);
        m.hang(0, false);
        m.feed(0, 0, 0, 0, 0);
        m.image();
        m.undo();
        is("but for the tape", m.feed(0, 0, 0, 0, 0), 40);
        is("but for the image", m.like(), 7);
        promise(43);
    }

    private static void promise44Image() {
        MoonWash m = with("part 0 grey 3 thin 0");
        m.image();
        m.hang(5, false);
        m.image();
        m.hang(6, false);
        m.back();
        is("the later image", m.count(10), 223);
        is("image is no act", m.count(13), 0);
        promise(44);
    }

    private static void promise45Back() {
        MoonWash m = new MoonWash();
        is("none was kept", m.back(), false);
        m.hang(0, true);
        is("nothing happens", m.back(), false);
        is("nothing happened", m.count(13), 1);
        house(m, "soap 1 water 1 rough 0;due 3 light 4;wolves 9;thieves 8;wind 2 2");
        m.wash(1, 0);
        m.seed(6);
        m.image();
        law(m, "shine 1");
        house(m, "soap 1 water 1 rough 0;due 3 light 4;wolves 1;thieves 1;wind 2 9;spring 1;water 3;part 4 grey 4 thin 4 stains a");
        m.wash(2, 0);
        m.move(0, 3);
        m.hang(7, false);
        m.nights(7);
        m.feed(0, 0, 0, 0, 0);
        is("back", m.back(), true);
        int[] counts = {1, 1, 1, NONE, 0, 0, 29, 5, 9, 8, 253, 2, 1, 0};
        for (int what = 0; what < counts.length; what++) {
            is("count(" + what + ")", m.count(what), counts[what]);
        }
        int[] part4 = {0, 0, 0, 0, 1, 4, 9, 9, 3};
        for (int what = 0; what < part4.length; what++) {
            is("part 4", m.part(4, what), part4[what]);
        }
        is("peg", m.part(0, 5), 0);
        is("wind", m.peg(2, false), 2);
        is("but for the tape", m.feed(0, 0, 0, 0, 0), 40);
        is("seed", m.seed(6), 6);
        m.hang(0, false);
        is("again", m.back(), true);
        is("hung", m.count(10), 253);
        m.end(0);
        law(m, "shine 2;shine 3");
        m.image();
        m.end(0);
        law(m, "dull 1");
        m.back();
        is("the law, too", m.count(3) * 100 + m.part(0, 7), 214);
        m.end(0);
        law(m, "dull 1;dull 1;dull 1");
        m.back();
        is("the image stays as it was", m.count(3) * 100 + m.part(0, 7), 214);
        promise(45);
    }

    private static void promise46Count() {
        MoonWash m = with("soap 1 water 4 rough 0;soap 1 water 1 rough 0;soap 1 water 1 rough 0;due 1 light 1;due 1 light 1;spring 2;wolves 3;thieves 4;water 40", "shine 1;dull 1;dull 1");
        house(m, "");
        m.wash(2, 0);
        m.hang(3, false);
        int[] before = {3, 2, 2, 3, 0, 0, 36, 2, 3, 4, 243, 4, 1, 2};
        for (int what = 0; what < before.length; what++) {
            is("count(" + what + ")", m.count(what), before[what]);
        }
        m.seed(1);
        m.nights(1);
        is("night", m.count(4), 1);
        is("damp", m.count(5), drawn(next(1)) % 10);
        is("water", m.count(6), 38);
        is("14", m.count(14), NONE);
        is("-1", m.count(-1), NONE);
        promise(46);
    }
}
