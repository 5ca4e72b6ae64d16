/**
 * What the edge tests are written with: each test is one sentence of the document with a boundary in it,
 * and counts by itself. A test class extends this one, and ends with end().
 */
class Check {
    static final int NONE = MoonWash.NONE;
    static final int LEAST_INT = Integer.MIN_VALUE;
    static final int MOST_INT = Integer.MAX_VALUE;

    interface Body {
        void run();
    }

    interface Act {
        long on(MoonWash m);
    }

    private static int passed = 0;
    private static int failed = 0;
    private static boolean right = true;

    /** One sentence of the document, and what shows that it holds. */
    static void holds(String sentence, Body body) {
        right = true;
        try {
            body.run();
        } catch (RuntimeException | StackOverflowError e) {
            wrong("thrown was " + e);
        }
        if (right) {
            passed++;
        } else {
            failed++;
            System.out.println("broken: " + sentence);
        }
    }

    static void end(String name) {
        System.out.println(name + ": " + passed + " passed, " + failed + " failed");
        System.exit(failed == 0 ? 0 : 1);
    }

    private static void wrong(String what) {
        right = false;
        System.out.println("  " + what);
    }

    static void is(String what, long got, long due) {
        if (got != due) {
            wrong(what + " answered " + got + ", due is " + due);
        }
    }

    static void is(String what, boolean got, boolean due) {
        is(what, got ? 1 : 0, due ? 1 : 0);
    }

    static void is(String what, String got, String due) {
        if (!got.equals(due)) {
            wrong(what + ": " + got + ", due is " + due);
        }
    }

    static void fails(String what, Class<? extends RuntimeException> due, Act call, MoonWash m) {
        String got;
        try {
            got = "an answer of " + call.on(m);
        } catch (RuntimeException e) {
            got = e.getClass().getName();
        }
        is(what, got, due.getName());
    }

    // ---- texts

    static int house(MoonWash m, String text) {
        Tape.put(m, text);
        return m.house();
    }

    static int law(MoonWash m, String text) {
        Tape.put(m, text);
        return m.law();
    }

    static MoonWash with(String house) {
        MoonWash m = new MoonWash();
        house(m, house);
        return m;
    }

    static MoonWash with(String house, String law) {
        MoonWash m = with(house);
        law(m, law);
        return m;
    }

    /** n lines, the same each, with ; between them. */
    static String times(int n, String line) {
        StringBuilder b = new StringBuilder();
        for (int i = 0; i < n; i++) {
            b.append(i == 0 ? "" : ";").append(line);
        }
        return b.toString();
    }

    static String blanks(int n) {
        return " ".repeat(n);
    }

    // ---- what changes nothing

    /** One in which next to nothing is as at first, so that whatever a call changes is seen. */
    static MoonWash rich() {
        MoonWash m = with("soap 3 water 4 rough 1 takes ab;soap 5 water 9 rough 2 takes c;soap 2 water 1 rough 0 takes bd;"
                + "part 1 grey 5 thin 4 stains ace;part 6 grey 7 thin 2 stains bd;wind 0 5;wind 3 1;due 9 light 40;"
                + "due 5 light 60;spring 3;water 80;wolves 30;thieves 20",
                "shine 4 if part>3;dull 2 if thin>4 and not full;dry 1 if wind>2;soil 1 if night>2");
        fails("a wrong law", IllegalArgumentException.class, x -> law(x, "shine x"), m);
        m.seed(12345);
        m.wash(1, 0);
        m.hang(1, true);
        m.nights(2);
        m.move(2, 5);
        m.wash(6, 2);
        m.image();
        m.hang(6, true);
        m.darn(6);
        m.drop(1);
        m.hang(0, false);
        m.nights(1);
        m.seed(777);
        Tape.put(m, "wolves 41 ; water 12");
        return m;
    }

    /** That all of two is the same; asks all that can be asked, and uses both up. */
    static void same(String what, MoonWash got, MoonWash due) {
        is(what + ", fault", got.fault(), due.fault());
        sameButFault(what, got, due);
    }

    static void sameButFault(String what, MoonWash got, MoonWash due) {
        String[] gotRows = Probe.all(got).split("\n");
        String[] dueRows = Probe.all(due).split("\n");
        is(what + ", rows", gotRows.length, dueRows.length);
        for (int i = 0; i < Math.min(gotRows.length, dueRows.length); i++) {
            if (!gotRows[i].equals(dueRows[i])) {
                is(what, gotRows[i], dueRows[i]);
                return;
            }
        }
    }

    /** The call throws so, and nothing changes. */
    static void refused(String what, Class<? extends RuntimeException> due, Act call) {
        MoonWash m = rich();
        fails(what, due, call, m);
        same(what, m, rich());
    }

    static void noPlace(String what, Act call) {
        refused(what, IndexOutOfBoundsException.class, call);
    }

    static void noNumber(String what, Act call) {
        refused(what, IllegalArgumentException.class, call);
    }

    static void noWhat(String what, Act call) {
        refused(what, java.util.NoSuchElementException.class, call);
    }

    /** The call answers, and nothing changes. */
    static void asks(String what, Act call) {
        MoonWash m = rich();
        call.on(m);
        same(what, m, rich());
    }

    /** The text is refused with that first wrong byte; of all else nothing changes but the tape, which is used up. */
    static void wrongHouse(String text, int fault) {
        wrongText("house", text, fault, rich(), rich(), MoonWash::house);
    }

    static void wrongLaw(String text, int fault) {
        wrongText("law", text, fault, rich(), rich(), MoonWash::law);
    }

    /** Likewise, behind a first text of the house. */
    static void wrongHouse(String first, String text, int fault) {
        wrongText("house", text, fault, with(first), with(first), MoonWash::house);
    }

    private static void wrongText(String name, String text, int fault, MoonWash m, MoonWash twin, Act read) {
        String what = name + " '" + text + "'";
        Tape.put(m, text);
        fails(what, IllegalArgumentException.class, read, m);
        is("fault of " + what, m.fault(), fault);
        twin.end(0);
        sameButFault(what, m, twin);
    }
}
