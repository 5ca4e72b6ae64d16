/** Promises 1 to 46 by their calls: each exception, their order, what a refused call changes, and numbers far out. */
public final class CallEdgeTest extends Check {
    private static final String SOAP = "soap 0 water 1 rough 0";
    private static final int[] NO_PARTS = {-1, 8, -2, 9, LEAST_INT, MOST_INT, 256, -256};
    // Of rich(), which has two.
    private static final int[] NO_SOAPS = {-1, 2, 6, LEAST_INT, MOST_INT};

    public static void main(String[] args) {
        feed();
        feedOrder();
        endCall();
        houseCall();
        lawCall();
        faultCall();
        part();
        soap();
        peg();
        due();
        wash();
        washOrder();
        hang();
        darn();
        move();
        drop();
        nights();
        asking();
        would();
        best();
        least();
        leastOrder();
        soaps();
        washes();
        soonest();
        dried();
        ahead();
        stained();
        tries();
        tide();
        late();
        enough();
        wears();
        trial();
        span();
        led();
        log();
        seed();
        count();
        end("CallEdgeTest");
    }

    interface PartAct {
        long on(MoonWash m, int number);
    }

    private static void noPlaces(String what, int[] numbers, PartAct call) {
        for (int n : numbers) {
            noPlace(what + " " + n, m -> call.on(m, n));
        }
    }

    private static void noNumbers(String what, int least, int most, PartAct call) {
        for (int n : new int[] {least - 1, most + 1, LEAST_INT, MOST_INT}) {
            noNumber(what + " " + n, m -> call.on(m, n));
        }
        answers(what, least, call);
        answers(what, most, call);
    }

    private static void noWhats(String what, int most, PartAct call) {
        for (int n : new int[] {-1, most + 1, LEAST_INT, MOST_INT}) {
            noWhat(what + " " + n, m -> call.on(m, n));
        }
        answers(what, 0, call);
        answers(what, most, call);
    }

    private static void answers(String what, int n, PartAct call) {
        try {
            call.on(rich(), n);
        } catch (RuntimeException e) {
            is(what + " " + n, e.getClass().getName(), "an answer");
        }
    }

    private static void feed() {
        holds("feed: Twenty bytes come behind the TAPE: how many it has: 400 at most", () -> {
            MoonWash m = new MoonWash();
            for (int i = 1; i <= 20; i++) {
                is("feed", m.feed(-1, -1, -1, -1, -1), 20 * i);
            }
            is("one more", m.feed(0, 0, 0, 0, 0), NONE);
            is("still 400", m.end(400), true);
            is("not 401", m.end(401), false);
        });
        holds("feed: NONE, and none come, if it would have more than 400: 380 and 381", () -> {
            MoonWash m = new MoonWash();
            Tape.put(m, blanks(400));
            m.end(381);
            is("401 would be", m.feed(0, 0, 0, 0, 0), NONE);
            is("none came", m.end(382), false);
            m.end(380);
            is("400 are", m.feed(0, 0, 0, 0, 0), 400);
        });
        holds("feed: none come: what was there stays", () -> {
            MoonWash m = new MoonWash();
            Tape.put(m, "spring 9" + blanks(392));
            is("full", m.feed(1, 2, 3, 4, 5), NONE);
            is("read", m.house(), 1);
            is("spring", m.count(7), 9);
        });
        holds("feed: nothing else changes", () -> {
            MoonWash m = rich();
            is("forty", m.feed(1, 2, 3, 4, 5), 40);
            m.end(20);
            same("but for the TAPE", m, rich());
        });
    }

    private static void feedOrder() {
        holds("feed: of each number the highest first: 'spring 17; water 98'", () -> {
            MoonWash m = new MoonWash();
            m.feed(0x73707269, 0x6e672031, 0x373b2077, 0x61746572, 0x20393820);
            is("house", m.house(), 1);
            is("spring", m.count(7), 17);
            is("water", m.count(6), 98);
        });
        holds("feed: bytes of 128 to 255 are bytes", () -> {
            MoonWash m = new MoonWash();
            m.feed(0x20202080, 0, 0, 0, 0);
            fails("128", IllegalArgumentException.class, MoonWash::house, m);
            is("fault", m.fault(), 3);
            m.feed(0x2020ff20, 0, 0, 0, 0);
            fails("255", IllegalArgumentException.class, MoonWash::house, m);
            is("fault", m.fault(), 2);
        });
        holds("feed: behind what an end has left", () -> {
            MoonWash m = new MoonWash();
            Tape.put(m, "spring 9");
            is("feed", m.feed(0x3b776174, 0x65722037, 0x20202020, 0x20202020, 0x20202020), 28);
            m.house();
            is("both", m.count(7) * 100 + m.count(6), 907);
        });
    }

    private static void endCall() {
        holds("end: The TAPE has its first n bytes alone: true: as many as it has", () -> {
            MoonWash m = rich();
            is("20", m.end(20), true);
            same("nothing is gone", m, rich());
        });
        holds("end: true: none", () -> {
            MoonWash m = rich();
            is("0", m.end(0), true);
            is("0 again", m.end(0), true);
            is("none", m.end(1), false);
            is("feed", m.feed(0, 0, 0, 0, 0), 20);
        });
        holds("end: false, and nothing happens, if it has fewer", () -> {
            for (int n : new int[] {21, 400, 401, MOST_INT}) {
                MoonWash m = rich();
                is("end " + n, m.end(n), false);
                same("end " + n, m, rich());
            }
        });
        holds("end: false, and nothing happens, if n is below 0", () -> {
            for (int n : new int[] {-1, -20, LEAST_INT}) {
                MoonWash m = rich();
                is("end " + n, m.end(n), false);
                same("end " + n, m, rich());
            }
        });
        holds("end: what was cut off does not come again", () -> {
            MoonWash m = new MoonWash();
            Tape.put(m, "spring 9");
            m.end(6);
            m.feed(0x20372020, 0x20202020, 0x20202020, 0x20202020, 0x20202020);
            m.house();
            is("spring", m.count(7), 7);
        });
    }

    private static boolean tapeIsEmpty(MoonWash m) {
        return !m.end(1);
    }

    private static void houseCall() {
        holds("house: Uses the TAPE up: a right text, a wrong one, one that is refused", () -> {
            MoonWash m = new MoonWash();
            house(m, "spring 1");
            is("right", tapeIsEmpty(m), true);
            fails("wrong", IllegalArgumentException.class, x -> house(x, "x"), m);
            is("wrong", tapeIsEmpty(m), true);
            for (int i = 2; i <= 12; i++) {
                m.house();
            }
            fails("refused", UnsupportedOperationException.class, x -> house(x, "spring 2"), m);
            is("refused", tapeIsEmpty(m), true);
        });
        holds("house: IllegalArgumentException ahead of UnsupportedOperationException", () -> {
            MoonWash m = new MoonWash();
            for (int i = 1; i <= 12; i++) {
                m.house();
            }
            fails("wrong and a 13th", IllegalArgumentException.class, x -> house(x, "spring 21"), m);
            is("fault", m.fault(), 7);
            fails("right and a 13th", UnsupportedOperationException.class, x -> house(x, "spring 20"), m);
            is("fault", m.fault(), NONE);
            is("texts", m.count(2), 12);
        });
        holds("house: a call that throws changes nothing but the TAPE and fault()", () -> {
            wrongHouse("soap 9 water 30 rough 3;x", 24);
            MoonWash m = twelve();
            fails("a 13th", UnsupportedOperationException.class, x -> house(x, "water 1;soap 9 water 30 rough 3"), m);
            MoonWash twin = twelve();
            twin.end(0);
            sameButFault("a 13th", m, twin);
        });
        holds("house: how many there are", () -> {
            MoonWash m = new MoonWash();
            for (int i = 1; i <= 12; i++) {
                is("house", house(m, "water " + i), i);
                is("count", m.count(2), i);
            }
        });
    }

    private static MoonWash twelve() {
        MoonWash m = rich();
        String tape = "wolves 41 ; water 12";
        m.end(0);
        for (int i = 2; i <= 12; i++) {
            m.house();
        }
        m.hang(2, false);
        Tape.put(m, tape);
        return m;
    }

    private static void lawCall() {
        holds("law: Uses the TAPE up: a right text, a wrong one", () -> {
            MoonWash m = new MoonWash();
            law(m, "shine 1");
            is("right", tapeIsEmpty(m), true);
            fails("wrong", IllegalArgumentException.class, x -> law(x, "x"), m);
            is("wrong", tapeIsEmpty(m), true);
        });
        holds("law: how many LINES", () -> {
            MoonWash m = new MoonWash();
            for (int lines : new int[] {12, 1, 0, 11}) {
                is("law", law(m, times(lines, "dry 0")), lines);
                is("count", m.count(3), lines);
            }
        });
        holds("law: a call that throws changes nothing but the TAPE and fault()", () -> wrongLaw("shine 20;dry 20;x", 16));
        holds("law: as many texts as one likes", () -> {
            MoonWash m = new MoonWash();
            for (int i = 0; i < 40; i++) {
                is("law", law(m, "shine " + i % 20), 1);
            }
            is("texts of the house", m.count(2), 0);
        });
    }

    private static void faultCall() {
        holds("fault: NONE ahead of any", () -> is("fault", new MoonWash().fault(), NONE));
        holds("fault: NONE without one", () -> {
            MoonWash m = new MoonWash();
            fails("wrong", IllegalArgumentException.class, x -> house(x, "spring 1;x"), m);
            is("wrong", m.fault(), 9);
            house(m, "");
            is("right", m.fault(), NONE);
            fails("wrong", IllegalArgumentException.class, x -> law(x, "x"), m);
            is("wrong", m.fault(), 0);
            law(m, "");
            is("right", m.fault(), NONE);
        });
        holds("fault: of the latest text that was read", () -> {
            MoonWash m = new MoonWash();
            fails("house", IllegalArgumentException.class, x -> house(x, "spring"), m);
            is("of the house", m.fault(), 6);
            fails("law", IllegalArgumentException.class, x -> law(x, "dry"), m);
            is("of the law", m.fault(), 3);
        });
        holds("fault: a TAPE that is told is no text", () -> {
            MoonWash m = rich();
            fails("stained", IllegalArgumentException.class, x -> x.stained(true), m);
            is("fault", m.fault(), 6);
            fails("tries", IllegalArgumentException.class, MoonWash::tries, rich());
            is("fault", m.fault(), 6);
        });
        holds("fault: nothing changes", () -> asks("fault", MoonWash::fault));
    }

    private static void part() {
        holds("part: IndexOutOfBoundsException: there is no such PART", () -> noPlaces("part", NO_PARTS, (m, n) -> m.part(n, 0)));
        holds("part: NoSuchElementException: another what", () -> noWhats("what", 10, (m, n) -> m.part(7, n)));
        holds("part: IndexOutOfBoundsException first", () -> noPlace("both", m -> m.part(8, 11)));
        holds("part: each what 0 to 10", () -> {
            MoonWash m = with("soap 0 water 1 rough 2 takes a;part 5 grey 1 thin 2 stains ab;wind 6 4", "shine 3");
            m.move(5, 6);
            int[] due = {1, 2, 0, 3, 1, 6, 9, 9, 4, 9, 2};
            for (int what = 0; what <= 10; what++) {
                is("what " + what, m.part(5, what), due[what]);
            }
        });
        holds("part: nothing changes", () -> asks("part", m -> m.part(1, 9)));
    }

    private static void soap() {
        holds("soap: IndexOutOfBoundsException: there is no such SOAP", () -> noPlaces("soap", NO_SOAPS, (m, n) -> m.soap(n, 0)));
        holds("soap: IndexOutOfBoundsException without SOAPS", () ->
                fails("soap 0", IndexOutOfBoundsException.class, m -> m.soap(0, 0), new MoonWash()));
        holds("soap: NoSuchElementException: another what", () -> noWhats("what", 3, (m, n) -> m.soap(1, n)));
        holds("soap: IndexOutOfBoundsException first", () -> noPlace("both", m -> m.soap(2, 4)));
        holds("soap: each what 0 to 3", () -> {
            MoonWash m = with("soap 9 water 30 rough 3 takes e");
            is("soap", m.soap(0, 0) * 100000 + m.soap(0, 1) * 1000 + m.soap(0, 2) * 100 + m.soap(0, 3), 930316);
        });
    }

    private static void peg() {
        holds("peg: IndexOutOfBoundsException: WIND of no such PEG", () -> noPlaces("peg", NO_PARTS, (m, n) -> m.peg(n, false)));
        holds("peg: IndexOutOfBoundsException: the PART of no such PEG", () -> noPlaces("peg", NO_PARTS, (m, n) -> m.peg(n, true)));
        holds("peg: WIND (part false), or the PART: of 0 and 7", () -> {
            MoonWash m = with("wind 0 4;wind 7 6");
            m.move(0, 7);
            is("0", m.peg(0, false) * 10 + m.peg(0, true), 47);
            is("7", m.peg(7, false) * 10 + m.peg(7, true), 60);
        });
    }

    private static void due() {
        holds("due: IndexOutOfBoundsException: there is no such DUE", () -> {
            noPlaces("due", NO_SOAPS, (m, n) -> m.due(n, false));
            noPlaces("due", NO_SOAPS, (m, n) -> m.due(n, true));
        });
        holds("due: IndexOutOfBoundsException without DUES", () ->
                fails("due 0", IndexOutOfBoundsException.class, m -> m.due(0, true), new MoonWash()));
        holds("due: the NIGHT (light false), or LIGHT", () -> {
            MoonWash m = with("due 999 light 1;due 0 light 99");
            is("0", m.due(0, false) * 100 + m.due(0, true), 99901);
            is("1", m.due(1, false) * 100 + m.due(1, true), 99);
        });
    }

    private static void wash() {
        holds("wash: IndexOutOfBoundsException: there is no such PART", () -> noPlaces("part", NO_PARTS, (m, n) -> m.wash(n, 0)));
        holds("wash: IndexOutOfBoundsException: there is no such SOAP", () -> noPlaces("soap", NO_SOAPS, (m, n) -> m.wash(0, n)));
        holds("wash: IllegalStateException: there is less WATER than that: just enough", () -> {
            MoonWash m = with("water 7;soap 0 water 7 rough 0");
            is("came out", m.wash(0, 0), 0);
            is("water", m.count(6), 0);
        });
        holds("wash: IllegalStateException: there is less WATER than that: one too little", () -> {
            MoonWash m = with("water 6;soap 0 water 7 rough 0;part 0 grey 3 thin 0 stains a");
            m.hang(1, false);
            fails("wash", IllegalStateException.class, x -> x.wash(0, 0), m);
            MoonWash twin = with("water 6;soap 0 water 7 rough 0;part 0 grey 3 thin 0 stains a");
            twin.hang(1, false);
            same("nothing changes", m, twin);
        });
    }

    private static void washOrder() {
        holds("wash: IndexOutOfBoundsException first", () -> {
            MoonWash m = with("water 0;soap 0 water 7 rough 0");
            fails("part", IndexOutOfBoundsException.class, x -> x.wash(8, 0), m);
            fails("soap", IndexOutOfBoundsException.class, x -> x.wash(0, 1), m);
            fails("water", IllegalStateException.class, x -> x.wash(7, 0), m);
        });
        holds("wash: without SOAPS there is none", () ->
                fails("soap", IndexOutOfBoundsException.class, x -> x.wash(0, 0), new MoonWash()));
        holds("wash: less WATER than that SOAP's", () -> {
            MoonWash m = with("water 5;soap 0 water 5 rough 0;soap 0 water 6 rough 0");
            fails("6", IllegalStateException.class, x -> x.wash(0, 1), m);
            is("5", m.wash(0, 0), 0);
            MoonWash other = with("water 5;soap 0 water 6 rough 0;soap 0 water 5 rough 0");
            is("5", other.wash(0, 1), 0);
        });
        holds("wash: STAINS that came out, as bits", () -> {
            MoonWash m = with("soap 0 water 1 rough 0 takes abcde;part 0 grey 0 thin 0 stains abcde;part 1 grey 0 thin 0 stains e");
            is("all", m.wash(0, 0), 31);
            is("none any more", m.wash(0, 0), 0);
            is("one", m.wash(1, 0), 16);
        });
        holds("wash: PARTS 0 and 7", () -> {
            MoonWash m = with(SOAP);
            m.wash(0, 0);
            m.wash(7, 0);
            is("wet", m.count(11), 129);
        });
    }

    private static void hang() {
        holds("hang: IndexOutOfBoundsException: there is no such PART", () -> {
            noPlaces("up", NO_PARTS, (m, n) -> m.hang(n, true) ? 1 : 0);
            noPlaces("down", NO_PARTS, (m, n) -> m.hang(n, false) ? 1 : 0);
        });
        holds("hang: HUNG, or taken down: whether that changed", () -> {
            for (int part : new int[] {0, 7}) {
                MoonWash m = new MoonWash();
                is("up already", m.hang(part, true), false);
                is("down", m.hang(part, false), true);
                is("down already", m.hang(part, false), false);
                is("hung", m.count(10), 255 - (1 << part));
                is("up", m.hang(part, true), true);
                is("hung", m.count(10), 255);
            }
        });
    }

    private static void darn() {
        holds("darn: IndexOutOfBoundsException: there is no such PART", () -> noPlaces("part", NO_PARTS, MoonWash::darn));
        holds("darn: IllegalStateException: there are not 2 of WATER: 2, 1 and 0", () -> {
            is("2", with("water 2").darn(0), 0);
            fails("1", IllegalStateException.class, m -> m.darn(0), with("water 1"));
            fails("0", IllegalStateException.class, m -> m.darn(0), with("water 0"));
        });
        holds("darn: IllegalStateException: nothing changes", () -> {
            MoonWash m = with("water 1;part 0 grey 0 thin 5");
            fails("1", IllegalStateException.class, x -> x.darn(0), m);
            same("nothing", m, with("water 1;part 0 grey 0 thin 5"));
        });
        holds("darn: IndexOutOfBoundsException first", () ->
                fails("both", IndexOutOfBoundsException.class, m -> m.darn(8), with("water 1")));
    }

    private static void move() {
        holds("move: IndexOutOfBoundsException: there is no such PART", () -> noPlaces("part", NO_PARTS, (m, n) -> m.move(n, 0)));
        holds("move: IndexOutOfBoundsException: there is no such PEG", () -> noPlaces("peg", NO_PARTS, (m, n) -> m.move(0, n)));
        holds("move: the PART that had it", () -> {
            MoonWash m = new MoonWash();
            is("7", m.move(0, 7), 7);
            is("0", m.move(7, 7), 0);
            is("7 itself", m.move(7, 7), 7);
        });
    }

    private static void drop() {
        holds("drop: IndexOutOfBoundsException: there is no such SOAP", () -> noPlaces("soap", NO_SOAPS, MoonWash::drop));
        holds("drop: IndexOutOfBoundsException without SOAPS", () ->
                fails("soap 0", IndexOutOfBoundsException.class, m -> m.drop(0), new MoonWash()));
        holds("drop: how many there are", () -> {
            MoonWash m = with(times(6, SOAP));
            for (int left = 5; left >= 0; left--) {
                is("left", m.drop(left), left);
            }
        });
    }

    private static void nights() {
        holds("nights: (1 to 60) IllegalArgumentException: they are none", () -> noNumbers("nights", 1, 60, MoonWash::nights));
        holds("nights: 60 are sixty", () -> {
            MoonWash m = new MoonWash();
            m.nights(60);
            is("night", m.count(4), 60);
        });
    }

    private static void asking() {
        holds("shines, light, watch, row, darkest, like, halves: nothing changes", () -> {
            asks("shines", MoonWash::shines);
            asks("light", MoonWash::light);
            asks("watch", MoonWash::watch);
            asks("row", MoonWash::row);
            asks("darkest", MoonWash::darkest);
            asks("like", MoonWash::like);
            asks("halves", MoonWash::halves);
        });
    }

    private static void would() {
        holds("would: IndexOutOfBoundsException: there is no such PART", () -> noPlaces("part", NO_PARTS, (m, n) -> m.would(n, 0)));
        holds("would: IndexOutOfBoundsException: there is no such SOAP", () -> noPlaces("soap", NO_SOAPS, (m, n) -> m.would(0, n)));
    }

    private static void best() {
        holds("best: IndexOutOfBoundsException: there is no such PART", () -> noPlaces("part", NO_PARTS, MoonWash::best));
        holds("best: IndexOutOfBoundsException also without SOAPS", () ->
                fails("part 8", IndexOutOfBoundsException.class, m -> m.best(8), new MoonWash()));
        holds("best: nothing changes", () -> asks("best", m -> m.best(6)));
    }

    private static void least() {
        holds("least: IndexOutOfBoundsException: there is no such PART: but for NONE", () -> {
            noPlaces("part", new int[] {-2, 8, LEAST_INT, MOST_INT}, (m, n) -> m.least(0, n));
            is("NONE", new MoonWash().least(0, NONE), 0);
            is("0", new MoonWash().least(0, 0), NONE);
            is("7", new MoonWash().least(0, 7), NONE);
        });
        holds("least: IllegalArgumentException: LIGHT is none", () -> {
            noNumbers("light", 0, 160, (m, n) -> m.least(n, NONE));
            noNumbers("light", 0, 160, (m, n) -> m.least(n, 3));
        });
    }

    private static void leastOrder() {
        holds("least: IndexOutOfBoundsException first", () -> {
            noPlace("both", m -> m.least(161, 8));
            noPlace("both", m -> m.least(-1, -2));
        });
        holds("least: NONE of no such way: for all, for a PART", () -> {
            is("all", new MoonWash().least(73, NONE), NONE);
            is("a part", new MoonWash().least(73, 0), NONE);
        });
    }

    private static void soaps() {
        holds("soaps: IndexOutOfBoundsException: there is no such PART", () -> noPlaces("part", NO_PARTS, MoonWash::soaps));
        holds("soaps: nothing changes", () -> asks("soaps", m -> m.soaps(6)));
    }

    private static void washes() {
        holds("washes: IndexOutOfBoundsException: there is no such PART", () -> noPlaces("part", NO_PARTS, (m, n) -> m.washes(n, 0)));
        holds("washes: IndexOutOfBoundsException: there is no such SOAP", () -> noPlaces("soap", NO_SOAPS, (m, n) -> m.washes(0, n)));
    }

    private static void soonest() {
        holds("soonest: IndexOutOfBoundsException: there is no such PART: but for NONE", () -> {
            noPlaces("part", new int[] {-2, 8, LEAST_INT, MOST_INT}, (m, n) -> m.soonest(0, n));
            is("NONE", new MoonWash().soonest(0, NONE), 0);
            is("0", new MoonWash().soonest(0, 0), 0);
            is("7", new MoonWash().soonest(0, 7), 7);
        });
        holds("soonest: IllegalArgumentException: DAMP is none", () -> {
            noNumbers("damp", 0, 9, (m, n) -> m.soonest(n, NONE));
            noNumbers("damp", 0, 9, (m, n) -> m.soonest(n, 3));
        });
        holds("soonest: IndexOutOfBoundsException first", () -> {
            noPlace("both", m -> m.soonest(10, 8));
            noPlace("both", m -> m.soonest(-1, -2));
        });
    }

    private static void dried() {
        holds("dried: IndexOutOfBoundsException: there is no such PART", () -> noPlaces("part", NO_PARTS, (m, n) -> m.dried(n, 0)));
        holds("dried: IllegalArgumentException: DAMP is none", () -> noNumbers("damp", 0, 9, (m, n) -> m.dried(0, n)));
        holds("dried: IndexOutOfBoundsException first", () -> noPlace("both", m -> m.dried(8, 10)));
        holds("dried: nothing stays", () -> asks("dried", m -> m.dried(1, 9)));
    }

    private static void ahead() {
        holds("ahead: IndexOutOfBoundsException: there is no such PART", () -> noPlaces("part", NO_PARTS, (m, n) -> m.ahead(n, 0, 0, 0)));
        holds("ahead: IllegalArgumentException: N is none", () -> noNumbers("n", 0, 40, (m, n) -> m.ahead(0, n, 0, 0)));
        holds("ahead: IllegalArgumentException: DAMP is none", () -> {
            noNumbers("damp", 0, 9, (m, n) -> m.ahead(0, 1, n, 0));
            noNumber("damp, also of 0 NIGHTS", m -> m.ahead(0, 0, 10, 0));
        });
        holds("ahead: NoSuchElementException: another what", () -> noWhats("what", 2, (m, n) -> m.ahead(0, 1, 0, n)));
        holds("ahead: IndexOutOfBoundsException first", () -> {
            noPlace("all", m -> m.ahead(8, 41, 10, 3));
            noPlace("and what", m -> m.ahead(8, 0, 0, 3));
        });
        holds("ahead: then IllegalArgumentException", () -> {
            noNumber("n and what", m -> m.ahead(0, 41, 0, 3));
            noNumber("damp and what", m -> m.ahead(0, 0, 10, 3));
        });
        holds("ahead: what 0 WET, 1 GREY, 2 LIGHT", () -> {
            MoonWash m = with(SOAP + ";part 0 grey 2 thin 0");
            m.wash(0, 0);
            m.hang(0, true);
            is("wet", m.ahead(0, 1, 0, 0), 6);
            is("grey", m.ahead(0, 1, 0, 1), 2);
            is("light", m.ahead(0, 1, 0, 2), 0);
            is("light when dry", m.ahead(0, 3, 0, 2), 7);
        });
        holds("ahead: nothing stays", () -> asks("ahead", m -> m.ahead(1, 40, 0, 0)));
    }

    /** The TAPE is refused, and nothing changes but that it is used up. */
    private static void noTape(String what, String tape, Act call) {
        MoonWash m = rich();
        Tape.put(m, tape);
        fails(what, IllegalArgumentException.class, call, m);
        MoonWash twin = rich();
        twin.end(0);
        same(what, m, twin);
    }

    private static void noTapes(Act call) {
        noTape("an odd byte", "\0", call);
        noTape("an odd byte behind two", "\0\0\1", call);
        noTape("no such SOAP", "\2\0", call);
        noTape("no such SOAP behind one", "\1\0\2\0", call);
        noTape("a SOAP of 255", "\u00ff\0", call);
        noTape("neither 0 nor 1", "\0\2", call);
        noTape("neither 0 nor 1: 255", "\0\u00ff", call);
        noTape("42 bytes", "\0\1".repeat(21), call);
        noTape("41 bytes", "\0".repeat(41), call);
        noTape("39 bytes", "\0".repeat(39), call);
        noTape("400 bytes", "\0\1".repeat(200), call);
    }

    /** The TAPE is taken, and nothing changes but that it is used up. */
    private static void takesTape(String what, String tape, Act call) {
        MoonWash m = rich();
        Tape.put(m, tape);
        call.on(m);
        MoonWash twin = rich();
        twin.end(0);
        same(what, m, twin);
    }

    private static void stained() {
        holds("stained: IllegalArgumentException: the TAPE is not that", () -> {
            noTapes(m -> m.stained(false));
            noTapes(m -> m.stained(true));
        });
        holds("stained: Uses the TAPE up, and nothing else changes", () -> {
            takesTape("none", "", m -> m.stained(false));
            takesTape("two", "\1\1\0\0", m -> m.stained(true));
        });
        holds("stained: 40 bytes at most: just 40", () -> {
            MoonWash m = with("soap 0 water 1 rough 0 takes abcd");
            Tape.put(m, "\0\0".repeat(20));
            is("how many", m.stained(false), 16);
        });
        holds("stained: (none may be told)", () -> {
            is("how many", new MoonWash().stained(false), 32);
            is("in all", new MoonWash().stained(true), 0);
        });
        holds("stained: the last SOAP, the first", () -> {
            MoonWash m = with(times(6, SOAP));
            Tape.put(m, "\0\1\5\1");
            is("how many", m.stained(false), 31);
            Tape.put(m, "\6\1");
            fails("a seventh", IllegalArgumentException.class, x -> x.stained(false), m);
        });
        holds("stained: without SOAPS none can be told", () -> {
            MoonWash m = new MoonWash();
            Tape.put(m, "\0\0");
            fails("soap 0", IllegalArgumentException.class, x -> x.stained(false), m);
        });
    }

    private static void tries() {
        holds("tries: IllegalArgumentException: the TAPE is not that", () -> noTapes(MoonWash::tries));
        holds("tries: Uses the TAPE up, and nothing else changes", () -> {
            takesTape("none", "", MoonWash::tries);
            takesTape("two", "\1\1\0\0", MoonWash::tries);
        });
        holds("tries: 40 bytes at most: just 40", () -> {
            MoonWash m = with("soap 0 water 1 rough 0 takes abcd");
            Tape.put(m, "\0\0".repeat(20));
            is("tries", m.tries(), 0);
        });
        holds("tries: without SOAPS none can be told", () -> {
            MoonWash m = new MoonWash();
            Tape.put(m, "\0\0");
            fails("soap 0", IllegalArgumentException.class, MoonWash::tries, m);
            is("nothing told", m.tries(), NONE);
        });
    }

    private static void tide() {
        holds("tide: IllegalArgumentException: LIGHT (0 to 160) is none", () -> noNumbers("light", 0, 160, (m, n) -> m.tide(n, 0)));
        holds("tide: IllegalArgumentException: DAMP is none", () -> noNumbers("damp", 0, 9, (m, n) -> m.tide(0, n)));
    }

    private static void late() {
        holds("late: IllegalArgumentException: DAMP is none", () -> noNumbers("damp", 0, 9, MoonWash::late));
    }

    private static void enough() {
        holds("enough: IllegalArgumentException: WATER is none", () -> noNumbers("water", 0, 99, MoonWash::enough));
        holds("enough: nothing changes", () -> asks("enough", m -> m.enough(99)));
    }

    private static void wears() {
        holds("wears: IndexOutOfBoundsException: there is no such PART", () -> noPlaces("part", NO_PARTS, (m, n) -> m.wears(n, 0)));
        holds("wears: IndexOutOfBoundsException: there is no such SOAP", () -> noPlaces("soap", NO_SOAPS, (m, n) -> m.wears(0, n)));
    }

    private static void trial() {
        holds("trial: IllegalArgumentException: N is none", () -> {
            noNumbers("n", 0, 40, (m, n) -> m.trial(n, false));
            noNumbers("n", 0, 40, (m, n) -> m.trial(n, true));
        });
    }

    private static void span() {
        holds("span: IllegalArgumentException: N is none", () -> {
            noNumbers("n", 0, 40, (m, n) -> m.span(n, false));
            noNumbers("n", 0, 40, (m, n) -> m.span(n, true));
        });
    }

    private static void led() {
        holds("led: IndexOutOfBoundsException: there is no such PART", () -> {
            noPlaces("how often", NO_PARTS, (m, n) -> m.led(n, false));
            noPlaces("soap", NO_PARTS, (m, n) -> m.led(n, true));
        });
    }

    private static void log() {
        holds("log: NoSuchElementException: another what", () -> {
            noWhats("what", 3, (m, n) -> m.log(0, n));
            noWhat("without a row, too", m -> m.log(99, 4));
            noWhat("below 0, too", m -> m.log(-1, -1));
        });
        holds("log: NONE without", () -> {
            for (int ago : new int[] {-1, 2, 59, 60, LEAST_INT, MOST_INT}) {
                for (int what = 0; what < 4; what++) {
                    is(ago + " ago", rich().log(ago, what), NONE);
                }
            }
            is("none at all", new MoonWash().log(0, 0), NONE);
        });
        holds("log: so many ago (0 the latest)", () -> {
            MoonWash m = rich();
            is("0", m.log(0, 1), 6);
            is("1", m.log(1, 1), 1);
        });
        holds("log: what 0 NIGHT, 1 the PART, 2 the SOAP's number, 3 STAINS", () -> {
            int[] due = {2, 6, 2, 10};
            for (int what = 0; what < 4; what++) {
                is("what " + what, rich().log(0, what), due[what]);
            }
        });
    }

    private static void seed() {
        holds("seed: what it was: any int", () -> {
            MoonWash m = new MoonWash();
            is("1 at first", m.seed(MOST_INT), 1);
            is("the most", m.seed(LEAST_INT), MOST_INT);
            is("the least", m.seed(0), LEAST_INT);
            is("0", m.seed(-1), 0);
            is("-1", m.seed(1), -1);
        });
        holds("seed: nothing else changes", () -> {
            MoonWash m = rich();
            m.seed(5);
            m.seed(777);
            same("seed", m, rich());
        });
    }

    private static void count() {
        holds("count: NONE for another what", () -> {
            for (int what : new int[] {-1, 14, 15, LEAST_INT, MOST_INT}) {
                is("count(" + what + ")", rich().count(what), NONE);
            }
        });
        holds("count: each what 0 to 13", () -> {
            MoonWash m = with("soap 0 water 3 rough 0;soap 0 water 1 rough 0;due 1 light 1;due 1 light 1;due 1 light 1;"
                    + "spring 2;water 40;wolves 8;thieves 9");
            house(m, "");
            house(m, "");
            house(m, "");
            law(m, times(5, "dry 0"));
            m.seed(Draws.seedWith(10, 6, 100, 50, 100, 50));
            m.nights(1);
            m.wash(0, 0);
            m.wash(7, 0);
            m.hang(7, true);
            int[] due = {2, 3, 4, 5, 1, 6, 36, 2, 8, 9, 254, 129, 2, 4};
            for (int what = 0; what < due.length; what++) {
                is("count(" + what + ")", m.count(what), due[what]);
            }
        });
        holds("count: 3 LINES of THE LAW (NONE without one), 0 of an empty one", () -> {
            MoonWash m = new MoonWash();
            is("without", m.count(3), NONE);
            law(m, "");
            is("empty", m.count(3), 0);
        });
        holds("count: nothing changes", () -> asks("count", m -> m.count(11)));
    }
}
