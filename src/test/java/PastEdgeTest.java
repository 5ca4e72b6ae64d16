/** UNDONE and THE IMAGE: 12 that are remembered and the thirteenth, what comes again and what does not. */
public final class PastEdgeTest extends Check {
    private static final String SOAP = "soap 0 water 1 rough 0";

    public static void main(String[] args) {
        none();
        remembered();
        thirteenth();
        changedNothing();
        refusedActs();
        comesAgain();
        butFor();
        texts();
        goingBack();
        image();
        imageOfAll();
        backButFor();
        backAgain();
        end("PastEdgeTest");
    }

    private static MoonWash nights(int n) {
        MoonWash m = new MoonWash();
        for (int i = 0; i < n; i++) {
            m.nights(1);
        }
        return m;
    }

    private static void none() {
        holds("undo: whether there was one: none at first, and nothing happens", () -> {
            MoonWash m = with("spring 7");
            is("undo", m.undo(), false);
            same("nothing", m, with("spring 7"));
        });
        holds("undo: one, then none any more", () -> {
            MoonWash m = nights(1);
            is("acts", m.count(13), 1);
            is("undo", m.undo(), true);
            is("acts", m.count(13), 0);
            is("night", m.count(4), 0);
            is("undo", m.undo(), false);
            is("night", m.count(4), 0);
        });
        holds("undo: the latest ACT not undone yet", () -> {
            MoonWash m = nights(5);
            for (int night = 4; night >= 0; night--) {
                is("undo", m.undo(), true);
                is("night", m.count(4), night);
            }
        });
    }

    private static void remembered() {
        holds("12 are remembered: the twelfth", () -> {
            MoonWash m = nights(12);
            is("acts", m.count(13), 12);
            for (int night = 11; night >= 0; night--) {
                is("undo", m.undo(), true);
                is("night", m.count(4), night);
            }
            is("no more", m.undo(), false);
        });
        holds("NIGHTS of one call are one", () -> {
            MoonWash m = new MoonWash();
            m.nights(60);
            is("acts", m.count(13), 1);
            is("undo", m.undo(), true);
            is("night", m.count(4), 0);
        });
        holds("each ACT is one", () -> {
            MoonWash m = with("soap 0 water 1 rough 0");
            Act[] acts = {x -> x.wash(0, 0), x -> x.hang(0, true) ? 1 : 0, x -> x.hang(0, false) ? 1 : 0, x -> x.darn(0),
                x -> x.move(0, 1), x -> x.drop(0), x -> x.nights(2)};
            for (int i = 0; i < acts.length; i++) {
                acts[i].on(m);
                is("acts", m.count(13), i + 1);
            }
        });
        holds("what is no ACT is none to be UNDONE", () -> {
            MoonWash m = nights(1);
            m.seed(7);
            m.image();
            m.feed(0, 0, 0, 0, 0);
            m.end(0);
            m.stained(true);
            m.tries();
            m.trial(9, true);
            is("acts", m.count(13), 1);
            m.undo();
            is("acts", m.count(13), 0);
            is("undone", m.count(4), 0);
        });
    }

    private static void thirteenth() {
        holds("an ACT that went as the thirteenth came is remembered no more", () -> {
            MoonWash m = nights(13);
            is("acts", m.count(13), 12);
            for (int night = 12; night >= 1; night--) {
                is("undo", m.undo(), true);
                is("night", m.count(4), night);
            }
            is("the first", m.undo(), false);
            is("night", m.count(4), 1);
        });
        holds("nor does it come again when one is UNDONE", () -> {
            MoonWash m = nights(13);
            m.undo();
            is("acts", m.count(13), 11);
            m.nights(1);
            is("acts", m.count(13), 12);
            m.nights(1);
            is("acts", m.count(13), 12);
            int undone = 0;
            while (m.undo()) {
                undone++;
            }
            is("undone", undone, 12);
            is("night", m.count(4), 2);
        });
        holds("12 are remembered, over thirty", () -> {
            MoonWash m = nights(31);
            is("acts", m.count(13), 12);
            int undone = 0;
            while (m.undo()) {
                undone++;
            }
            is("undone", undone, 12);
            is("night", m.count(4), 19);
        });
    }

    private static void changedNothing() {
        holds("also those that changed nothing: hung already", () -> {
            MoonWash m = new MoonWash();
            m.hang(0, true);
            is("acts", m.count(13), 1);
            is("undo", m.undo(), true);
            is("undo", m.undo(), false);
        });
        holds("also those that changed nothing: on that PEG already", () -> {
            MoonWash m = new MoonWash();
            m.move(0, 0);
            is("acts", m.count(13), 1);
            is("undo", m.undo(), true);
            is("undo", m.undo(), false);
        });
        holds("also those that changed nothing: twelve of these push the first away", () -> {
            MoonWash m = nights(1);
            for (int i = 0; i < 12; i++) {
                m.hang(3, true);
            }
            while (m.count(13) > 0) {
                m.undo();
            }
            is("night", m.count(4), 1);
        });
    }

    private static void refusedActs() {
        holds("an ACT that cannot be is not remembered", () -> {
            MoonWash m = with("water 1;soap 0 water 2 rough 0");
            fails("wash", IllegalStateException.class, x -> x.wash(0, 0), m);
            fails("darn", IllegalStateException.class, x -> x.darn(0), m);
            fails("wash", IndexOutOfBoundsException.class, x -> x.wash(8, 0), m);
            fails("darn", IndexOutOfBoundsException.class, x -> x.darn(8), m);
            fails("hang", IndexOutOfBoundsException.class, x -> x.hang(8, true) ? 1 : 0, m);
            fails("move", IndexOutOfBoundsException.class, x -> x.move(8, 0), m);
            fails("drop", IndexOutOfBoundsException.class, x -> x.drop(1), m);
            fails("nights", IllegalArgumentException.class, x -> x.nights(61), m);
            is("acts", m.count(13), 0);
        });
    }

    private static void undoneIs(String what, Act act) {
        MoonWash m = rich();
        act.on(m);
        is("undo of " + what, m.undo(), true);
        same(what, m, rich());
    }

    private static void comesAgain() {
        holds("all is as ahead of it: WASHED", () -> undoneIs("wash", m -> m.wash(1, 0)));
        holds("all is as ahead of it: HUNG, or taken down", () -> {
            undoneIs("up", m -> m.hang(0, true) ? 1 : 0);
            undoneIs("down", m -> m.hang(1, false) ? 1 : 0);
        });
        holds("all is as ahead of it: DARNED", () -> undoneIs("darn", m -> m.darn(1)));
        holds("all is as ahead of it: a PEG", () -> undoneIs("move", m -> m.move(1, 7)));
        holds("all is as ahead of it: a SOAP thrown away", () -> {
            undoneIs("the first", m -> m.drop(0));
            undoneIs("the last", m -> m.drop(1));
        });
        holds("all is as ahead of it: NIGHTS", () -> {
            undoneIs("one", m -> m.nights(1));
            undoneIs("sixty", m -> m.nights(60));
        });
        holds("all is as ahead of it: the row that went from THE LOG is there again", () -> {
            MoonWash m = with("water 99;spring 20;" + SOAP);
            for (int i = 0; i < 60; i++) {
                m.wash(i % 8, 0);
                m.nights(1);
            }
            m.wash(5, 0);
            is("the oldest", m.log(59, 0), 1);
            m.undo();
            is("the oldest", m.log(59, 0), 0);
            is("rows", m.count(12), 60);
        });
        holds("SEED, too: by NIGHTS", () -> {
            MoonWash m = new MoonWash();
            m.seed(5);
            m.nights(3);
            m.undo();
            is("seed", m.seed(1), 5);
        });
        holds("SEED, too, also if it was told since", () -> {
            MoonWash m = new MoonWash();
            m.seed(5);
            m.hang(0, false);
            m.seed(6);
            m.undo();
            is("seed", m.seed(1), 5);
        });
    }

    private static void butFor() {
        holds("but for the TAPE", () -> {
            MoonWash m = new MoonWash();
            m.hang(0, false);
            Tape.put(m, "spring 9");
            m.undo();
            m.house();
            is("spring", m.count(7), 9);
        });
        holds("but for fault()", () -> {
            MoonWash m = new MoonWash();
            m.hang(0, false);
            fails("wrong", IllegalArgumentException.class, x -> house(x, "spring"), m);
            is("undo", m.undo(), true);
            is("fault", m.fault(), 6);
        });
        holds("but for THE IMAGE: one that was kept since", () -> {
            MoonWash m = new MoonWash();
            m.hang(0, false);
            m.image();
            m.undo();
            is("like", m.like(), 7);
            is("back", m.back(), true);
            is("hung", m.count(10), 254);
        });
        holds("but for THE IMAGE: the one kept ahead of it", () -> {
            MoonWash m = new MoonWash();
            m.image();
            m.hang(0, false);
            m.image();
            m.hang(1, false);
            m.undo();
            m.undo();
            is("hung", m.count(10), 255);
            is("like", m.like(), 7);
        });
    }

    private static void texts() {
        holds("A text: none are remembered: of THE HOUSE", () -> {
            MoonWash m = nights(3);
            m.house();
            is("acts", m.count(13), 0);
            is("undo", m.undo(), false);
            is("night", m.count(4), 3);
        });
        holds("A text: none are remembered: THE LAW", () -> {
            MoonWash m = nights(3);
            m.law();
            is("acts", m.count(13), 0);
            is("undo", m.undo(), false);
            is("night", m.count(4), 3);
        });
        holds("A text that is wrong changes nothing of what is remembered", () -> {
            MoonWash m = nights(3);
            fails("house", IllegalArgumentException.class, x -> house(x, ";"), m);
            fails("law", IllegalArgumentException.class, x -> law(x, ";"), m);
            is("acts", m.count(13), 3);
            is("undo", m.undo(), true);
            is("night", m.count(4), 2);
        });
        holds("A text that is refused changes nothing of what is remembered", () -> {
            MoonWash m = new MoonWash();
            for (int i = 0; i < 12; i++) {
                m.house();
            }
            m.nights(1);
            fails("a 13th", UnsupportedOperationException.class, MoonWash::house, m);
            is("acts", m.count(13), 1);
            is("undo", m.undo(), true);
            is("night", m.count(4), 0);
        });
        holds("behind a text acts are remembered anew: 12", () -> {
            MoonWash m = nights(5);
            m.law();
            for (int i = 1; i <= 13; i++) {
                m.nights(1);
                is("acts", m.count(13), Math.min(12, i));
            }
        });
    }

    private static void goingBack() {
        holds("going back: none are remembered", () -> {
            MoonWash m = nights(2);
            m.image();
            m.nights(1);
            is("back", m.back(), true);
            is("acts", m.count(13), 0);
            is("undo", m.undo(), false);
            is("night", m.count(4), 2);
        });
        holds("going back where there is no IMAGE changes nothing of what is remembered", () -> {
            MoonWash m = nights(2);
            is("back", m.back(), false);
            is("acts", m.count(13), 2);
            is("undo", m.undo(), true);
        });
        holds("keeping THE IMAGE changes nothing of what is remembered", () -> {
            MoonWash m = nights(2);
            m.image();
            is("acts", m.count(13), 2);
            m.undo();
            is("night", m.count(4), 1);
        });
    }

    private static void image() {
        holds("back: false, and nothing happens, if none was kept", () -> {
            MoonWash m = with(SOAP);
            m.wash(0, 0);
            is("back", m.back(), false);
            MoonWash twin = with(SOAP);
            twin.wash(0, 0);
            same("nothing", m, twin);
        });
        holds("THE IMAGE (one): the later in place of the earlier", () -> {
            MoonWash m = new MoonWash();
            m.image();
            m.hang(0, false);
            m.image();
            m.hang(1, false);
            m.back();
            is("hung", m.count(10), 254);
        });
        holds("image: nothing else changes", () -> {
            MoonWash m = rich();
            m.back();
            m.image();
            MoonWash twin = rich();
            twin.back();
            same("image", m, twin);
        });
    }

    /** Whatever is done behind an image, going back brings all again. */
    private static void backIs(String what, Act act) {
        MoonWash m = rich();
        m.image();
        m.end(0);
        act.on(m);
        is("back of " + what, m.back(), true);
        m.end(0);
        MoonWash twin = rich();
        twin.image();
        twin.end(0);
        twin.back();
        sameButFault(what, m, twin);
    }

    private static void imageOfAll() {
        holds("THE IMAGE of all: each ACT", () -> {
            backIs("wash", m -> m.wash(1, 0));
            backIs("hang", m -> m.hang(1, false) ? 1 : 0);
            backIs("darn", m -> m.darn(1));
            backIs("move", m -> m.move(0, 7));
            backIs("drop", m -> m.drop(0));
            backIs("nights", m -> m.nights(50));
        });
        holds("THE IMAGE of all: SEED", () -> backIs("seed", m -> m.seed(3)));
        holds("THE IMAGE of all: texts of THE HOUSE, each LINE", () -> {
            for (String line : new String[] {SOAP, "part 3 grey 3 thin 3 stains c", "wind 7 7", "due 3 light 3", "spring 7", "water 7", "wolves 7",
                "thieves 7", ""}) {
                backIs("'" + line + "'", m -> house(m, line));
            }
        });
        holds("THE IMAGE of all: THE LAW", () -> {
            backIs("another", m -> law(m, "shine 9;dry 9"));
            backIs("none", m -> law(m, ""));
        });
        holds("THE IMAGE of all: no LAW at all", () -> {
            MoonWash m = new MoonWash();
            m.image();
            law(m, "shine 1");
            m.back();
            is("lines", m.count(3), NONE);
            is("white", m.part(0, 7), 9);
        });
        holds("THE IMAGE of all: so many texts, so that again 12 there can be", () -> {
            MoonWash m = new MoonWash();
            m.house();
            m.image();
            for (int i = 2; i <= 12; i++) {
                m.house();
            }
            m.back();
            is("texts", m.count(2), 1);
            is("a second", m.house(), 2);
        });
    }

    private static void backButFor() {
        holds("gone back to (but for the TAPE)", () -> {
            MoonWash m = new MoonWash();
            Tape.put(m, "spring 8");
            m.image();
            Tape.put(m, "spring 9;water 1");
            m.back();
            m.house();
            is("spring and water", m.count(7) * 100 + m.count(6), 901);
        });
        holds("gone back to (but for fault())", () -> {
            MoonWash m = new MoonWash();
            m.image();
            fails("wrong", IllegalArgumentException.class, x -> house(x, "spring"), m);
            m.back();
            is("fault", m.fault(), 6);
            law(m, "");
            m.image();
            fails("wrong", IllegalArgumentException.class, x -> law(x, "dry"), m);
            m.back();
            is("fault", m.fault(), 3);
        });
        holds("gone back to (but for THE IMAGE itself): it is there still", () -> {
            MoonWash m = new MoonWash();
            m.hang(0, false);
            m.image();
            m.back();
            is("like", m.like(), 8);
            m.hang(1, false);
            is("again", m.back(), true);
            is("hung", m.count(10), 254);
        });
    }

    private static void backAgain() {
        holds("THE IMAGE stays as it was kept, whatever is done behind it", () -> {
            MoonWash m = with(SOAP, "shine 1");
            m.image();
            for (int i = 0; i < 3; i++) {
                m.wash(i, 0);
                m.move(0, 7);
                m.nights(3);
                law(m, "dull " + i);
                house(m, "wind 3 9;part 4 grey 4 thin 4");
                is("back", m.back(), true);
                is("light", m.light(), 80);
                is("wet", m.count(11), 0);
                is("peg", m.part(0, 5), 0);
                is("wind", m.peg(3, false), 3);
                is("log", m.count(12), 0);
                is("texts", m.count(2), 1);
            }
        });
    }
}
