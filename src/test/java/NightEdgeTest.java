/** WASHED, A NIGHT and its DRAWS, AHEAD, ACTS and THE LOG: where something stops, and what is not done. */
public final class NightEdgeTest extends Check {
    private static final String SOAP = "soap 0 water 1 rough 0";

    public static void main(String[] args) {
        washed();
        washedBySoap();
        washedThin();
        damp();
        dries();
        soils();
        wolves();
        wolvesDraws();
        thieves();
        thievesDraws();
        numberOfDraws();
        springAndNight();
        draws();
        ahead();
        aheadWithout();
        darned();
        pegs();
        thrownAway();
        nights();
        log();
        logRows();
        end("NightEdgeTest");
    }

    /** The part 0 washed and hung, with 9 of WET. */
    private static MoonWash wet(String house, String law) {
        MoonWash m = with(house.isEmpty() ? SOAP : SOAP + ";" + house, law);
        m.wash(0, 0);
        m.hang(0, true);
        return m;
    }

    private static void washed() {
        holds("WASHED: WATER of the SOAP is gone from THE TROUGH: all of it", () -> {
            MoonWash m = with("water 30;soap 0 water 30 rough 0");
            m.wash(0, 0);
            is("water", m.count(6), 0);
        });
        holds("GREY is STRENGTH less (0 at least)", () -> {
            MoonWash m = with("soap 5 water 1 rough 0;part 0 grey 6 thin 0;part 1 grey 5 thin 0;part 2 grey 4 thin 0;part 3 grey 0 thin 0");
            int[] due = {1, 0, 0, 0};
            for (int part = 0; part < due.length; part++) {
                m.wash(part, 0);
                is("grey of " + part, m.part(part, 0), due[part]);
            }
        });
        holds("GREY is STRENGTH less: of 0 nothing, of 9 all", () -> {
            MoonWash m = with("soap 0 water 1 rough 0;soap 9 water 1 rough 0;part 0 grey 9 thin 0");
            m.wash(0, 0);
            is("by 0", m.part(0, 0), 9);
            m.wash(0, 1);
            is("by 9", m.part(0, 0), 0);
        });
        holds("STAINS that it TAKES are gone, others not", () -> {
            MoonWash m = with("soap 0 water 1 rough 0 takes abe;part 0 grey 0 thin 0 stains bcde");
            is("came out", m.wash(0, 0), 18);
            is("left", m.part(0, 3), 12);
        });
        holds("WET is 9", () -> {
            MoonWash m = with(SOAP);
            m.wash(0, 0);
            is("wet", m.part(0, 2), 9);
            is("others", m.count(11), 1);
        });
        holds("it is not HUNG", () -> {
            MoonWash m = with(SOAP);
            m.wash(0, 0);
            is("hung", m.count(10), 254);
            m.wash(0, 0);
            is("nor when it was not", m.count(10), 254);
        });
    }

    private static void washedBySoap() {
        holds("a PART by a SOAP: by that one alone", () -> {
            MoonWash m = with("soap 1 water 3 rough 0 takes ab;soap 4 water 9 rough 2 takes bc;part 3 grey 6 thin 1 stains abcd");
            is("came out", m.wash(3, 1), 6);
            is("water", m.count(6), 21);
            is("grey", m.part(3, 0), 2);
            is("thin", m.part(3, 1), 4);
            is("stains", m.part(3, 3), 9);
        });
        holds("a PART by a SOAP: that PART alone", () -> {
            MoonWash m = with("soap 9 water 1 rough 3 takes a;part 2 grey 3 thin 3 stains a;part 4 grey 3 thin 3 stains a");
            m.wash(3, 0);
            for (int part : new int[] {2, 4}) {
                is("grey", m.part(part, 0), 3);
                is("thin", m.part(part, 1), 3);
                is("wet", m.part(part, 2), 0);
                is("stains", m.part(part, 3), 1);
                is("hung", m.part(part, 4), 1);
            }
        });
    }

    private static void washedThin() {
        holds("THIN is 1 and ROUGH more", () -> {
            MoonWash m = with("soap 0 water 1 rough 0;soap 0 water 1 rough 3");
            m.wash(0, 0);
            is("of 0", m.part(0, 1), 1);
            m.wash(0, 1);
            is("of 3", m.part(0, 1), 5);
        });
        holds("THIN (9 at most)", () -> {
            MoonWash m = with("soap 0 water 1 rough 1;part 0 grey 0 thin 6;part 1 grey 0 thin 7;part 2 grey 0 thin 8;part 3 grey 0 thin 9");
            int[] due = {8, 9, 9, 9};
            for (int part = 0; part < due.length; part++) {
                m.wash(part, 0);
                is("thin of " + part, m.part(part, 1), due[part]);
            }
        });
    }

    private static void damp() {
        holds("(a) DAMP is DRAW modulo 10: each of 0 to 9", () -> {
            for (int damp = 0; damp <= 9; damp++) {
                MoonWash m = new MoonWash();
                m.seed(Draws.seedWith(10, damp));
                m.nights(1);
                is("damp", m.count(5), damp);
            }
        });
        holds("(a) is ahead of (b): one dries by the new DAMP", () -> {
            MoonWash m = wet("wind 0 3", "");
            m.seed(Draws.seedWith(10, 9));
            m.nights(1);
            is("wet", m.part(0, 2), 9);
            m.seed(Draws.seedWith(10, 2));
            m.nights(1);
            is("wet", m.part(0, 2), 6);
        });
    }

    private static int wetBehindOne(String law) {
        MoonWash m = wet("wind 0 0", law);
        m.seed(Draws.seedWith(10, 0));
        m.nights(1);
        return m.part(0, 2);
    }

    private static void dries() {
        holds("(b) WET is less by what it DRIES by (0 at least)", () -> {
            is("by 0", wetBehindOne(""), 9);
            is("by 8", wetBehindOne("dry 8"), 1);
            is("by 9", wetBehindOne("dry 9"), 0);
            is("by 10", wetBehindOne("dry 10"), 0);
            is("by 40", wetBehindOne("dry 20;dry 20"), 0);
        });
        holds("(b) Each PART that is HUNG: what is not does not dry", () -> {
            MoonWash m = wet("", "dry 20");
            m.hang(0, false);
            m.nights(60);
            is("wet", m.part(0, 2), 9);
        });
        holds("(b) Each PART: 0 and 7", () -> {
            MoonWash m = with(SOAP, "dry 9");
            m.wash(0, 0);
            m.wash(7, 0);
            m.hang(0, true);
            m.hang(7, true);
            is("both", m.nights(1), 2);
            is("wet", m.count(11), 0);
        });
        holds("(b) if WET is above 0 .. else: in the night it gets dry it is not soiled", () -> {
            MoonWash m = wet("", "dry 20;soil 2");
            m.nights(1);
            is("dry", m.part(0, 2), 0);
            is("not soiled", m.part(0, 0), 0);
            m.nights(1);
            is("soiled", m.part(0, 0), 2);
        });
        holds("(b) if WET is above 0 .. else: what dries by 0 is not soiled", () -> {
            MoonWash m = wet("wind 0 0", "soil 2");
            m.nights(3);
            is("grey", m.part(0, 0), 0);
            is("another", m.part(1, 0), 6);
        });
    }

    private static int greyBehindOne(int grey, String law) {
        MoonWash m = with("part 0 grey " + grey + " thin 0", law);
        m.nights(1);
        return m.part(0, 0);
    }

    private static void soils() {
        holds("(b) GREY is more by what it SOILS by (9 at most)", () -> {
            is("6 and 2", greyBehindOne(6, "soil 2"), 8);
            is("7 and 2", greyBehindOne(7, "soil 2"), 9);
            is("8 and 2", greyBehindOne(8, "soil 2"), 9);
            is("9 and 20", greyBehindOne(9, "soil 20"), 9);
            is("0 and 240", greyBehindOne(0, times(12, "soil 20")), 9);
        });
        holds("(b) Each PART that is HUNG: what is not is not soiled", () -> {
            MoonWash m = with("", "soil 1");
            m.hang(0, false);
            m.nights(2);
            is("down", m.part(0, 0), 0);
            is("hung", m.part(7, 0), 2);
        });
        holds("(b) is by the NIGHT ahead of its end", () -> {
            MoonWash m = with("", "soil 1 if night<1;soil 2 if full");
            m.nights(1);
            is("the first", m.part(0, 0), 1);
            m.nights(13);
            is("up to the 14th", m.part(0, 0), 1);
            m.nights(1);
            is("the full one", m.part(0, 0), 3);
        });
        holds("(b) is ahead of (c) and (d)", () -> {
            MoonWash m = with("wolves 100", "soil 1 if stains>0");
            m.seed(Draws.seedWith(1, 0, 1, 0, 8, 3));
            m.nights(1);
            is("stained", m.part(3, 3) > 0, true);
            is("not soiled by it", m.part(3, 0), 0);
        });
    }

    private static int stainsBehindOne(int wolves, int seed) {
        MoonWash m = with("wolves " + wolves);
        m.seed(seed);
        m.nights(1);
        return m.trial(0, true);
    }

    private static void wolves() {
        holds("(c) DRAW modulo 100 below WOLVES: just below, and the same", () -> {
            int seed = Draws.seedWith(1, 0, 100, 49);
            is("50", stainsBehindOne(50, seed), 1);
            is("49", stainsBehindOne(49, seed), 0);
        });
        holds("(c) DRAW modulo 100 below WOLVES: of 1 and of 100", () -> {
            is("0 below 1", stainsBehindOne(1, Draws.seedWith(1, 0, 100, 0)), 1);
            is("1 not below 1", stainsBehindOne(1, Draws.seedWith(1, 0, 100, 1)), 0);
            is("0 not below 0", stainsBehindOne(0, Draws.seedWith(1, 0, 100, 0)), 0);
            is("99 below 100", stainsBehindOne(100, Draws.seedWith(1, 0, 100, 99)), 1);
            is("99 not below 99", stainsBehindOne(99, Draws.seedWith(1, 0, 100, 99)), 0);
        });
        holds("(c) the PART DRAW modulo 8: each of 0 to 7", () -> {
            for (int part = 0; part < 8; part++) {
                MoonWash m = with("wolves 100");
                m.seed(Draws.seedWith(1, 0, 1, 0, 8, part));
                m.nights(1);
                is("stained " + part, m.part(part, 3) > 0, true);
                is("no other", m.trial(0, true), 1);
            }
        });
        holds("(c) a STAIN of the KIND DRAW modulo 5: each of 0 to 4", () -> {
            for (int kind = 0; kind < 5; kind++) {
                MoonWash m = with("wolves 100");
                m.seed(Draws.seedWith(1, 0, 1, 0, 8, 2, 5, kind));
                m.nights(1);
                is("kind " + kind, m.part(2, 3), 1 << kind);
            }
        });
    }

    private static void wolvesDraws() {
        holds("(c) a STAIN that it has already stays one, others stay", () -> {
            MoonWash m = with("wolves 100;part 2 grey 0 thin 0 stains bd");
            int seed = Draws.seedWith(1, 0, 1, 0, 8, 2, 5, 3);
            m.seed(seed);
            m.nights(1);
            is("stains", m.part(2, 3), 10);
        });
        holds("(c) if it is HUNG", () -> {
            MoonWash m = with("wolves 100");
            m.hang(2, false);
            m.seed(Draws.seedWith(1, 0, 1, 0, 8, 2));
            m.nights(1);
            is("stains", m.trial(0, true), 0);
        });
        holds("(c) also if it is WET", () -> {
            MoonWash m = wet("wolves 100;wind 0 0", "");
            m.seed(Draws.seedWith(1, 0, 1, 0, 8, 0, 5, 1));
            m.nights(1);
            is("stains", m.part(0, 3), 2);
        });
    }

    private static int hungBehindOne(int thieves, int seed) {
        MoonWash m = with("thieves " + thieves);
        m.seed(seed);
        m.nights(1);
        return Integer.bitCount(m.count(10));
    }

    private static void thieves() {
        holds("(d) DRAW modulo 100 below THIEVES: just below, and the same", () -> {
            int seed = Draws.seedWith(1, 0, 1, 0, 100, 49);
            is("50", hungBehindOne(50, seed), 7);
            is("49", hungBehindOne(49, seed), 8);
        });
        holds("(d) DRAW modulo 100 below THIEVES: of 1 and of 100", () -> {
            is("0 below 1", hungBehindOne(1, Draws.seedWith(1, 0, 1, 0, 100, 0)), 7);
            is("1 not below 1", hungBehindOne(1, Draws.seedWith(1, 0, 1, 0, 100, 1)), 8);
            is("0 not below 0", hungBehindOne(0, Draws.seedWith(1, 0, 1, 0, 100, 0)), 8);
            is("99 below 100", hungBehindOne(100, Draws.seedWith(1, 0, 1, 0, 100, 99)), 7);
            is("99 not below 99", hungBehindOne(99, Draws.seedWith(1, 0, 1, 0, 100, 99)), 8);
        });
        holds("(d) the PART DRAW modulo 8: each of 0 to 7: not HUNG any more, its GREY is 9", () -> {
            for (int part = 0; part < 8; part++) {
                MoonWash m = with("thieves 100;part 2 grey 4 thin 0");
                m.seed(Draws.seedWith(1, 0, 1, 0, 1, 0, 8, part));
                m.nights(1);
                is("hung", m.count(10), 255 - (1 << part));
                is("grey", m.part(part, 0), 9);
                is("another's grey", m.part((part + 1) % 8, 0), (part + 1) % 8 == 2 ? 4 : 0);
            }
        });
    }

    private static void thievesDraws() {
        holds("(d) if it is HUNG", () -> {
            MoonWash m = with("thieves 100;part 2 grey 4 thin 0");
            m.hang(2, false);
            m.seed(Draws.seedWith(1, 0, 1, 0, 1, 0, 8, 2));
            m.nights(1);
            is("hung", m.count(10), 251);
            is("grey", m.part(2, 0), 4);
        });
        holds("(d) STAINS, THIN and WET stay as they are", () -> {
            MoonWash m = wet("thieves 100;wind 0 0;part 0 grey 1 thin 3 stains ac", "");
            m.seed(Draws.seedWith(1, 0, 1, 0, 1, 0, 8, 0));
            m.nights(1);
            is("hung", m.part(0, 4), 0);
            is("rest", m.part(0, 1) * 1000 + m.part(0, 2) * 100 + m.part(0, 3), 4905);
        });
        holds("(c) is ahead of (d): the stained one may be stolen", () -> {
            MoonWash m = with("wolves 100;thieves 100");
            m.seed(Draws.seedWith(1, 0, 1, 0, 8, 5, 5, 2, 1, 0, 8, 5));
            m.nights(1);
            is("stains", m.part(5, 3), 4);
            is("hung", m.part(5, 4), 0);
        });
    }

    private static void drawsOf(String what, MoonWash m, int seed, int draws) {
        m.seed(seed);
        m.nights(1);
        is("seed behind " + what, m.seed(0), Draws.seedBehind(seed, draws));
    }

    private static void numberOfDraws() {
        holds("The first DRAW of (c), of (d) is made always", () -> {
            drawsOf("neither", new MoonWash(), 5, 3);
            MoonWash empty = new MoonWash();
            for (int part = 0; part < 8; part++) {
                empty.hang(part, false);
            }
            drawsOf("none hung", empty, 5, 3);
        });
        holds("if it is below, so are the others of it: of (c)", () -> {
            drawsOf("wolves", with("wolves 100"), 5, 5);
            drawsOf("wolves just not", with("wolves 30"), Draws.seedWith(1, 0, 100, 30), 3);
        });
        holds("if it is below, so are the others of it: of (d)", () -> {
            drawsOf("thieves", with("thieves 100"), 5, 4);
            drawsOf("thieves just not", with("thieves 30"), Draws.seedWith(1, 0, 1, 0, 100, 30), 3);
        });
        holds("if it is below, so are the others of it: of both", () -> drawsOf("both", with("wolves 100;thieves 100"), 5, 6));
        holds("so are the others of it, HUNG or not", () -> {
            MoonWash m = with("wolves 100;thieves 100");
            for (int part = 0; part < 8; part++) {
                m.hang(part, false);
            }
            drawsOf("none hung", m, 5, 6);
        });
        holds("nights one behind another go on with SEED", () -> {
            MoonWash m = new MoonWash();
            m.nights(60);
            is("seed", m.seed(0), Draws.seedBehind(1, 180));
        });
    }

    private static int waterBehindOne(int water, int spring) {
        MoonWash m = with("water " + water + ";spring " + spring);
        m.nights(1);
        return m.count(6);
    }

    private static void springAndNight() {
        holds("(e) WATER is more by SPRING (99 at most)", () -> {
            is("93 and 5", waterBehindOne(93, 5), 98);
            is("94 and 5", waterBehindOne(94, 5), 99);
            is("95 and 5", waterBehindOne(95, 5), 99);
            is("99 and 20", waterBehindOne(99, 20), 99);
            is("0 and 0", waterBehindOne(0, 0), 0);
        });
        holds("NIGHT is 1 more", () -> {
            MoonWash m = new MoonWash();
            m.nights(1);
            is("night", m.count(4), 1);
        });
    }

    private static void draws() {
        holds("SEED is 1103515245 times SEED and 12345, as an int that goes round", () -> {
            for (int seed : new int[] {0, 1, -1, 2, 3, MOST_INT, LEAST_INT, 1103515245, -12345, 65536, 1 << 30}) {
                drawsOf("" + seed, new MoonWash(), seed, 3);
            }
        });
        holds("DRAW: bits 16 to 30: the damps of many seeds", () -> {
            MoonWash m = new MoonWash();
            for (int seed = 0; seed < 160; seed++) {
                m.seed(seed * 77_777_777);
                m.nights(1);
                is("damp of " + seed, m.count(5), Draws.of(seed * 77_777_777, 1) % 10);
            }
        });
        holds("DRAW: bits 16 to 30: 16 is one of them", () -> dampIsNot(17, 16383));
        holds("DRAW: bits 16 to 30: 15 is none", () -> dampIsNot(15, 65535));
        holds("DRAW: bits 16 to 30: 30 is one of them", () -> dampIsNot(16, 16383));
        holds("DRAW: bits 16 to 30: 31 is none", () -> dampIsNot(16, 65535));
    }

    /** A seed by which these bits would give another damp than bits 16 to 30 do. */
    private static void dampIsNot(int shift, int mask) {
        int seed = 1;
        while ((Draws.next(seed) >>> shift & mask) % 10 == Draws.of(seed, 1) % 10) {
            seed++;
        }
        MoonWash m = new MoonWash();
        m.seed(seed);
        m.nights(1);
        is("damp", m.count(5), Draws.of(seed, 1) % 10);
    }

    private static void ahead() {
        holds("AHEAD by N NIGHTS (0 to 40): 0 is now", () -> {
            MoonWash m = wet("", "shine 1 if damp<1;shine 2 if night<1");
            is("wet", m.ahead(0, 0, 9, 0), 9);
            is("light by the DAMP that is, the NIGHT that is", m.ahead(1, 0, 9, 2), 12);
        });
        holds("AHEAD by N NIGHTS (0 to 40): 40", () -> {
            MoonWash m = with("", "shine 1 if night>39;shine 2 if night>40");
            is("light", m.ahead(0, 40, 0, 2), 10);
            is("39", m.ahead(0, 39, 0, 2), 9);
        });
        holds("AHEAD: each of that DAMP", () -> {
            MoonWash m = wet("wind 0 3", "shine 1 if damp>8");
            is("one of 9", m.ahead(0, 1, 9, 0), 9);
            is("three of 8", m.ahead(0, 3, 8, 0), 6);
            is("three of 2", m.ahead(0, 3, 2, 0), 0);
            is("light of 9", m.ahead(1, 1, 9, 2), 10);
            is("light of 8", m.ahead(1, 1, 8, 2), 9);
        });
        holds("AHEAD: as so many NIGHTS: (b) by the NIGHT ahead of its end", () -> {
            MoonWash m = with("", "soil 1 if night<2");
            is("one", m.ahead(0, 1, 0, 1), 1);
            is("two", m.ahead(0, 2, 0, 1), 2);
            is("three", m.ahead(0, 3, 0, 1), 2);
        });
    }

    private static void aheadWithout() {
        holds("AHEAD: without a DRAW", () -> {
            MoonWash m = new MoonWash();
            m.seed(42);
            m.ahead(0, 40, 3, 0);
            is("seed", m.seed(42), 42);
        });
        holds("AHEAD: without wolves, without thieves", () -> {
            MoonWash m = with("wolves 100;thieves 100");
            for (int part = 0; part < 8; part++) {
                is("light", m.ahead(part, 40, 0, 2), 9);
            }
        });
        holds("AHEAD: what is not HUNG stays as it is", () -> {
            MoonWash m = wet("part 0 grey 4 thin 0", "soil 1");
            m.hang(0, false);
            is("wet", m.ahead(0, 40, 0, 0), 9);
            is("grey", m.ahead(0, 40, 0, 1), 4);
            is("light", m.ahead(0, 40, 0, 2), 0);
        });
    }

    private static void darned() {
        holds("DARNED: THIN is 3 less (0 at least)", () -> {
            MoonWash m = with("part 0 grey 0 thin 9;part 1 grey 0 thin 4;part 2 grey 0 thin 3;part 3 grey 0 thin 2;part 4 grey 0 thin 0");
            int[] due = {6, 1, 0, 0, 0};
            for (int part = 0; part < due.length; part++) {
                is("darned " + part, m.darn(part), due[part]);
                is("thin " + part, m.part(part, 1), due[part]);
            }
        });
        holds("DARNED: for 2 of WATER", () -> {
            MoonWash m = with("water 3");
            m.darn(0);
            is("water, also if THIN was 0", m.count(6), 1);
        });
        holds("DARNED: nothing else changes", () -> {
            MoonWash m = wet("part 0 grey 4 thin 4 stains ac", "");
            m.darn(0);
            is("rest", m.part(0, 0) * 1000 + m.part(0, 2) * 100 + m.part(0, 3) * 10 + m.part(0, 4), 4951);
        });
    }

    private static void pegs() {
        holds("a PART comes to a PEG (the one that has it comes to where it was)", () -> {
            MoonWash m = new MoonWash();
            is("had it", m.move(0, 7), 7);
            is("peg of 0", m.part(0, 5), 7);
            is("peg of 7", m.part(7, 5), 0);
            is("had it", m.move(3, 7), 0);
            is("peg of 3", m.part(3, 5), 7);
            is("peg of 0", m.part(0, 5), 3);
            is("peg of 7", m.part(7, 5), 0);
        });
        holds("a PART comes to its own PEG: itself had it", () -> {
            MoonWash m = new MoonWash();
            is("had it", m.move(4, 4), 4);
            is("peg", m.part(4, 5), 4);
            is("an act", m.count(13), 1);
        });
        holds("a PART that is not HUNG has a PEG, too", () -> {
            MoonWash m = new MoonWash();
            m.hang(2, false);
            is("had it", m.move(6, 2), 2);
            is("peg", m.part(2, 5), 6);
        });
    }

    private static void thrownAway() {
        holds("a SOAP is thrown away (those behind it have a number less): the first", () -> {
            MoonWash m = with("soap 1 water 1 rough 0;soap 2 water 2 rough 1 takes b;soap 3 water 3 rough 2 takes c");
            is("left", m.drop(0), 2);
            is("soap 0", m.soap(0, 0) * 1000 + m.soap(0, 1) * 100 + m.soap(0, 2) * 10 + m.soap(0, 3), 2212);
            is("soap 1", m.soap(1, 0) * 1000 + m.soap(1, 1) * 100 + m.soap(1, 2) * 10 + m.soap(1, 3), 3324);
        });
        holds("a SOAP is thrown away: the last of six", () -> {
            MoonWash m = with("soap 0 water 1 rough 0;soap 1 water 1 rough 0;soap 2 water 1 rough 0;soap 3 water 1 rough 0;"
                    + "soap 4 water 1 rough 0;soap 5 water 1 rough 0");
            is("left", m.drop(5), 5);
            is("soap 4", m.soap(4, 0), 4);
            is("left", m.drop(0), 4);
            is("soap 3", m.soap(3, 0), 4);
        });
        holds("a SOAP is thrown away: the only one", () -> {
            MoonWash m = with(SOAP);
            is("left", m.drop(0), 0);
            fails("soap 0", IndexOutOfBoundsException.class, x -> x.soap(0, 0), m);
        });
    }

    private static void nights() {
        holds("NIGHTS: how often a PART that was WET is not behind them any more", () -> {
            MoonWash m = wet("wind 0 3", "");
            m.seed(Draws.seedWith(10, 0, 1, 0, 1, 0, 10, 1, 1, 0, 1, 0, 10, 2));
            is("still wet", m.nights(2), 0);
            is("dry", m.nights(1), 1);
            is("dry before", m.nights(1), 0);
        });
        holds("NIGHTS: each NIGHT of these counted", () -> {
            MoonWash m = with(SOAP + ";wind 1 9;wind 2 4", "dry 9 if part<1");
            for (int part = 0; part < 3; part++) {
                m.wash(part, 0);
                m.hang(part, true);
            }
            is("all three, in other nights", m.nights(20), 3);
        });
        holds("NIGHTS: what is not HUNG is WET behind them", () -> {
            MoonWash m = wet("", "dry 20");
            m.wash(1, 0);
            is("one of the two", m.nights(60), 1);
        });
    }

    private static void log() {
        holds("THE LOG: the latest 60: sixty", () -> {
            MoonWash m = logged(60);
            is("rows", m.count(12), 60);
            is("the oldest", m.log(59, 0), 0);
            is("the latest", m.log(0, 0), 59);
        });
        holds("THE LOG: the latest 60: sixty-one", () -> {
            MoonWash m = logged(61);
            is("rows", m.count(12), 60);
            is("the oldest", m.log(59, 0), 1);
            is("the latest", m.log(0, 0), 60);
            is("the first went", m.log(60, 0), NONE);
        });
        holds("THE LOG: the latest 60: over a hundred and twenty", () -> {
            MoonWash m = logged(125);
            is("rows", m.count(12), 60);
            for (int ago = 0; ago < 60; ago++) {
                is("night " + ago + " ago", m.log(ago, 0), 124 - ago);
                is("part " + ago + " ago", m.log(ago, 1), (124 - ago) % 8);
            }
        });
    }

    /** n washings, one a night. */
    private static MoonWash logged(int n) {
        MoonWash m = with(SOAP + ";soap 1 water 1 rough 0");
        for (int i = 0; i < n; i++) {
            m.wash(i % 8, i % 2);
            m.nights(1);
        }
        return m;
    }

    private static void logRows() {
        holds("THE LOG: the SOAP's number then", () -> {
            MoonWash m = with(SOAP + ";soap 1 water 1 rough 0;soap 2 water 1 rough 0");
            m.wash(0, 2);
            m.drop(0);
            is("number", m.log(0, 2), 2);
            m.wash(0, 1);
            is("number", m.log(0, 2), 1);
        });
        holds("THE LOG: STAINS that came out, as bits", () -> {
            MoonWash m = with("soap 0 water 1 rough 0 takes ae;part 7 grey 0 thin 0 stains abe");
            m.wash(7, 0);
            is("came out", m.log(0, 3), 17);
            m.wash(7, 0);
            is("none", m.log(0, 3), 0);
        });
        holds("THE LOG: those that were WASHED alone", () -> {
            MoonWash m = with(SOAP);
            m.hang(0, false);
            m.darn(0);
            m.move(0, 1);
            m.nights(1);
            m.drop(0);
            is("rows", m.count(12), 0);
        });
        holds("THE LOG: a washing that cannot be has no row", () -> {
            MoonWash m = with("water 0;" + SOAP);
            fails("no water", IllegalStateException.class, x -> x.wash(0, 0), m);
            is("rows", m.count(12), 0);
        });
    }
}
