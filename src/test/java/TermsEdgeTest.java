/** The bounds of THE MOON, PEGS, SOAPS, THE TROUGH, DUES, WOLVES, THIEVES, NIGHT and DAMP, and what is at first. */
public final class TermsEdgeTest extends Check {
    private static final String SOAP = "soap 1 water 1 rough 0";
    private static final String DUE = "due 1 light 1";

    public static void main(String[] args) {
        moonAtFirst();
        restAtFirst();
        moon();
        washedBounds();
        pegs();
        soaps();
        soapCounts();
        trough();
        dues();
        wolvesAndThieves();
        nightAndDamp();
        end("TermsEdgeTest");
    }

    private static void allParts(MoonWash m, int what, int due) {
        for (int part = 0; part < 8; part++) {
            is("part " + part, m.part(part, what), due);
        }
    }

    /** A number of a text: its bounds are read, one further is wrong, and the first wrong byte is its begin. */
    private static void bound(String before, int least, int most, String behind, Act read) {
        lowest(before, least, behind, read);
        highest(before, most, behind, read);
    }

    private static void lowest(String before, int least, String behind, Act read) {
        reads(before + least + behind, least, read);
        if (least > 0) {
            wrongHouse(before + (least - 1) + behind, before.length());
        }
    }

    private static void highest(String before, int most, String behind, Act read) {
        reads(before + most + behind, most, read);
        wrongHouse(before + (most + 1) + behind, before.length());
    }

    private static void reads(String text, int due, Act read) {
        MoonWash m = new MoonWash();
        is("'" + text + "'", house(m, text), 1);
        is("fault of '" + text + "'", m.fault(), NONE);
        is("read of '" + text + "'", read.on(m), due);
    }

    private static void moonAtFirst() {
        holds("GREY (0 at first)", () -> allParts(new MoonWash(), 0, 0));
        holds("THIN (0 at first)", () -> allParts(new MoonWash(), 1, 0));
        holds("WET (0 at first)", () -> allParts(new MoonWash(), 2, 0));
        holds("STAINS (none at first)", () -> allParts(new MoonWash(), 3, 0));
        holds("HUNG (at first)", () -> {
            allParts(new MoonWash(), 4, 1);
            is("all", new MoonWash().count(10), 255);
        });
        holds("a PEG, one's own (its own number at first)", () -> {
            MoonWash m = new MoonWash();
            for (int i = 0; i < 8; i++) {
                is("peg of part " + i, m.part(i, 5), i);
                is("part on peg " + i, m.peg(i, true), i);
            }
        });
        holds("WIND (3 at first)", () -> {
            for (int peg = 0; peg < 8; peg++) {
                is("wind of peg " + peg, new MoonWash().peg(peg, false), 3);
            }
        });
    }

    private static void firstCount(String sentence, int what, int due) {
        holds(sentence, () -> is("count", new MoonWash().count(what), due));
    }

    private static void restAtFirst() {
        firstCount("The MOON, no SOAP", 0, 0);
        firstCount("no DUE at first", 1, 0);
        firstCount("no text of THE HOUSE at first", 2, 0);
        firstCount("LINES of THE LAW (NONE without one)", 3, NONE);
        firstCount("NIGHT: 0 at first", 4, 0);
        firstCount("DAMP: the latest (0 at first)", 5, 0);
        firstCount("THE TROUGH: WATER (30 at first)", 6, 30);
        firstCount("SPRING (5 at first)", 7, 5);
        firstCount("WOLVES (0 at first)", 8, 0);
        firstCount("THIEVES (0 at first)", 9, 0);
        firstCount("no PART is WET at first", 11, 0);
        firstCount("no row of THE LOG at first", 12, 0);
        firstCount("no ACT at first", 13, 0);
        holds("SEED 1 at first", () -> is("seed", new MoonWash().seed(9), 1));
        holds("the TAPE has none at first", () -> {
            is("end(1)", new MoonWash().end(1), false);
            is("feed", new MoonWash().feed(0, 0, 0, 0, 0), 20);
        });
    }

    private static void moon() {
        holds("THE MOON: eight PARTS (0 to 7)", () -> {
            bound("part ", 0, 7, " grey 4 thin 3", m -> m.part(0, 0) == 4 ? 0 : m.part(7, 0) == 4 ? 7 : -1);
            is("part 7", rich().part(7, 5), 7);
            noPlace("part 8", m -> m.part(8, 0));
            noPlace("part -1", m -> m.part(-1, 0));
        });
        holds("GREY 0 to 9", () -> bound("part 3 grey ", 0, 9, " thin 0", m -> m.part(3, 0)));
        holds("THIN 0 to 9", () -> bound("part 3 grey 0 thin ", 0, 9, "", m -> m.part(3, 1)));
        holds("STAINS of KINDS 0 to 4: a is 0", () -> {
            reads("part 3 grey 0 thin 0 stains a", 1, m -> m.part(3, 3));
            wrongHouse("part 3 grey 0 thin 0 stains `", 28);
        });
        holds("STAINS of KINDS 0 to 4: e is 4", () -> {
            reads("part 3 grey 0 thin 0 stains e", 16, m -> m.part(3, 3));
            wrongHouse("part 3 grey 0 thin 0 stains f", 28);
        });
        holds("STAINS as bits: all five", () -> reads("part 3 grey 0 thin 0 stains dbeca", 31, m -> m.part(3, 3)));
        holds("HUNG or not", () -> {
            MoonWash m = new MoonWash();
            m.hang(7, false);
            m.hang(0, false);
            is("all but 0 and 7", m.count(10), 126);
        });
        holds("a PEG 0 to 7", () -> {
            MoonWash m = new MoonWash();
            m.move(3, 7);
            is("peg 7", m.part(3, 5), 7);
            m.move(3, 0);
            is("peg 0", m.part(3, 5), 0);
            noPlace("peg 8", x -> x.move(3, 8));
            noPlace("peg -1", x -> x.move(3, -1));
        });
    }

    private static void washedBounds() {
        holds("WET 0 to 9: 9 when washed", () -> {
            MoonWash m = with(SOAP);
            m.wash(4, 0);
            is("wet", m.part(4, 2), 9);
            m.wash(4, 0);
            is("wet again", m.part(4, 2), 9);
        });
        holds("WET 0 to 9: 1 is WET, 0 is not", () -> {
            MoonWash m = with(SOAP + ";wind 7 0", "dry 4 if wet>8;dry 4 if wet>4;dry 1 if wet<2 and night>0");
            m.wash(7, 0);
            m.hang(7, true);
            m.seed(Draws.seedWith(10, 0, 1, 0, 1, 0, 10, 0));
            m.nights(1);
            is("wet", m.part(7, 2), 1);
            is("parts that are wet", m.count(11), 128);
            m.nights(1);
            is("wet", m.part(7, 2), 0);
            is("parts that are wet", m.count(11), 0);
        });
        holds("WET 0 to 9: not below 0", () -> {
            MoonWash m = with(SOAP, "dry 20");
            m.wash(4, 0);
            m.hang(4, true);
            m.nights(1);
            is("wet", m.part(4, 2), 0);
        });
    }

    private static void pegs() {
        holds("PEGS 0 to 7", () -> {
            bound("wind ", 0, 7, " 9", m -> m.peg(0, false) == 9 ? 0 : m.peg(7, false) == 9 ? 7 : -1);
            noPlace("peg 8", m -> m.peg(8, false));
            noPlace("peg -1", m -> m.peg(-1, false));
        });
        holds("WIND 0 to 9 each", () -> {
            bound("wind 0 ", 0, 9, "", m -> m.peg(0, false));
            bound("wind 7 ", 0, 9, "", m -> m.peg(7, false));
        });
        holds("WIND of one PEG alone is told", () -> {
            MoonWash m = with("wind 4 8");
            for (int peg = 0; peg < 8; peg++) {
                is("wind " + peg, m.peg(peg, false), peg == 4 ? 8 : 3);
            }
        });
    }

    private static void soaps() {
        holds("STRENGTH 0 to 9", () -> bound("soap ", 0, 9, " water 1 rough 0", m -> m.soap(0, 0)));
        holds("WATER 1 to 30: 1 at least", () -> lowest("soap 1 water ", 1, " rough 0", m -> m.soap(0, 1)));
        holds("WATER 1 to 30: 30 at most", () -> highest("soap 1 water ", 30, " rough 0", m -> m.soap(0, 1)));
        holds("ROUGH 0 to 3", () -> bound("soap 1 water 1 rough ", 0, 3, "", m -> m.soap(0, 2)));
        holds("TAKES: KINDS, as bits: a is 0", () -> {
            reads(SOAP + " takes a", 1, m -> m.soap(0, 3));
            wrongHouse(SOAP + " takes `", 29);
        });
        holds("TAKES: KINDS, as bits: e is 4", () -> {
            reads(SOAP + " takes e", 16, m -> m.soap(0, 3));
            wrongHouse(SOAP + " takes f", 29);
        });
        holds("TAKES: none, if none is told", () -> reads(SOAP, 0, m -> m.soap(0, 3)));
        holds("TAKES: all five", () -> reads(SOAP + " takes edcba", 31, m -> m.soap(0, 3)));
    }

    private static void soapCounts() {
        holds("SOAPS (at most 6): six in one text", () -> reads(times(6, SOAP), 6, m -> m.count(0)));
        holds("SOAPS (at most 6): a seventh in that text", () -> wrongHouse("", times(7, SOAP), 138));
        holds("SOAPS (at most 6): a seventh in a text behind", () -> {
            wrongHouse(times(6, SOAP), SOAP, 0);
            wrongHouse(times(5, SOAP), SOAP + "; " + SOAP, 24);
        });
        holds("SOAPS (at most 6): one thrown away gives room for one", () -> {
            MoonWash m = with(times(6, SOAP));
            m.drop(0);
            is("a sixth again", house(m, SOAP), 2);
            is("six", m.count(0), 6);
            fails("a seventh", IllegalArgumentException.class, x -> house(x, SOAP), m);
            is("fault", m.fault(), 0);
        });
        holds("SOAPS numbered from 0 on", () -> {
            MoonWash m = with("soap 4 water 1 rough 0;soap 7 water 1 rough 0");
            house(m, "soap 9 water 1 rough 0");
            is("soap 0", m.soap(0, 0), 4);
            is("soap 1", m.soap(1, 0), 7);
            is("soap 2", m.soap(2, 0), 9);
        });
        holds("SOAPS: there is none behind the last", () -> {
            is("soap 1", rich().soap(1, 0), 2);
            noPlace("soap 2", m -> m.soap(2, 0));
            noPlace("soap -1", m -> m.soap(-1, 0));
            fails("soap 6 of six", IndexOutOfBoundsException.class, m -> m.soap(6, 0), with(times(6, SOAP)));
            is("soap 5 of six", with(times(6, SOAP)).soap(5, 0), 1);
        });
    }

    private static void trough() {
        holds("THE TROUGH: WATER 0 to 99", () -> bound("water ", 0, 99, "", m -> m.count(6)));
        holds("WATER 99 at most by nights", () -> {
            MoonWash m = with("water 98;spring 1");
            m.nights(1);
            is("just 99", m.count(6), 99);
            m.nights(1);
            is("no more", m.count(6), 99);
        });
        holds("WATER 0 at least: all of it may be used", () -> {
            MoonWash m = with("soap 1 water 30 rough 0");
            m.wash(0, 0);
            is("water", m.count(6), 0);
        });
        holds("SPRING 0 to 20", () -> bound("spring ", 0, 20, "", m -> m.count(7)));
        holds("SPRING of 0 fills nothing, of 20 twenty", () -> {
            MoonWash dry = with("spring 0");
            dry.nights(1);
            is("water", dry.count(6), 30);
            MoonWash wet = with("spring 20");
            wet.nights(1);
            is("water", wet.count(6), 50);
        });
    }

    private static void dues() {
        holds("a NIGHT 0 to 999", () -> bound("due ", 0, 999, " light 1", m -> m.due(0, false)));
        holds("LIGHT 1 to 99: 1 at least", () -> lowest("due 0 light ", 1, "", m -> m.due(0, true)));
        holds("LIGHT 1 to 99: 99 at most", () -> highest("due 0 light ", 99, "", m -> m.due(0, true)));
        holds("DUES (at most 8): eight in one text", () -> reads(times(8, DUE), 8, m -> m.count(1)));
        holds("DUES (at most 8): a ninth in that text", () -> wrongHouse("", times(9, DUE), 112));
        holds("DUES (at most 8): a ninth in a text behind", () -> {
            wrongHouse(times(8, DUE), " " + DUE, 1);
            wrongHouse(times(7, DUE), DUE + ";" + DUE, 14);
        });
        holds("DUES numbered from 0 on", () -> {
            MoonWash m = with("due 3 light 4;due 1 light 2");
            house(m, "due 2 light 9");
            is("due 0", m.due(0, false) * 100 + m.due(0, true), 304);
            is("due 1", m.due(1, false) * 100 + m.due(1, true), 102);
            is("due 2", m.due(2, false) * 100 + m.due(2, true), 209);
        });
        holds("DUES: there is none behind the last", () -> {
            is("due 1", rich().due(1, true), 60);
            noPlace("due 2", m -> m.due(2, true));
            noPlace("due -1", m -> m.due(-1, false));
            is("due 7 of eight", with(times(8, DUE)).due(7, false), 1);
            fails("due 8 of eight", IndexOutOfBoundsException.class, m -> m.due(8, false), with(times(8, DUE)));
        });
    }

    private static void wolvesAndThieves() {
        holds("WOLVES 0 to 100", () -> bound("wolves ", 0, 100, "", m -> m.count(8)));
        holds("THIEVES 0 to 100", () -> bound("thieves ", 0, 100, "", m -> m.count(9)));
        holds("WOLVES of 0 come in no night", () -> {
            MoonWash m = new MoonWash();
            m.nights(60);
            m.nights(60);
            allParts(m, 3, 0);
        });
        holds("WOLVES of 100 come in each", () -> {
            MoonWash m = with("wolves 100");
            for (int night = 0; night < 60; night++) {
                int seed = m.seed(0);
                m.seed(seed);
                m.nights(1);
                int part = Draws.of(seed, 3) % 8;
                int kind = Draws.of(seed, 4) % 5;
                is("night " + night, m.part(part, 3) >> kind & 1, 1);
            }
        });
        holds("THIEVES of 0 come in no night", () -> {
            MoonWash m = new MoonWash();
            m.nights(60);
            m.nights(60);
            is("hung", m.count(10), 255);
        });
        holds("THIEVES of 100 come in each", () -> {
            MoonWash m = with("thieves 100");
            for (int night = 0; night < 60; night++) {
                int seed = m.seed(0);
                m.seed(seed);
                m.nights(1);
                is("night " + night, m.part(Draws.of(seed, 4) % 8, 4), 0);
            }
        });
    }

    private static void nightAndDamp() {
        holds("NIGHT: one more each night", () -> {
            MoonWash m = new MoonWash();
            m.nights(60);
            is("night", m.count(4), 60);
            m.nights(1);
            is("night", m.count(4), 61);
        });
        holds("NIGHT goes on behind 999", () -> {
            MoonWash m = with("", "shine 1 if night>999;shine 2 if night>998+1+1");
            for (int i = 0; i < 16; i++) {
                m.nights(60);
            }
            m.nights(39);
            is("night", m.count(4), 999);
            is("white", m.part(0, 7), 9);
            m.nights(1);
            is("night", m.count(4), 1000);
            is("white", m.part(0, 7), 10);
            m.nights(1);
            is("white", m.part(0, 7), 12);
        });
        holds("DAMP 0 to 9: 0 is drawn", () -> {
            MoonWash m = with("", "shine 1 if damp<1");
            m.seed(Draws.seedWith(10, 0));
            m.nights(1);
            is("damp", m.count(5), 0);
            is("white", m.part(0, 7), 10);
        });
        holds("DAMP 0 to 9: 9 is drawn", () -> {
            MoonWash m = with("", "shine 1 if damp>8");
            m.seed(Draws.seedWith(10, 9));
            m.nights(1);
            is("damp", m.count(5), 9);
            is("white", m.part(0, 7), 10);
        });
        holds("DAMP: the latest", () -> {
            MoonWash m = new MoonWash();
            m.nights(3);
            is("damp", m.count(5), Draws.of(1, 7) % 10);
        });
    }
}
