/** Each promise of the document by hand: ordinary inputs, its edges, wrong inputs. */
public final class PromisesTest {
    private static final long BAD = -1_000_000_000_000_000_000L;
    private static final int BIG = Integer.MAX_VALUE;
    private static final int SMALL = Integer.MIN_VALUE;

    /** Prices 4, 7, 10. */
    private static final String TWO =
        "baker ann cost 2;baker bob cost 3;steps 3 from 4 by 3;women 10 ask ann;women 4 ask bob and ann worth 7;";

    private PromisesTest() {
    }

    public static void main(String[] args) {
        newObject();
        feed();
        street();
        faults();
        faultsOfStatements();
        faultsOfNames();
        faultsOfNumbers();
        faultsOfLimits();
        told();
        cost();
        promise();
        asks();
        lots();
        answer();
        sold();
        earns();
        at();
        best();
        judge();
        rests();
        pays();
        gap();
        saves();
        look();
        lookWithAnswer();
        lotsOfTwo();
        lotsWithRests();
        chase();
        laws();
        shout();
        bestLaw();
        edge();
        run();
        images();
        count();
        Due.end("PromisesTest");
    }

    /** TWO with ann at 4 and bob at 7, for sure. */
    private static LoafStreet two() {
        LoafStreet x = Due.told(TWO);
        x.sure(0, 0);
        x.sure(1, 1);
        return x;
    }

    private static void newObject() {
        LoafStreet x = new LoafStreet();
        int[] told = {0, 0, 4, 5, 5, 0, 0, 0};
        for (int i = 0; i < told.length; i++) {
            Due.is("new: told " + i, x.told(i), told[i]);
        }
        int[] counts = {0, 0, 0, -1, 0, 0, 0, 0, 0, -1};
        for (int i = 0; i < counts.length; i++) {
            Due.is("new: count " + i, x.count(i), counts[i]);
        }
        Due.is("new: fault", x.fault(), -1);
        Due.is("new: cost", x.cost(0, 1), false);
        Due.is("new: promise", x.promise(0, true), false);
        Due.is("new: sure", x.sure(0, 0), false);
        Due.is("new: lot", x.lot(0, 0, 1), false);
        Due.is("new: answer", x.answer(0), false);
        Due.is("new: ask", x.ask(0), -1);
        Due.is("new: part", x.part(0, 0), -1);
        Due.is("new: sold", x.sold(0), -1);
        Due.is("new: earns", x.earns(0), BAD);
        Due.is("new: at", x.at(0, 0), BAD);
        Due.is("new: best", x.best(0), -1);
        Due.is("new: judge", x.judge(), -2);
        Due.is("new: rests", x.rests(-1), -1);
        Due.is("new: pays", x.pays(0, 0), -1);
        Due.is("new: mean", x.mean(0), -1);
        Due.is("new: gap", x.gap(), -1);
        Due.is("new: saves", x.saves(0, 0), -1);
        Due.is("new: would", x.would(0), -1);
        Due.is("new: look", x.look(1, 0), -1);
        Due.is("new: lots", x.lots(0, 1, 0, 1, 0), -1);
        Due.is("new: chase", x.chase(1, 0), -1);
        Due.is("new: bestLaw", x.bestLaw(0, 0), -1);
        Due.is("new: edge", x.edge(0), -1);
        Due.is("new: run", x.run(1, 1, 10), -1);
        Due.is("new: image", x.image(), -1);
        Due.is("new: back", x.back(0), false);
        Due.is("new: force none", x.force(-1), true);
        Due.is("new: NONE", LoafStreet.NONE, -1);
    }

    private static void feed() {
        LoafStreet x = new LoafStreet();
        for (int i = 1; i <= 40; i++) {
            Due.is("feed " + i, x.feed(0, -1, BIG, SMALL, i), 20 * i);
        }
        Due.is("feed beyond 800", x.feed(0, 0, 0, 0, 0), -1);
        Due.is("bytes then", x.count(1), 800);
        Due.is("street of zeros", x.street(800), -1);
        Due.is("its fault", x.fault(), 0);
        Due.is("feed anew", x.feed(0, 0, 0, 0, 0), 20);
        // "baker a cost 0;" and five more bytes: of each number the highest byte first
        LoafStreet y = new LoafStreet();
        y.feed(0x62616B65, 0x72206120, 0x636F7374, 0x20303B20, 0x20202020);
        Due.is("street by bytes", y.street(20), 1);
    }

    private static void street() {
        LoafStreet x = new LoafStreet();
        Due.feed(x, TWO);
        int bytes = x.count(1);
        Due.is("street(-1)", x.street(-1), -2);
        Due.is("street of more", x.street(bytes + 1), -2);
        Due.is("street(MIN)", x.street(SMALL), -2);
        Due.is("nothing was done", x.count(1), bytes);
        Due.is("no fault by that", x.fault(), -1);
        Due.is("street of all", x.street(bytes), 2);
        Due.is("the tape is empty", x.count(1), 0);
        x.sure(0, 0);
        x.sure(1, 1);
        x.promise(1, true);
        x.cost(0, 77);
        x.law(0, 1);
        x.force(0);
        x.image();
        Due.is("a fault", Due.tell(x, "baker"), -1);
        Due.is("fault's place", x.fault(), 5);
        Due.is("-2 keeps the fault", x.street(1), -2);
        Due.is("fault's place still", x.fault(), 5);
        Due.is("street as it was", x.told(0) * 100 + x.count(2) * 10 + x.count(4), 211);
        Due.is("asks as they were", x.count(6), 1);
        Due.is("cost as it was", x.told(100), 77);
        Due.is("one taken", x.count(0), 1);
        Due.is("a new one", Due.tell(x, "baker zoe cost 9;baker ann cost 1;baker bob cost 1;"), 3);
        Due.is("its fault", x.fault(), -1);
        Due.is("two taken", x.count(0), 2);
        Due.is("asks gone", x.ask(0) + x.ask(1), 0);
        Due.is("promises gone", x.count(5), 0);
        Due.is("laws gone", x.count(2), 0);
        Due.is("force gone", x.count(3), -1);
        Due.is("images gone", x.count(4), 0);
        Due.is("no image", x.back(0), false);
        Due.is("steps as if none were told", x.told(2) * 100 + x.told(3) * 10 + x.told(4), 455);
        Due.is("cost as told", x.told(100), 9);
        Due.is("the empty text", Due.tell(x, ""), -1);
        Due.is("its fault", x.fault(), 0);
    }

    private static void fault(String text, int place) {
        LoafStreet x = new LoafStreet();
        Due.is("street of '" + text + "'", Due.tell(x, text), place == -1 ? x.told(0) : -1);
        Due.is("fault of '" + text + "'", x.fault(), place);
    }

    private static void faults() {
        fault("baker a cost 1;", -1);
        fault(" \n baker\na cost\n1\n;\n\n ", -1);
        fault("baker a cost1;door2;", -1);
        fault("baker abcdefgh cost 1;", -1);
        fault("baker abcdefghi cost 1;", 6);
        fault("bakera cost 1;", 0);
        fault("  bake a cost 1;", 2);
        fault("baker a1 cost 1;", 7);
        fault("baker A cost 1;", 6);
        fault("baker a\tcost 1;", 7);
        fault("baker a cost 1", 14);
        fault("baker a cost 1   ", 17);
        fault("baker a cost 1;;", 15);
        fault("baker a cost 1,", 14);
        fault("baker a cost 1;#", 15);
        fault("baker a cost 1;\u00e9", 15);
        fault("baker a cost one;", 13);
        fault("baker a by 1;", 8);
        for (String word : new String[] {"baker", "cost", "steps", "from", "by", "list", "door", "women", "ask", "and",
            "worth", "each", "of", "readers"}) {
            fault("baker " + word + " cost 1;", 6);
        }
        fault("baker a cost 1;baker a cost 2;", 21);
        fault("list a;baker a cost 1;", 5);
        fault("baker a cost 1;list b;", 20);
        fault("baker a cost 1;list a a;", 22);
        fault("baker a cost 1;women 1 ask b;", 27);
        fault("baker a cost 1;women 1 ask a and a;", 33);
        fault("baker a cost 1;women 1 ask a and;", 32);
        fault("baker a cost 1;women 1 ask a worth 5 and a;", 37);
        fault("baker a cost 1;women 1 and a;", 23);
        fault("baker a cost 1;each 1 of 1 worth 2;", -1);
        fault("baker a cost 1;each 1 worth 2;", 22);
        fault("baker a cost 1;readers 1 worth;", 30);
        fault("baker a cost 1;readers 1 worth 1 worth 1;", 33);
        fault("baker a cost 1;steps 1 by 1 from 1;", 23);
        fault("steps 1 from 1 by 1;", 20);
        fault("each 1 of 2; ", 13);
    }

    /** Where a statement is broken off, another one that begins there doesn't help. */
    private static void faultsOfStatements() {
        String door = "door 1;";
        String[] broken = {"baker ", "baker b ", "baker b cost ", "baker b cost 1 ", "steps ", "steps 1 ", "steps 1 from ",
            "steps 1 from 1 ", "steps 1 from 1 by ", "steps 1 from 1 by 1 ", "list ", "list a ", "door ", "door 1 ", "women ",
            "women 1 ", "women 1 ask ", "women 1 ask a ", "women 1 ask a and ", "women 1 ask a worth ",
            "women 1 ask a worth 1 ", "each ", "each 1 ", "each 1 of ", "each 1 of 1 ", "each 1 of 1 worth ", "readers ",
            "readers 1 ", "readers 1 worth ", "readers 1 worth 1 "};
        for (String part : broken) {
            String text = "baker a cost 1;" + part;
            fault(text + door, text.length());
            fault(text, text.length());
        }
    }

    private static void faultsOfNames() {
        fault("baker ab cost 1;baker ba cost 1;baker b cost 1;list ba;", -1);
        fault("baker ab cost 1;list ba;", 21);
        fault("baker ab cost 1;list abc;", 21);
        fault("baker abc cost 1;list ab;", 22);
        fault("baker abcdefgh cost 1;list abcdefgh;", -1);
        fault("baker abcdefgh cost 1;list zabcdefgh;", 27);
        fault("baker cab cost 1;baker baker cost 1;", 23);
        fault("baker o cost 1;baker off cost 1;baker f cost 1;baker orf cost 1;", -1);
        LoafStreet x = Due.told("baker ab cost 1;baker ba cost 1;list ba;women 1 ask ba;women 2 ask ba and ab;");
        Due.is("listed", x.told(6), 2);
        Due.is("named", x.told(202) * 10 + x.told(206), 23);
    }

    private static void faultsOfNumbers() {
        fault("baker a cost 0099;", -1);
        fault("baker a cost 100;", 13);
        fault("baker a cost 00001;", 13);
        fault("baker a cost 4294967296;", 13);
        fault("baker a cost 1;door 99;door 0;", -1);
        fault("baker a cost 1;door 100;", 20);
        fault("baker a cost 1;steps 0 from 1 by 1;", 21);
        fault("baker a cost 1;steps 9 from 1 by 1;", 21);
        fault("baker a cost 1;steps 8 from 0 by 20;steps 1 from 99 by 1;", -1);
        fault("baker a cost 1;steps 8 from 100 by 20;", 28);
        fault("baker a cost 1;steps 8 from 0 by 0;", 33);
        fault("baker a cost 1;steps 8 from 0 by 21;", 33);
        fault("baker a cost 1;women 0 ask a;", 21);
        fault("baker a cost 1;women 99 ask a;", -1);
        fault("baker a cost 1;women 100 ask a;", 21);
        fault("baker a cost 1;each 0 of 1;", 20);
        fault("baker a cost 1;each 100 of 1;", 20);
        fault("baker a cost 1;each 99 of 4;", -1);
        fault("baker a cost 1;each 99 of 0;", 26);
        fault("baker a cost 1;each 99 of 5;", 26);
        fault("baker a cost 1;readers 0;", 23);
        fault("baker a cost 1;readers 100;", 23);
        fault("baker a cost 1;readers 99 worth 0;readers 1 worth 999;", -1);
        fault("baker a cost 1;readers 99 worth 1000;", 32);
    }

    private static void faultsOfLimits() {
        String four = "baker a cost 1;baker b cost 1;baker c cost 1;baker d cost 1;";
        fault(four, -1);
        fault(four + "baker e cost 1;", 66);
        fault(four + "baker", 65);
        fault(four + "women 1 ask d and c and b and a;", -1);
        fault(four + "women 1 ask d and c and b and a and d;", 96);
        String twelve = four + "readers 1;".repeat(12);
        fault(twelve, -1);
        fault(twelve + " readers 1;", 181);
        fault(twelve + "women 1 ask a;", 180);
        fault(twelve + "each x", 180);
        fault(twelve + "door 1;".repeat(8), -1);
        fault(twelve + "door 1;".repeat(8) + "\n ", -1);
        fault(twelve + "door 1;".repeat(8) + "  door 1;", 238);
        fault(twelve + "door 1;".repeat(8) + "?", 236);
        fault("door 1;".repeat(24), 168);
        fault("door 1;".repeat(23) + "baker a cost 1;", -1);
        fault("door 1;".repeat(24) + "baker a cost 1;", 168);
    }

    private static void told() {
        LoafStreet x = Due.told("door 3;steps 5 from 10 by 2;baker a cost 7;women 9 ask a;baker bo cost 8;list bo;"
            + "women 5 ask bo and a worth 50;each 6 of 2 worth 0;readers 7;steps 3 from 9 by 20;door 99;list bo;");
        int[] first = {2, 4, 3, 9, 20, 99, 2, 12};
        for (int i = 0; i < first.length; i++) {
            Due.is("told " + i, x.told(i), first[i]);
        }
        int[] sorts = {0, 9, 1, 999, 0, 5, 3, 50, 1, 6, 2, 0, 2, 7, 0, 999, -1, -1, -1, -1};
        for (int i = 0; i < sorts.length; i++) {
            Due.is("told " + (200 + i), x.told(200 + i), sorts[i]);
        }
        Due.is("told 100", x.told(100), 7);
        Due.is("told 101", x.told(101), 8);
        for (int what : new int[] {-1, 8, 99, 102, 104, 199, 248, BIG, SMALL}) {
            Due.is("told " + what, x.told(what), -1);
        }
    }

    private static void cost() {
        LoafStreet x = two();
        Due.is("cost", x.cost(0, 0), true);
        Due.is("earns by it", x.earns(0), 168 * 4 * 10000);
        Due.is("told by it", x.told(100), 0);
        Due.is("cost 99", x.cost(0, 99), true);
        Due.is("a loss", x.earns(0), -168 * 95 * 10000);
        Due.is("cost 100", x.cost(0, 100), false);
        Due.is("cost -1", x.cost(0, -1), false);
        Due.is("cost of 2", x.cost(2, 1), false);
        Due.is("cost of -1", x.cost(-1, 1), false);
        Due.is("cost stays", x.told(100), 99);
        Due.is("the other's stays", x.told(101), 3);
    }

    private static void promise() {
        LoafStreet x = two();
        Due.is("promise", x.promise(1, true), true);
        Due.is("bits", x.count(5), 2);
        Due.is("both sell to the second sort", x.sold(1), 24 * 10000);
        Due.is("for the least price", x.earns(1), 24 * 10000);
        Due.is("the first sort has one door", x.sold(0), 144 * 10000);
        Due.is("promise again", x.promise(1, true), true);
        Due.is("bits again", x.count(5), 2);
        x.promise(0, true);
        Due.is("both", x.count(5), 3);
        Due.is("no more", x.promise(1, false), true);
        Due.is("bits then", x.count(5), 1);
        Due.is("sold then", x.sold(1), 0);
        Due.is("promise of 2", x.promise(2, true), false);
        Due.is("promise of -1", x.promise(-1, true), false);
        Due.is("bits stay", x.count(5), 1);
    }

    private static void asks() {
        LoafStreet x = Due.told(TWO);
        Due.is("none at first", x.ask(0), 0);
        Due.is("sure", x.sure(0, 2), true);
        Due.is("ask sure", x.ask(0), 1);
        Due.is("sure, no such step", x.sure(0, 3), false);
        Due.is("sure -1", x.sure(0, -1), false);
        Due.is("sure of 2", x.sure(2, 0), false);
        Due.is("sure of -1", x.sure(-1, 0), false);
        Due.is("ask of 2", x.ask(2), -1);
        Due.is("ask of -1", x.ask(-1), -1);
        Due.is("not whole", x.part(0, 2), -1);
        x.sure(1, 0);
        Due.is("part", x.part(0, 2), 100);
        Due.is("part of another step", x.part(0, 0), 0);
        Due.is("part, a step that isn't told", x.part(0, 3), 0);
        Due.is("part, step 7", x.part(0, 7), 0);
        Due.is("part, step 8", x.part(0, 8), -1);
        Due.is("part, step -1", x.part(0, -1), -1);
        Due.is("part of 2", x.part(2, 0), -1);
        Due.is("part of -1", x.part(-1, 0), -1);
        x.sure(0, 1);
        Due.is("sure anew", x.part(0, 1) - x.part(0, 2), 100);
    }

    private static void lots() {
        LoafStreet x = two();
        Due.is("lot", x.lot(0, 0, 60), true);
        Due.is("ask lots", x.ask(0), 2);
        Due.is("60 aren't whole", x.count(6), 0);
        Due.is("lot of the rest", x.lot(0, 2, 40), true);
        Due.is("whole", x.count(6), 1);
        Due.is("part", x.part(0, 2), 40);
        Due.is("part of lots, a step that isn't told", x.part(0, 3), 0);
        Due.is("part of lots, step 7", x.part(0, 7), 0);
        Due.is("part of lots, step 8", x.part(0, 8), -1);
        Due.is("rows", x.count(7), 2);
        Due.is("too many parts together", x.lot(0, 1, 1), true);
        Due.is("101 aren't whole", x.count(6), 0);
        Due.is("none of them again", x.lot(0, 1, 0), true);
        Due.is("a step that there isn't", x.lot(0, 7, 0), true);
        Due.is("without parts is fine", x.count(6), 1);
        x.lot(0, 7, 40);
        x.lot(0, 2, 0);
        Due.is("with parts it isn't", x.count(6), 0);
        x.lot(0, 7, 1);
        x.lot(0, 2, 39);
        Due.is("with one part it isn't either", x.count(6), 0);
        Due.is("step 8", x.lot(0, 8, 1), false);
        Due.is("step -1", x.lot(0, -1, 1), false);
        Due.is("parts 101", x.lot(0, 0, 101), false);
        Due.is("parts -1", x.lot(0, 0, -1), false);
        Due.is("lot of 2", x.lot(2, 0, 1), false);
        Due.is("lot of -1", x.lot(-1, 0, 1), false);
        x.sure(0, 1);
        x.lot(0, 0, 100);
        Due.is("what was sure is gone", x.part(0, 0), 100);
        x.sure(0, 1);
        x.lot(0, 2, 100);
        Due.is("elder lots are gone", x.part(0, 2), 100);
        Due.is("a wrong lot changes no ask", x.sure(0, 1) && !x.lot(0, 8, 1), true);
        Due.is("it's sure", x.ask(0), 1);
    }

    private static void answer() {
        LoafStreet x = two();
        Due.is("answer", x.answer(0), true);
        Due.is("ask answer", x.ask(0), 3);
        Due.is("best against 7 is 10", x.part(0, 2), 100);
        Due.is("part of an answer, a step that isn't told", x.part(0, 3), 0);
        Due.is("part of an answer, step 7", x.part(0, 7), 0);
        Due.is("part of an answer, step 8", x.part(0, 8), -1);
        Due.is("earns by it", x.earns(0), 960 * 10000);
        x.sure(1, 2);
        Due.is("against 10 still 10", x.part(0, 2), 100);
        Due.is("answer of 2", x.answer(2), false);
        Due.is("answer of -1", x.answer(-1), false);
        x.answer(1);
        Due.is("two answers aren't whole", x.count(6), 0);
        x.sure(1, 0);
        x.law(1, 3);
        x.force(0);
        Due.is("all barred", x.count(6), 0);
        LoafStreet y = Due.told("baker a cost 1;readers 1;");
        y.answer(0);
        Due.is("alone it's whole", y.part(0, 0), 100);
        y.law(1, 4);
        y.force(0);
        Due.is("alone with all barred it isn't", y.count(6), 0);
        Due.is("nor is there a best", y.best(0), -1);
    }

    private static void sold() {
        LoafStreet x = two();
        Due.is("sold", x.sold(0), 168 * 10000);
        Due.is("sold nothing", x.sold(1), 0);
        Due.is("sold of 2", x.sold(2), -1);
        Due.is("sold of -1", x.sold(-1), -1);
        x.sure(0, 2);
        Due.is("ann at 10, bob at 7", x.sold(1), 48 * 10000);
        x.sure(1, 2);
        Due.is("beyond their worth", x.sold(1), 0);
        x.lot(1, 0, 50);
        Due.is("not whole", x.sold(0), -1);
        x.lot(1, 1, 50);
        x.lot(0, 1, 25);
        x.lot(0, 2, 75);
        // bob 4: all 48; bob 7: against 7 half of it, against 10 all
        Due.is("by lots", x.sold(1), 48 * 5000 + 24 * 1250 + 48 * 3750);
        LoafStreet y = Due.told("baker a cost 0;baker b cost 0;baker c cost 0;baker d cost 0;each 1 of 2;each 1 of 3;"
            + "each 1 of 4;readers 5;list c;list d;");
        for (int b = 0; b < 4; b++) {
            y.sure(b, b < 3 ? 1 : 2);
        }
        // of two: ab ac bc ad bd cd; of three: abc abd acd bcd; of four: three sell; readers at c
        Due.is("sold by a", y.sold(0), (6 + 6 + 12 + 4 + 6 + 6 + 4) * 100000000L);
        Due.is("sold by c", y.sold(2), (6 + 6 + 12 + 4 + 6 + 6 + 4 + 60) * 100000000L);
        Due.is("sold by d", y.sold(3), 0);
        y.promise(3, true);
        Due.is("sold by d who matches", y.sold(3), (6 + 6 + 6 + 4 + 4 + 4 + 3 + 30) * 100000000L);
    }

    private static void earns() {
        LoafStreet x = two();
        Due.is("earns", x.earns(0), 336 * 10000);
        Due.is("earns nothing", x.earns(1), 0);
        Due.is("earns of 2", x.earns(2), BAD);
        Due.is("earns of -1", x.earns(-1), BAD);
        x.lot(1, 0, 50);
        Due.is("not whole", x.earns(0), BAD);
        x.lot(1, 1, 50);
        Due.is("by lots", x.earns(1), 24 * 5000);
        Due.is("of the other", x.earns(0), (120 * 2 + 24 * 2) * 5000 + 168 * 2 * 5000);
    }

    private static void at() {
        LoafStreet x = two();
        Due.is("at(0, 0)", x.at(0, 0), 336 * 10000);
        Due.is("at(0, 1)", x.at(0, 1), (120 + 24) * 5 * 10000);
        Due.is("at(0, 2)", x.at(0, 2), 960 * 10000);
        Due.is("at(1, 0)", x.at(1, 0), 24 * 10000);
        Due.is("at(1, 2)", x.at(1, 2), 0);
        Due.is("no such step", x.at(0, 3), BAD);
        Due.is("step -1", x.at(0, -1), BAD);
        Due.is("at of 2", x.at(2, 0), BAD);
        Due.is("at of -1", x.at(-1, 0), BAD);
        x.law(0, 1);
        x.force(0);
        Due.is("a barred step", x.at(0, 2), 960 * 10000);
        x.lot(1, 1, 99);
        Due.is("the other's isn't whole", x.at(0, 0), BAD);
        Due.is("nor is its own", x.at(1, 0), BAD);
    }

    private static void best() {
        LoafStreet x = two();
        Due.is("best(0)", x.best(0), 2);
        Due.is("best(1)", x.best(1), 0);
        x.cost(1, 4);
        Due.is("of several the least", x.best(1), 0);
        Due.is("best of 2", x.best(2), -1);
        Due.is("best of -1", x.best(-1), -1);
        x.law(0, 1);
        x.force(0);
        Due.is("not barred above", x.best(0), 1);
        x.law(1, 1);
        x.force(1);
        Due.is("ann's ask is barred", x.best(0), -1);
        x.sure(0, 1);
        Due.is("not barred below", x.best(1), 1);
    }

    private static void judge() {
        LoafStreet x = two();
        Due.is("ann, and 10", x.judge(), 2);
        x.sure(0, 2);
        // bob at 7 has all of the second sort: 48 parts at 4 more than cost
        Due.is("nobody", x.judge(), -1);
        x.sure(1, 0);
        Due.is("bob, and 7", x.judge(), 11);
        x.lot(1, 0, 1);
        Due.is("not whole", x.judge(), -2);
        x.answer(1);
        Due.is("an answer is the best", x.judge(), -1);
    }

    private static void rests() {
        LoafStreet x = Due.told(TWO);
        // ann's sort pays 10 whatever bob asks; bob takes the others for 7
        Due.is("how many", x.rests(-1), 1);
        Due.is("the first", x.rests(0), 2 + 8 * 1);
        Due.is("the second", x.rests(1), -1);
        Due.is("rests(-2)", x.rests(-2), -1);
        Due.is("rests(MAX)", x.rests(BIG), -1);
        x.law(0, 1);
        x.force(0);
        // at 7 ann keeps half of the second sort: bob at 7 earns 24 * 4, at 4 only 48
        Due.is("without barred ones", x.rests(-1), 1);
        Due.is("both at 7", x.rests(0), 1 + 8 * 1);
        x.law(1, 7);
        x.force(1);
        Due.is("all barred", x.rests(-1), 0);
        Due.is("none then", x.rests(0), -1);
        LoafStreet y = Due.told("baker a cost 5;baker b cost 5;steps 2 from 0 by 1;readers 1;");
        Due.is("nobody buys: all rest", y.rests(-1), 4);
        Due.is("by codes", y.rests(1) * 100 + y.rests(2) * 10 + y.rests(3), 100 + 80 + 9);
        y = Due.told("baker a cost 0;baker b cost 0;steps 3 from 1 by 1;each 1 of 2;");
        Due.is("cost below the least price", y.rests(-1), 2);
        Due.is("both at 1, both at 2", y.rests(0) * 100 + y.rests(1), 9);
        y.promise(0, true);
        y.promise(1, true);
        Due.is("who matches undercuts in vain", y.rests(2), 18);
        y.cost(0, 1);
        Due.is("by other costs anew", y.rests(-1) > 0, true);
    }

    private static void pays() {
        LoafStreet x = two();
        Due.is("paid", x.pays(0, 0), 480 * 10000);
        Due.is("bought", x.pays(0, 1), 120 * 10000);
        Due.is("home", x.pays(0, 2), 0);
        Due.is("what 3", x.pays(0, 3), -1);
        Due.is("what -1", x.pays(0, -1), -1);
        Due.is("sort 2", x.pays(2, 0), -1);
        Due.is("sort -1", x.pays(-1, 0), -1);
        x.sure(0, 2);
        x.sure(1, 2);
        Due.is("too dear", x.pays(1, 0) + x.pays(1, 1), 0);
        Due.is("gone home", x.pays(1, 2), 48 * 10000);
        Due.is("no mean", x.mean(1), -1);
        x.lot(0, 0, 30);
        Due.is("not whole", x.pays(0, 0), -1);
        Due.is("no mean then", x.mean(0), -1);
        x.lot(0, 1, 30);
        x.lot(0, 2, 40);
        Due.is("paid by lots", x.pays(1, 0), 48 * (4 * 3000 + 7 * 3000));
        Due.is("bought by lots", x.pays(1, 1), 48 * 6000);
        Due.is("home by lots", x.pays(1, 2), 48 * 4000);
        Due.is("mean", x.mean(1), 5500);
        Due.is("mean of the first sort", x.mean(0), 7300);
        x.lot(0, 1, 29);
        x.lot(0, 2, 41);
        Due.is("mean, cut", x.mean(1), 5474);
        Due.is("mean of sort 2", x.mean(2), -1);
        Due.is("mean of sort -1", x.mean(-1), -1);
        LoafStreet y = Due.told("baker a cost 0;readers 3;each 2 of 2;");
        y.sure(0, 0);
        Due.is("readers of an empty list go home", y.pays(0, 2), 3 * 12 * 100);
        Due.is("no sets, no women", y.pays(1, 2), 0);
        y = Due.told("baker a cost 0;steps 1 from 5 by 1;women 1 ask a worth 5;women 1 ask a worth 4;");
        y.sure(0, 0);
        Due.is("at most her worth", y.pays(0, 1), 1200);
        Due.is("above it", y.pays(1, 1), 0);
    }

    private static void gap() {
        LoafStreet x = two();
        Due.is("gap", x.gap(), 30000);
        x.sure(1, 0);
        Due.is("no gap", x.gap(), 0);
        x.lot(0, 0, 50);
        Due.is("not whole", x.gap(), -1);
        x.lot(0, 2, 50);
        x.lot(1, 1, 100);
        Due.is("3 either way", x.gap(), 30000);
        x.lot(1, 1, 0);
        x.lot(1, 0, 100);
        Due.is("6 or none", x.gap(), 30000);
        LoafStreet y = Due.told("baker a cost 0;");
        y.sure(0, 3);
        Due.is("one baker", y.gap(), 0);
    }

    private static final String DOORS = "baker a cost 0;baker b cost 0;baker c cost 0;steps 3 from 4 by 3;door 3;"
        + "women 5 ask a;women 7 ask a and b worth 6;each 1 of 2;readers 2;";

    private static void saves() {
        LoafStreet x = Due.told(DOORS);
        Due.is("not whole", x.saves(0, 1), -1);
        Due.is("nor would they", x.would(0), -1);
        x.sure(0, 2);
        x.sure(1, 1);
        x.sure(2, 0);
        Due.is("from 10 to 7", x.saves(0, 1), 3000000);
        Due.is("from 10 to 4", x.saves(0, 2), 6000000);
        Due.is("worth 6: from nothing to 2", x.saves(1, 2), 2000000);
        Due.is("in its set", x.saves(0, 0), -1);
        Due.is("door 3", x.saves(0, 3), -1);
        Due.is("door -1", x.saves(0, -1), -1);
        Due.is("of each", x.saves(2, 0), -1);
        Due.is("of readers", x.saves(3, 0), -1);
        Due.is("sort 4", x.saves(4, 0), -1);
        Due.is("sort -1", x.saves(-1, 0), -1);
        Due.is("would", x.would(0), 2);
        Due.is("not above door", x.would(1), -1);
        Due.is("would of each", x.would(2), -1);
        Due.is("would of 4", x.would(4), -1);
        Due.is("would of -1", x.would(-1), -1);
        x.sure(2, 1);
        Due.is("3 isn't above 3", x.would(0), -1);
        x.lot(1, 0, 1);
        x.lot(1, 1, 99);
        x.lot(2, 0, 1);
        x.lot(2, 1, 99);
        Due.is("a little above", x.saves(0, 1), 3030000);
        Due.is("of several the least", x.would(0), 1);
        x.law(2, 0);
        x.force(0);
        Due.is("shouted: saves", x.saves(0, 1), -1);
        Due.is("shouted: would", x.would(0), -1);
        LoafStreet y = Due.told("baker a cost 0;baker b cost 0;steps 2 from 1 by 1;women 1 ask a;");
        y.sure(0, 0);
        y.sure(1, 1);
        Due.is("a dearer door saves nothing", y.saves(0, 1), 0);
        Due.is("nothing isn't above nothing", y.would(0), -1);
    }

    private static void look() {
        LoafStreet x = Due.told(DOORS);
        Due.is("not whole", x.look(1, 0), -1);
        x.sure(0, 2);
        x.sure(1, 1);
        x.sure(2, 0);
        Due.is("one round", x.look(1, 0), 1);
        Due.is("it ends with the second", x.look(9, 0), 2);
        Due.is("a and c", x.look(1, 10), 5);
        Due.is("the second sort stays", x.look(9, 11), 3);
        Due.is("of each", x.look(9, 12), -1);
        Due.is("of readers", x.look(9, 13), -1);
        Due.is("sort 4", x.look(9, 14), -1);
        Due.is("what 1", x.look(9, 1), -1);
        Due.is("what 9", x.look(9, 9), -1);
        Due.is("what -1", x.look(9, -1), -1);
        Due.is("rounds 0", x.look(0, 0), -1);
        Due.is("rounds 10", x.look(10, 0), -1);
        Due.is("all is as before", x.saves(0, 2), 6000000);
        Due.is("told as before", x.told(202), 1);
        x.lot(1, 0, 50);
        x.lot(1, 1, 50);
        x.lot(2, 0, 50);
        x.lot(2, 1, 50);
        // the first door saves 4.5, the second from 5.5 to 4.75 only
        Due.is("one door, with lots", x.look(9, 10), 3);
        x.law(2, 0);
        x.force(0);
        Due.is("shouted", x.look(1, 0), -1);
        LoafStreet y = Due.told("baker a cost 0;readers 1;");
        y.sure(0, 0);
        Due.is("without women", y.look(9, 0), 1);
        y = Due.told("baker a cost 0;baker b cost 0;baker c cost 0;steps 2 from 1 by 9;women 1 ask a;");
        for (int b = 0; b < 3; b++) {
            y.lot(b, 0, 50);
            y.lot(b, 1, 50);
        }
        Due.is("a door each round", y.look(1, 10), 3);
        Due.is("then the next", y.look(2, 10), 7);
        Due.is("and a round for nobody", y.look(9, 0), 3);
        Due.is("spent before that", y.look(2, 0), 2);
    }

    private static void lookWithAnswer() {
        // b asks 5 as long as only its own women come, and 4 once all others do
        LoafStreet x = Due.told("baker a cost 0;baker b cost 0;steps 2 from 4 by 1;women 9 ask b;women 50 ask a;"
            + "women 50 ask a and b worth 4;women 1 ask a worth 5;");
        x.sure(0, 1);
        x.answer(1);
        Due.is("b answers 4", x.part(1, 0), 100);
        Due.is("a's women come", x.look(9, 11), 3);
        LoafStreet y = Due.told("baker a cost 0;baker b cost 0;steps 3 from 4 by 4;door 2;women 9 ask a;"
            + "women 10 ask b;women 3 ask b;");
        y.sure(0, 1);
        y.answer(1);
        // b answers 12; with its first women at a's door too, 12 to three beats 8 to half of ten and three no more
        Due.is("b answers 12", y.part(1, 2), 100);
        Due.is("first sort stays", y.look(1, 10), 1);
        Due.is("second takes a's door", y.look(1, 11), 3);
        Due.is("third has b's answer anew: 4", y.look(1, 12), 2);
    }

    private static void lotsOfTwo() {
        LoafStreet x = Due.told("baker a cost 0;baker b cost 2;baker c cost 0;steps 4 from 4 by 4;women 18 ask a;"
            + "women 11 ask b worth 18;women 9 ask c worth 11;women 30 ask a and b;");
        Due.is("not whole", x.lots(0, 1, 2, 3, 0), -1);
        for (int b = 0; b < 3; b++) {
            x.sure(b, 0);
        }
        x.promise(0, true);
        // prices 12, 16; b earns ll 26*10, lh 11*14, hl 26*10, hh 26*14; a earns ll 33*12, lh 48*12, hl 18*16+15*12, hh 33*16
        Due.is("a's P", x.lots(0, 1, 2, 3, 0), 52);
        Due.is("a's Q", x.lots(0, 1, 2, 3, 1), 105);
        Due.is("b's P", x.lots(0, 1, 2, 3, 2), 2);
        Due.is("b's Q", x.lots(0, 1, 2, 3, 3), 5);
        Due.is("the other way round", x.lots(1, 0, 2, 3, 0), 2);
        Due.is("and its Q", x.lots(1, 0, 2, 3, 3), 105);
        int[][] wrong = {{0, 0, 2, 3, 0}, {0, 1, 3, 2, 0}, {0, 1, 2, 2, 0}, {0, 1, 2, 4, 0}, {0, 1, -1, 3, 0},
            {0, 3, 2, 3, 0}, {-1, 1, 2, 3, 0}, {3, 1, 2, 3, 0}, {0, -1, 2, 3, 0}, {0, 1, 2, 3, -1}, {0, 1, 2, 3, 4},
            {0, 2, 2, 3, 0}};
        for (int[] w : wrong) {
            Due.is("lots, wrong: " + w[0] + w[1] + w[2] + w[3] + w[4], x.lots(w[0], w[1], w[2], w[3], w[4]), -1);
        }
        Due.is("all is as before", x.part(0, 0) + x.part(1, 0), 200);
        x.law(0, 2);
        x.force(0);
        Due.is("high is barred", x.lots(0, 1, 2, 3, 0), -1);
        x.force(-1);
        x.lot(0, 0, 99);
        Due.is("a's isn't whole", x.lots(0, 1, 2, 3, 0), -1);
    }

    private static void lotsWithRests() {
        // b has no buyers: all four couples are alike to it, and a's better one is a rest
        LoafStreet x = Due.told("baker a cost 0;baker b cost 0;women 1 ask a;");
        x.sure(0, 0);
        x.sure(1, 0);
        Due.is("a rest at high", x.lots(0, 1, 0, 3, 0) + x.lots(1, 0, 0, 3, 2), -2);
        x = Due.told("baker a cost 0;baker b cost 0;women 1 ask a worth 5;");
        x.sure(0, 0);
        x.sure(1, 0);
        Due.is("a rest at low", x.lots(0, 1, 0, 3, 0) + x.lots(1, 0, 0, 3, 2), -2);
        // alike, so each undercuts the other
        x = Due.told("baker a cost 0;baker b cost 0;each 9 of 2;");
        x.sure(0, 3);
        x.sure(1, 3);
        Due.is("low low", x.lots(0, 1, 2, 3, 1), -1);
        // women of their own: the one at low keeps the other from it
        x = Due.told("baker a cost 0;baker b cost 0;steps 2 from 4 by 1;women 9 ask a;women 9 ask b;women 4 ask a and b;");
        x.sure(0, 0);
        x.sure(1, 0);
        Due.is("high low and low high", x.lots(0, 1, 0, 1, 1), -1);
        // b matches: against its 6, a at 4 sells to one and half of four (12 parts times 12), at 6 to half of four (the same)
        x = Due.told("baker a cost 0;baker b cost 0;steps 2 from 4 by 2;women 1 ask a worth 5;women 1 ask b;"
            + "women 4 ask a and b;");
        x.promise(1, true);
        x.sure(0, 0);
        x.sure(1, 1);
        Due.is("both are alike to a", x.at(0, 0) == x.at(0, 1), true);
        Due.is("so low high is a rest", x.lots(0, 1, 0, 1, 1), -1);
        Due.is("and high low the other way round", x.lots(1, 0, 0, 1, 1), -1);
    }

    private static void chase() {
        LoafStreet x = two();
        Due.is("not spent", x.chase(60, 0), 0);
        Due.is("rounds", x.chase(60, 1), 2);
        Due.is("no ring", x.chase(60, 2), 0);
        Due.is("ann", x.chase(60, 10), 2);
        Due.is("bob", x.chase(60, 11), 1);
        Due.is("spent", x.chase(1, 0), 2);
        Due.is("all is as before", x.part(0, 0), 100);
        x.sure(0, 2);
        Due.is("nobody did", x.chase(1, 0) * 10 + x.chase(1, 1), 1);
        for (int what : new int[] {-1, 3, 9, 12, 14, BIG, SMALL}) {
            Due.is("what " + what, x.chase(5, what), -1);
        }
        Due.is("rounds 0", x.chase(0, 0), -1);
        Due.is("rounds 61", x.chase(61, 0), -1);
        x.lot(0, 2, 99);
        Due.is("not whole", x.chase(5, 0), -1);
        x.lot(0, 2, 100);
        Due.is("lots stay lots", x.chase(5, 10), -1);
        x.answer(0);
        Due.is("an answer", x.chase(5, 0), -1);
        LoafStreet y = Due.told("baker a cost 0;baker b cost 0;steps 3 from 4 by 2;women 5 ask a;women 5 ask b;"
            + "women 9 ask a and b;");
        y.sure(0, 2);
        y.sure(1, 2);
        // prices 4, 6, 8: 14 at 6 beat 19 halves at 8; b at 4 sells 14, at 8 only 5, at 6 the half of 19
        Due.is("no ring here", y.chase(9, 2), 0);
        ring();
    }

    private static void ring() {
        LoafStreet x = Due.told("baker a cost 0;baker b cost 0;steps 4 from 4 by 1;women 9 ask a;women 9 ask b;"
            + "women 8 ask a and b;");
        x.sure(0, 3);
        x.sure(1, 3);
        // against 7: 6 to 17 (102) beats 7 to 13 (91); against 6: 5 to 17 (85) beats 6 to 13 (78), 7 to 9 (63);
        // against 5: 4 to 17 (68) beats 5 to 13 (65), 7 to 9 (63); against 4: 7 to 9 (63) beats 4 to 13 (52)
        // so a, b after each round: 6 5, 4 7, 6 5
        Due.is("a ring", x.chase(60, 0), 1);
        Due.is("rounds gone", x.chase(60, 1), 3);
        Due.is("its length", x.chase(60, 2), 2);
        Due.is("a then", x.chase(60, 10), 2);
        Due.is("b then", x.chase(60, 11), 1);
        Due.is("spent before it", x.chase(2, 0), 2);
        Due.is("no length then", x.chase(2, 2), 0);
        x.sure(0, 2);
        x.sure(1, 1);
        Due.is("back at the beginning", x.chase(60, 1), 2);
        Due.is("its length", x.chase(60, 2), 2);
    }

    private static void laws() {
        LoafStreet x = two();
        Due.is("kind 3", x.law(3, 0), -1);
        Due.is("kind -1", x.law(-1, 0), -1);
        Due.is("step 8", x.law(0, 8), -1);
        Due.is("step -1", x.law(2, -1), -1);
        Due.is("none was told", x.count(2), 0);
        for (int i = 0; i < 6; i++) {
            Due.is("law " + i, x.law(i % 3, i < 3 ? 1 : 7), i);
        }
        Due.is("a seventh", x.law(0, 0), -1);
        Due.is("six", x.count(2), 6);
        Due.is("none in force", x.count(3), -1);
        Due.is("force(6)", x.force(6), false);
        Due.is("force(-2)", x.force(-2), false);
        Due.is("force(0)", x.force(0), true);
        Due.is("in force", x.count(3), 0);
        Due.is("4 and 7 are free", x.count(6), 1);
        x.sure(1, 2);
        Due.is("10 is barred", x.count(6), 0);
        Due.is("a wrong one changes nothing", x.force(6) || x.count(3) != 0, false);
        x.force(1);
        Due.is("4 is barred", x.count(6), 0);
        x.sure(0, 1);
        Due.is("7 and 10 are free", x.count(6), 1);
        x.force(4);
        Due.is("all are barred", x.count(6), 0);
        x.force(3);
        Due.is("none above 7", x.count(6), 1);
        Due.is("force none", x.force(-1), true);
        Due.is("none in force again", x.count(3), -1);
    }

    private static void shout() {
        LoafStreet x = Due.told("baker a cost 0;baker b cost 0;baker c cost 0;steps 2 from 2 by 4;women 5 ask a;"
            + "each 1 of 2;readers 2;each 4 of 4;");
        x.sure(0, 1);
        x.sure(1, 0);
        x.sure(2, 1);
        Due.is("readers go home", x.pays(2, 2), 24000000L);
        x.law(2, 5);
        x.force(0);
        Due.is("no longer", x.pays(2, 0), 48000000L);
        Due.is("women hear it", x.pays(0, 0), 5 * 12 * 2 * 1000000L);
        Due.is("each: three sets, all hear it", x.pays(1, 0), 3 * 12 * 2 * 1000000L);
        Due.is("no sets of four", x.pays(3, 0) + x.pays(3, 2), 0);
        Due.is("b sells all", x.sold(1), (5 + 3 + 2) * 12 * 1000000L);
        Due.is("as many women", x.count(8), 10);
        Due.is("told as before", x.told(202) * 10 + x.told(206), 12);
    }

    private static void bestLaw() {
        LoafStreet x = Due.told(TWO);
        Due.is("no law", x.bestLaw(0, 0), 9);
        Due.is("mean by the rest", x.bestLaw(0, 1), 10000);
        Due.is("of the others", x.bestLaw(1, 1), 7000);
        x.law(0, 7);
        Due.is("of several no law", x.bestLaw(0, 0), 9);
        x.law(0, 1);
        x.law(0, 1);
        Due.is("of several the first", x.bestLaw(0, 0), 1);
        Due.is("mean by it", x.bestLaw(0, 1), 7000);
        Due.is("the others need none", x.bestLaw(1, 0), 9);
        x.law(2, 0);
        Due.is("shouted, both undercut", x.bestLaw(0, 0), 3);
        Due.is("mean by it", x.bestLaw(0, 1), 4000);
        x.force(1);
        Due.is("whichever is in force", x.bestLaw(0, 0), 3);
        Due.is("which is so still", x.count(3) * 10 + x.rests(0), 19);
        Due.is("what 2", x.bestLaw(0, 2), -1);
        Due.is("what -1", x.bestLaw(0, -1), -1);
        Due.is("sort 2", x.bestLaw(2, 0), -1);
        Due.is("sort -1", x.bestLaw(-1, 0), -1);
        LoafStreet y = Due.told("baker a cost 0;readers 1;");
        Due.is("nothing bought", y.bestLaw(0, 0), -1);
        Due.is("no mean", y.bestLaw(0, 1), -1);
        y.law(2, 0);
        Due.is("bought by a law", y.bestLaw(0, 0), 0);
        y.law(1, 4);
        Due.is("a law without rest is none", y.bestLaw(0, 0), 0);
        for (int i = 0; i < 4; i++) {
            y.law(0, 3 - i);
        }
        Due.is("six laws", y.count(2), 6);
        Due.is("only the shout is heard", y.bestLaw(0, 0), 0);
        LoafStreet z = Due.told("baker a cost 0;women 1 ask a;");
        for (int i = 0; i < 6; i++) {
            z.law(0, 6 - i);
        }
        Due.is("the sixth", z.bestLaw(0, 0) * 100000 + z.bestLaw(0, 1), 510000);
    }

    private static void edge() {
        LoafStreet x = Due.told(TWO);
        // bob at cost 7: at 4 and 7 nothing is earned, so 10 is as good
        Due.is("bob's edge", x.edge(1), 7);
        Due.is("cost as before", x.told(101), 3);
        Due.is("rests as before", x.rests(-1), 1);
        // ann at cost 10 earns nothing at 10
        x.cost(0, 90);
        Due.is("none by at most 99", x.edge(0), -1);
        x.cost(0, 99);
        Due.is("no cost above", x.edge(0), -1);
        Due.is("edge of 2", x.edge(2), -1);
        Due.is("edge of -1", x.edge(-1), -1);
        LoafStreet y = Due.told("baker a cost 0;steps 2 from 1 by 20;women 9 ask a worth 1;women 1 ask a;");
        // at 1: 10 women, at 21: one; 10 (1 - c) against 21 - c
        Due.is("it asks 21 at once", y.rests(0), 1);
        Due.is("at 21 it earns nothing, at 1 less", y.edge(0), -1);
        y.cost(0, 1);
        Due.is("21 rests till the last", y.edge(0), -1);
        LoafStreet z = Due.told("baker a cost 0;steps 2 from 21 by 1;women 9 ask a worth 21;women 1 ask a worth 21;"
            + "women 70 ask a;");
        // 80 (21 - c) against 70 (22 - c): alike at c = 14, then 22
        Due.is("21 rests", z.rests(-1) * 10 + z.rests(0), 10);
        Due.is("both rest at 14", z.edge(0), 14);
        z.cost(0, 14);
        Due.is("two rests", z.rests(-1), 2);
        Due.is("one at 15", z.edge(0), 15);
        LoafStreet w = Due.told("baker a cost 0;steps 2 from 40 by 20;women 1 ask a worth 40;women 1 ask a;");
        // 2 (40 - c) against 60 - c: alike at c = 20, which is just within reach
        Due.is("20 above", w.edge(0), 20);
        w = Due.told("baker a cost 0;steps 2 from 41 by 20;women 1 ask a worth 41;women 1 ask a;");
        Due.is("21 above", w.edge(0), -1);
        w = Due.told("baker a cost 90;steps 3 from 99 by 20;women 1 ask a worth 119;women 1 ask a;");
        // 2 (119 - c) against 139 - c: alike at c = 99
        Due.is("99 is within reach", w.edge(0), 99);
        w = Due.told("baker a cost 90;steps 3 from 99 by 20;women 20 ask a worth 119;women 19 ask a;");
        // 39 (119 - c) against 19 (139 - c): alike at c = 100
        Due.is("100 isn't", w.edge(0), -1);
        w.law(0, 0);
        w.force(0);
        w.cost(0, 1);
        Due.is("by the law nothing changes", w.edge(0), -1);
    }

    private static void run() {
        LoafStreet x = two();
        Due.is("ann is the cheapest", x.run(7, 3, 10), 3);
        Due.is("bob isn't", x.run(7, 3, 11), 0);
        Due.is("her prices", x.run(7, 3, 20), 12);
        Due.is("his prices", x.run(7, 3, 21), 21);
        Due.is("the first sort", x.run(7, 3, 30), 3 * 480);
        Due.is("the second", x.run(7, 3, 31), 3 * 192);
        x.sure(0, 1);
        Due.is("at most their worth", x.run(7, 3, 31), 3 * 48 * 7);
        x.sure(0, 2);
        x.sure(1, 2);
        Due.is("they go home", x.run(7, 3, 31), 0);
        x.sure(0, 0);
        x.sure(1, 0);
        Due.is("one of the cheapest", x.run(7, 3, 10) * 10 + x.run(7, 3, 11), 33);
        for (int what : new int[] {-1, 0, 9, 12, 19, 22, 29, 32, BIG, SMALL}) {
            Due.is("what " + what, x.run(7, 3, what), -1);
        }
        Due.is("seed -1", x.run(-1, 3, 10), -1);
        Due.is("seed too large", x.run(1_000_000_000, 3, 10), -1);
        Due.is("the largest", x.run(999_999_999, 400, 10), 400);
        Due.is("mornings 0", x.run(0, 0, 10), -1);
        Due.is("mornings 401", x.run(0, 401, 10), -1);
        x.lot(0, 0, 99);
        Due.is("not whole", x.run(7, 3, 10), -1);
        x.lot(0, 2, 1);
        // seed 0: z = 1442695040888963407, z >>> 33 = 167951807, v = 7
        Due.is("99 are above 7", x.run(0, 1, 20), 4);
        x.lot(0, 0, 7);
        x.lot(0, 2, 93);
        Due.is("7 aren't above 7", x.run(0, 1, 20), 10);
        x.lot(0, 0, 8);
        x.lot(0, 2, 92);
        Due.is("8 are", x.run(0, 1, 20), 4);
    }

    private static void images() {
        LoafStreet x = two();
        Due.is("image", x.image(), 0);
        x.lot(0, 1, 70);
        x.lot(0, 2, 30);
        x.promise(0, true);
        x.cost(1, 50);
        x.law(0, 2);
        x.force(0);
        Due.is("another", x.image(), 1);
        Due.is("back", x.back(0), true);
        Due.is("asks", x.ask(0) * 1000 + x.part(0, 0), 1100);
        Due.is("promises", x.count(5), 0);
        Due.is("costs", x.told(101), 3);
        Due.is("law in force", x.count(3), -1);
        Due.is("the law is still told", x.count(2), 1);
        x.rests(-1);
        Due.is("forth", x.back(1), true);
        Due.is("asks", x.ask(0) * 1000 + x.part(0, 1), 2070);
        Due.is("promises", x.count(5), 1);
        Due.is("costs", x.told(101), 50);
        Due.is("law in force", x.count(3), 0);
        x.lot(0, 1, 0);
        x.back(1);
        Due.is("an image stays", x.part(0, 1), 70);
        Due.is("third", x.image(), 2);
        Due.is("fourth", x.image(), 3);
        Due.is("fifth", x.image(), -1);
        Due.is("four", x.count(4), 4);
        Due.is("back(4)", x.back(4), false);
        Due.is("back(-1)", x.back(-1), false);
    }

    private static void count() {
        LoafStreet x = Due.told("baker a cost 1;baker b cost 1;baker c cost 1;women 9 ask a;each 10 of 2;each 5 of 4;"
            + "readers 99;");
        Due.is("taken", x.count(0), 1);
        Due.is("women in all", x.count(8), 9 + 30 + 0 + 99);
        Due.is("not whole", x.count(6), 0);
        Due.is("no rows", x.count(7), 0);
        for (int b = 0; b < 3; b++) {
            x.lot(b, 0, 10);
            x.lot(b, b + 1, 90);
        }
        Due.is("whole", x.count(6), 1);
        Due.is("rows", x.count(7), 8);
        x.lot(0, 0, 1);
        x.lot(0, 1, 99);
        Due.is("rows with one part", x.count(7), 8);
        x.feed(1, 2, 3, 4, 5);
        Due.is("bytes", x.count(1), 20);
        for (int what : new int[] {-1, 9, 10, BIG, SMALL}) {
            Due.is("count " + what, x.count(what), -1);
        }
    }
}
