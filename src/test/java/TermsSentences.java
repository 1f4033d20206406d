import java.util.List;
import java.util.function.Supplier;
import java.util.function.ToLongFunction;

/** Terms ahead of 1: REFUSALS, FAULTS, and how numbers are told. */
final class TermsSentences {
    private static final long LOST = RopeLine.LOST;

    private record Call(String told, Supplier<RopeLine> state, ToLongFunction<RopeLine> call, long due, int fault) {
    }

    private TermsSentences() {
    }

    static void all() {
        whatItIs();
        calls512();
        notPromised();
        unknownFirst();
        outsideBeforeState();
        outsideBeforeFull();
        refusalsBeforeFaults();
        refusalsChangeNothing();
        faultNull();
        faultCast();
        faultIndex();
        faultSize();
        firstFaultThatIsComeTo();
        faultsChangeNothing();
        none();
        cut();
        Sentence.tellsNothing("Terms", "Sets are told as bits.");
        leastTerms();
    }

    private static void whatItIs() {
        Sentence.tellsNothing("What it is", "Whether to stand in line: a place told in a text: who comes how often, what it "
            + "is worth to them, what a minute costs, how often one is served; bars, the lengths below which each joins; how "
            + "likely each length is in the long run, how long the line is in the mean, how many go on, how long till one "
            + "less stands there, all as shares; the bars by which each minds himself, those that are best for all, tolls "
            + "that make the one the other, what a board that tells minutes a little wrong does; nothing seen; and a line "
            + "minute by minute, served first come, last come or by worth.");
        Sentence.tellsNothing("What it is", "what later calls answer is free.");
    }

    private static void notPromised() {
        Sentence.tellsNothing("Not promised", "How the state is held inside the object is free, as are the speed of each "
            + "call, the text of toString and the behaviour of equals and hashCode.");
        Sentence.tellsNothing("Not promised", "Use of one object from several threads at once is not promised to be safe.");
        Sentence.tellsNothing("Not promised", "and nothing about an object after its 512th call.");
    }

    private static void calls512() {
        Sentence.of("What it is", "An object is used for at most 512 calls after it has been made");
        RopeLine x = new RopeLine();
        x.sheet(0, 0, 5);
        for (int i = 0; i < 5; i++) x.put(0, i, "m6;c2".charAt(i));
        x.place(0, 0, 0, 5);
        for (int k = 0; k < 504; k++) x.minute(11, 11);
        Due.is("the 512th call, many(4)", x.many(4), 504);
        RopeLine dear = new RopeLine();
        String text = "m6;c2;s4v30;s3v12;s2v9";
        dear.sheet(0, 0, text.length());
        for (int i = 0; i < text.length(); i++) dear.put(0, i, text.charAt(i));
        int calls = 1 + text.length();
        int least = 0;
        for (; calls + 2 <= 512; calls += 2) {
            Due.is("the TEXT again, call " + (calls + 1), dear.place(0, 0, 0, text.length()), 3);
            if (least == 0) least = dear.mends(0);
            else Due.is("mends(0), call " + (calls + 2), dear.mends(0), least);
        }
    }

    // ---- REFUSALS

    private static void unknownFirst() {
        Sentence.terms("REFUSALS, in the order in which a call's line tells them: UNKNOWN (there is no such SORT, "
            + "COMER, SHEET, place)");
        RopeLine x = States.kinds();
        Due.is("ofSort(3, 4)", x.ofSort(3, 4), RopeLine.UNKNOWN);
        Due.is("bar(3, 6)", x.bar(3, 6), RopeLine.UNKNOWN);
        Due.is("best(3)", x.best(3), RopeLine.UNKNOWN);
        Due.is("ofComer(3, 6)", x.ofComer(3, 6), RopeLine.UNKNOWN);
        Due.is("leave(3)", x.leave(3), RopeLine.UNKNOWN);
        Due.is("tell(3)", x.tell(3), RopeLine.UNKNOWN);
        Due.is("call(3)", x.call(3), RopeLine.UNKNOWN);
        Due.is("as(3, 3)", x.as(3, 3), RopeLine.UNKNOWN);
        Due.is("place(4, 3, 0, 0)", x.place(4, 3, 0, 0), RopeLine.UNKNOWN);
        Due.is("sheet(4, 3, 61)", x.sheet(4, 3, 61), RopeLine.UNKNOWN);
        Due.is("lose(4)", x.lose(4), RopeLine.UNKNOWN);
        Due.is("put(4, 0, 0)", x.put(4, 0, 0), RopeLine.UNKNOWN);
        Due.is("line(5)", x.line(5), RopeLine.UNKNOWN);
    }

    private static void outsideBeforeState() {
        Sentence.terms("OUTSIDE (another number is not as told), STATE (as told)");
        RopeLine none = new RopeLine();
        Due.is("about(6)", none.about(6), RopeLine.OUTSIDE);
        Due.is("toll(1000)", none.toll(1000), RopeLine.OUTSIDE);
        Due.is("board(21, 0)", none.board(21, 0), RopeLine.OUTSIDE);
        Due.is("bars(3)", none.bars(3), RopeLine.OUTSIDE);
        Due.is("against(0, 216)", none.against(0, 216), RopeLine.OUTSIDE);
        Due.is("mends(3)", none.mends(3), RopeLine.OUTSIDE);
        Due.is("minute(12, 0)", none.minute(12, 0), RopeLine.OUTSIDE);
        Due.is("minute(0, 12)", none.minute(0, 12), RopeLine.OUTSIDE);
    }

    private static void outsideBeforeFull() {
        Sentence.terms("FULL");
        RopeLine x = States.forty();
        Due.is("minute(12, 0), and there were 40", x.minute(12, 0), RopeLine.OUTSIDE);
        Due.is("minute(11, 0), and there were 40", x.minute(11, 0), RopeLine.FULL);
    }

    private static void refusalsBeforeFaults() {
        Sentence.terms("REFUSALS, in the order in which a call's line tells them");
        RopeLine x = States.kinds();
        Due.is("place(4, 0, 0, -1)", x.place(4, 0, 0, -1), RopeLine.UNKNOWN);
        Due.is("place(3, 3, 0, 0)", x.place(3, 3, 0, 0), RopeLine.OUTSIDE);
        Due.is("sheet(4, 0, -1)", x.sheet(4, 0, -1), RopeLine.UNKNOWN);
        Due.is("sheet(0, 3, -1)", x.sheet(0, 3, -1), RopeLine.OUTSIDE);
        Due.is("put(4, -1, 0)", x.put(4, -1, 0), RopeLine.UNKNOWN);
        Due.is("as(3, 2)", x.as(3, 2), RopeLine.UNKNOWN);
        Due.is("as(2, 3)", x.as(2, 3), RopeLine.OUTSIDE);
        Due.is("cell(3, 0, 3)", x.cell(3, 0, 3), LOST);
        Due.is("its fault", x.fault(), 0);
    }

    private static void refusalsChangeNothing() {
        Sentence.terms("they change nothing (but fault(), of a call that names FAULTS).");
        refusalsOfNoPlace().forEach(TermsSentences::changesNothing);
        refusalsOfNumbers().forEach(TermsSentences::changesNothing);
        refusalsOfShares().forEach(TermsSentences::changesNothing);
        refusalsOfTheLine().forEach(TermsSentences::changesNothing);
        refusalsOfSheets().forEach(TermsSentences::changesNothing);
    }

    /** Ahead of each the latest fault is CAST, which is to stay but where the call names FAULTS. */
    private static void changesNothing(Call c) {
        RopeLine x = c.state().get();
        String was = Seen.of(x);
        x.sheet(3, 0, 1);
        x.cell(3, 0, 1);
        x.lose(3);
        Due.is(c.told(), c.call().applyAsLong(x), c.due());
        Due.is("fault() behind " + c.told(), x.fault(), c.fault());
        Due.same("what is seen behind " + c.told(), Seen.of(x), was);
    }

    private static Call ofNone(String told, ToLongFunction<RopeLine> call, long due) {
        return new Call(told, RopeLine::new, call, due, 2);
    }

    private static Call of(String told, ToLongFunction<RopeLine> call, long due) {
        return new Call(told, States::kinds, call, due, 2);
    }

    /** One of a call that names FAULTS. */
    private static Call named(String told, ToLongFunction<RopeLine> call, long due, int fault) {
        return new Call(told, States::kinds, call, due, fault);
    }

    private static List<Call> refusalsOfNoPlace() {
        return List.of(
            ofNone("about(0)", x -> x.about(0), -3), ofNone("ofSort(0, 0)", x -> x.ofSort(0, 0), -1),
            ofNone("bar(0, 1)", x -> x.bar(0, 1), -1), ofNone("toll(1)", x -> x.toll(1), -3),
            ofNone("board(1, 1)", x -> x.board(1, 1), -3), ofNone("bars(2)", x -> x.bars(2), -3),
            ofNone("often(0, 0)", x -> x.often(0, 0), LOST), ofNone("mean(0)", x -> x.mean(0), LOST),
            ofNone("on(0, 0)", x -> x.on(0, 0), LOST), ofNone("less(1, 0)", x -> x.less(1, 0), LOST),
            ofNone("after(0, 0, 0, 0)", x -> x.after(0, 0, 0, 0), LOST),
            ofNone("minutes(0, 0)", x -> x.minutes(0, 0), LOST), ofNone("gain(0)", x -> x.gain(0), LOST),
            ofNone("best(0)", x -> x.best(0), -1), ofNone("against(0, 0)", x -> x.against(0, 0), -3),
            ofNone("mends(2)", x -> x.mends(2), -3), ofNone("blind(0, 0, 0)", x -> x.blind(0, 0, 0), LOST),
            ofNone("rest()", x -> x.rest(), -3), ofNone("minute(0, 0)", x -> x.minute(0, 0), -3),
            ofNone("leave(0)", x -> x.leave(0), -1), ofNone("tell(0)", x -> x.tell(0), -1),
            ofNone("call(0)", x -> x.call(0), -1), ofNone("ofComer(0, 0)", x -> x.ofComer(0, 0), -1));
    }

    private static List<Call> refusalsOfNumbers() {
        return List.of(
            of("about(6)", x -> x.about(6), -2), of("ofSort(3, 0)", x -> x.ofSort(3, 0), -1),
            of("ofSort(0, 4)", x -> x.ofSort(0, 4), -2), of("bar(3, 1)", x -> x.bar(3, 1), -1),
            of("bar(0, 6)", x -> x.bar(0, 6), -2), of("toll(1000)", x -> x.toll(1000), -2),
            of("board(21, 0)", x -> x.board(21, 0), -2), of("board(1, 21)", x -> x.board(1, 21), -2),
            of("bars(3)", x -> x.bars(3), -2), of("best(3)", x -> x.best(3), -1),
            of("against(216, 0)", x -> x.against(216, 0), -2), of("against(0, -1)", x -> x.against(0, -1), -2),
            of("mends(3)", x -> x.mends(3), -2), of("rest()", x -> x.rest(), -3), of("order(3)", x -> x.order(3), -2),
            of("many(5)", x -> x.many(5), -2));
    }

    private static List<Call> refusalsOfShares() {
        return List.of(
            of("often(6, 0)", x -> x.often(6, 0), LOST), of("often(0, 2)", x -> x.often(0, 2), LOST),
            of("mean(2)", x -> x.mean(2), LOST), of("on(3, 0)", x -> x.on(3, 0), LOST),
            of("on(0, 2)", x -> x.on(0, 2), LOST), of("less(0, 0)", x -> x.less(0, 0), LOST),
            of("less(1, 2)", x -> x.less(1, 2), LOST), of("after(9, 0, 0, 0)", x -> x.after(9, 0, 0, 0), LOST),
            of("after(8, 6, 0, 0)", x -> x.after(8, 6, 0, 0), LOST),
            of("after(8, 5, 6, 0)", x -> x.after(8, 5, 6, 0), LOST),
            of("after(8, 5, 5, 2)", x -> x.after(8, 5, 5, 2), LOST),
            of("minutes(6, 0)", x -> x.minutes(6, 0), LOST), of("minutes(0, 3)", x -> x.minutes(0, 3), LOST),
            of("gain(2)", x -> x.gain(2), LOST), of("blind(1, 1, 1)", x -> x.blind(1, 1, 1), LOST));
    }

    private static List<Call> refusalsOfTheLine() {
        return List.of(
            of("minute(12, 8)", x -> x.minute(12, 8), -2), of("minute(0, 12)", x -> x.minute(0, 12), -2),
            new Call("minute(0, 0)", States::forty, x -> x.minute(0, 0), -4, 2),
            of("ofComer(3, 0)", x -> x.ofComer(3, 0), -1), of("ofComer(0, 6)", x -> x.ofComer(0, 6), -2),
            of("leave(3)", x -> x.leave(3), -1), of("leave(0)", x -> x.leave(0), -3),
            of("leave(2)", x -> x.leave(2), -3), of("line(5)", x -> x.line(5), -1),
            of("line(-2)", x -> x.line(-2), -1), of("tell(3)", x -> x.tell(3), -1), of("call(3)", x -> x.call(3), -1));
    }

    private static List<Call> refusalsOfSheets() {
        return List.of(
            of("lose(4)", x -> x.lose(4), -1),
            named("place(4, 0, 0, 5)", x -> x.place(4, 0, 0, 5), -1, 0),
            named("place(0, 3, 0, 5)", x -> x.place(0, 3, 0, 5), -2, 0),
            named("sheet(4, 0, 5)", x -> x.sheet(4, 0, 5), -1, 0),
            named("sheet(0, 3, 5)", x -> x.sheet(0, 3, 5), -2, 0),
            named("sheet(0, 0, 61)", x -> x.sheet(0, 0, 61), -2, 0),
            named("put(4, 0, 5)", x -> x.put(4, 0, 5), -1, 0),
            named("cell(4, 0, 0)", x -> x.cell(4, 0, 0), LOST, 0),
            named("cell(0, 0, 3)", x -> x.cell(0, 0, 3), LOST, 0),
            named("as(3, 0)", x -> x.as(3, 0), -1, 0),
            named("as(2, 3)", x -> x.as(2, 3), -2, 0));
    }

    // ---- FAULTS

    private static void faultNull() {
        Sentence.terms("FAULTS are the machine's: 1 NULL (there is nothing)");
        RopeLine x = States.kinds();
        Due.is("put(3, 0, 0)", x.put(3, 0, 0), -11);
        Due.is("fault()", x.fault(), 1);
        Due.is("place(3, 0, 0, 0)", x.place(3, 0, 0, 0), -11);
        Due.is("put(2, 0, 0): no cells are not nothing", x.put(2, 0, 0), -13);
        Due.is("cell(3, 0, 0)", x.cell(3, 0, 0), LOST);
        Due.is("fault()", x.fault(), 1);
    }

    private static void faultCast() {
        Sentence.terms("2 CAST (it is of another LANE, kind)");
        RopeLine x = new RopeLine();
        for (int k = 0; k < 3; k++) x.sheet(k, k, 1);
        for (int k = 0; k < 3; k++) {
            for (int lane = 0; lane < 3; lane++) {
                Due.is("cell of " + k + " as of " + lane, x.cell(k, 0, lane), k == lane ? 0 : LOST);
                Due.is("its fault", x.fault(), k == lane ? 0 : 2);
                Due.is("place of " + k + " as of " + lane, x.place(k, lane, 0, 1), k == lane ? -100 : -12);
                Due.is("its fault", x.fault(), k == lane ? 0 : 2);
            }
        }
        RopeLine y = States.kinds();
        Due.is("as(2, 1): it went on", y.as(2, 1), -12);
        Due.is("fault()", y.fault(), 2);
    }

    private static void faultIndex() {
        Sentence.terms("3 INDEX (of cells from i on also where i is not 0 .. how many there are, if none of them is "
            + "taken, too)");
        RopeLine x = States.kinds();
        Due.is("none from -1 on", x.place(1, 1, -1, 0), -13);
        Due.is("fault()", x.fault(), 3);
        Due.is("none from 0 on", x.place(1, 1, 0, 0), -100);
        Due.is("none from 5 on, there are 5", x.place(1, 1, 5, 0), -100);
        Due.is("fault()", x.fault(), 0);
        Due.is("none from 6 on", x.place(1, 1, 6, 0), -13);
        Due.is("none from the greatest on", x.place(1, 1, Integer.MAX_VALUE, 0), -13);
        Due.is("none from the least on", x.place(1, 1, Integer.MIN_VALUE, 0), -13);
        Due.is("none from 0 on, there are none", x.place(2, 2, 0, 0), -100);
        Due.is("none from 1 on, there are none", x.place(2, 2, 1, 0), -13);
    }

    private static void faultSize() {
        Sentence.terms("4 SIZE (a length below 0)");
        RopeLine x = States.kinds();
        Due.is("sheet(0, 0, -1)", x.sheet(0, 0, -1), -14);
        Due.is("fault()", x.fault(), 4);
        Due.is("sheet(0, 0, least)", x.sheet(0, 0, Integer.MIN_VALUE), -14);
        Due.is("place(1, 1, 0, -1)", x.place(1, 1, 0, -1), -14);
        Due.is("fault()", x.fault(), 4);
        Due.is("place(1, 1, 0, least)", x.place(1, 1, 0, Integer.MIN_VALUE), -14);
        Due.is("place(1, 1, 0, 0)", x.place(1, 1, 0, 0), -100);
        Due.is("sheet(0, 0, 0)", x.sheet(0, 0, 0), 1);
        Due.is("fault()", x.fault(), 0);
    }

    private static void firstFaultThatIsComeTo() {
        Sentence.terms("Of a call the first that is come to, in the order told");
        RopeLine x = States.kinds();
        Due.is("CAST and SIZE", x.place(1, 0, 0, -1), -12);
        Due.is("CAST and INDEX", x.place(1, 2, 6, 0), -12);
        Due.is("CAST and INDEX of no cells", x.place(2, 1, 1, 1), -12);
        Due.is("NULL and SIZE", x.place(3, 0, 0, -1), -11);
        Due.is("NULL and INDEX", x.place(3, 0, 1, 1), -11);
        Due.is("SIZE and INDEX", x.place(1, 1, 6, -1), -14);
        Due.is("NULL and INDEX of put()", x.put(3, -1, 0), -11);
        x.cell(1, 5, 0);
        Due.is("CAST and INDEX of cell()", x.fault(), 2);
        x.cell(3, -1, 0);
        Due.is("NULL and INDEX of cell()", x.fault(), 1);
    }

    private static void faultsChangeNothing() {
        Sentence.terms("it answers -10 less it (LOST, where a long is answered, as for refusals) and changes nothing; "
            + "fault() tells it.");
        List.of(
            named("place(0, 1, 0, 5)", x -> x.place(0, 1, 0, 5), -12, 2),
            named("place(3, 0, 0, 5)", x -> x.place(3, 0, 0, 5), -11, 1),
            named("place(1, 1, 0, -5)", x -> x.place(1, 1, 0, -5), -14, 4),
            named("place(1, 1, 0, 6)", x -> x.place(1, 1, 0, 6), -13, 3),
            named("sheet(1, 1, -1)", x -> x.sheet(1, 1, -1), -14, 4),
            named("put(3, 0, 5)", x -> x.put(3, 0, 5), -11, 1),
            named("put(1, 5, 5)", x -> x.put(1, 5, 5), -13, 3),
            named("put(1, -1, 5)", x -> x.put(1, -1, 5), -13, 3),
            named("cell(1, 0, 0)", x -> x.cell(1, 0, 0), LOST, 2),
            named("cell(3, 0, 0)", x -> x.cell(3, 0, 0), LOST, 1),
            named("cell(1, 5, 1)", x -> x.cell(1, 5, 1), LOST, 3),
            named("as(2, 1)", x -> x.as(2, 1), -12, 2),
            named("as(1, 2)", x -> x.as(1, 2), -12, 2)).forEach(TermsSentences::changesNothing);
    }

    // ---- numbers

    private static void none() {
        Sentence.terms("NONE is -9.");
        RopeLine x = States.kinds();
        Due.is("NONE", RopeLine.NONE, -9);
        Due.is("line(1) of one", x.line(1), -9);
        Due.is("ofComer(1, 4), not SERVED", x.ofComer(1, 4), -9);
    }

    private static void cut() {
        Sentence.terms("Quotients are cut.");
        RopeLine x = Texts.at("m5;c3");
        int[] due = {2, 4, 7, 9, 12, 14};
        for (int n = 0; n < 6; n++) Due.is("12 times " + (n + 1) + " by 5", x.minutes(n, 2), due[n]);
        Due.is("12 by 7", Texts.at("m7;c1").minutes(0, 2), 1);
        Due.is("72 by 11", Texts.at("m11;c1").minutes(5, 2), 6);
    }

    private static void leastTerms() {
        Sentence.terms("Shares are told as upper and lower number (above 0) in least terms.");
        RopeLine x = Texts.at("m6;c2;s3v0");
        Due.share("0 by 1: mean()", x.mean(0), x.mean(1), 0, 1);
        Due.share("1 by 1: often(0)", x.often(0, 0), x.often(0, 1), 1, 1);
        Due.share("12 by 6: minutes(0)", x.minutes(0, 0), x.minutes(0, 1), 2, 1);
        x.bar(0, 1);
        Due.share("below 0: gain()", x.gain(0), x.gain(1), -4, 5);
        RopeLine y = Texts.open("m9;c6;s4v30;s3v12");
        for (int n = 0; n < 6; n++) {
            inLeastTerms("often(" + n + ")", y.often(n, 0), y.often(n, 1));
            inLeastTerms("after(8, 2, " + n + ")", y.after(8, 2, n, 0), y.after(8, 2, n, 1));
            inLeastTerms("minutes(" + n + ")", y.minutes(n, 0), y.minutes(n, 1));
            if (n > 0) inLeastTerms("less(" + n + ")", y.less(n, 0), y.less(n, 1));
        }
        inLeastTerms("mean()", y.mean(0), y.mean(1));
        inLeastTerms("on(1)", y.on(1, 0), y.on(1, 1));
        inLeastTerms("gain()", y.gain(0), y.gain(1));
        RopeLine one = Texts.at("m4;c6;s6v30");
        for (int n = 0; n < 5; n++) inLeastTerms("blind(6, " + n + ")", one.blind(6, n, 0), one.blind(6, n, 1));
    }

    private static void inLeastTerms(String call, long upper, long lower) {
        Fraction least = Fraction.of(upper, lower);
        Due.holds(call + " has a lower number above 0", lower > 0);
        Due.share(call, upper, lower, least.part(0), least.part(1));
    }
}
