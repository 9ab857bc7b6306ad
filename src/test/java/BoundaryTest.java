import java.lang.reflect.Method;
import java.util.ArrayList;
import java.util.Arrays;
import java.util.List;
import java.util.StringJoiner;

/**
 * Each sentence of the document that names a boundary case, by itself: both sides of the bound,
 * and after each call all that the object holds.
 */
public final class BoundaryTest {
    private static final int LOWEST = Integer.MIN_VALUE;
    private static final int HIGHEST = Integer.MAX_VALUE;

    private static final String SIXTY = "01234".repeat(12);
    private static final String TWOS = "2".repeat(60);
    private static final String EIGHT = "01234012";
    /** All 25 pairs and no triple twice: no 60 symbols have more different rows. */
    private static final String VARIED =
            "002403044232010331434121134041402234411141321421333023342224";

    private record State(List<String> documents, String pattern) {
        int symbols() {
            return String.join("", documents).length();
        }

        boolean hasPlace(int number) {
            int d = Math.floorDiv(number, 64);
            return 0 <= d && d < documents.size()
                    && Math.floorMod(number, 64) < documents.get(d).length();
        }
    }

    private static final State NEW = state("", "");
    private static final State SMALL = state("10", "0102", "", "102");
    /** Everything that can be full is. */
    private static final State FULL =
            state(EIGHT, SIXTY.substring(0, 48), "", "", "", "012340123401");
    /** All documents are as long as they can be at once. */
    private static final State USED = state("43210432", "432104321043", "321043210432",
            "210432104321", "104321043210", "043210432104");
    /** The last place that there can be is 64 * 4 + 59. */
    private static final State LAST_PLACE = state("2", "", "", "", "", TWOS);

    private static String sentence;
    private static int wrong;

    private static State state(String pattern, String... documents) {
        return new State(List.of(documents), pattern);
    }

    private static void due(String what, Object got, Object want) {
        if (!got.equals(want)) {
            wrong++;
            System.out.println(sentence + ": " + what + " is " + got + ", due is " + want);
        }
    }

    private static int call(FmIndex x, String method, int... args) {
        Class<?>[] types = new Class<?>[args.length];
        Arrays.fill(types, int.class);
        try {
            Method found = FmIndex.class.getMethod(method, types);
            return (int) found.invoke(x, Arrays.stream(args).boxed().toArray());
        } catch (ReflectiveOperationException e) {
            throw new IllegalStateException(told(method, args), e);
        }
    }

    private static String told(String method, int... args) {
        StringJoiner call = new StringJoiner(", ", method + "(", ")");
        Arrays.stream(args).forEach(arg -> call.add(String.valueOf(arg)));
        return call.toString();
    }

    private static void fill(FmIndex x, State state) {
        for (int d = 0; d < state.documents().size(); d++) {
            if (d > 0) {
                x.open();
            }
            state.documents().get(d).chars().forEach(symbol -> x.push(symbol - '0'));
        }
        state.pattern().chars().forEach(symbol -> x.ask(symbol - '0'));
    }

    private static FmIndex made(State state) {
        FmIndex x = new FmIndex();
        fill(x, state);
        return x;
    }

    private static void closeAll(FmIndex x) {
        for (int closed = 0; closed < 5; closed++) {
            x.close();
        }
    }

    /** All documents and the pattern have held other symbols before: none of them may show. */
    private static FmIndex madeAfterUse(State state) {
        FmIndex x = made(USED);
        closeAll(x);
        x.forget();
        fill(x, state);
        return x;
    }

    private static List<String> readDocuments(FmIndex x) {
        List<String> documents = new ArrayList<>();
        for (int d = 0; d < x.documents() && d < 9; d++) {
            StringBuilder symbols = new StringBuilder();
            for (int p = 0; p < x.length(d); p++) {
                symbols.append(x.symbolAt(64 * d + p));
            }
            documents.add(symbols.toString());
        }
        return documents;
    }

    /** Tries symbol after symbol in an object that has been emptied of all documents. */
    private static String readPattern(FmIndex x) {
        StringBuilder known = new StringBuilder();
        boolean found = true;
        while (found && known.length() < 9) {
            found = false;
            for (int symbol = 0; symbol < 5 && !found; symbol++) {
                x.push(symbol);
                found = x.longestBegin() == known.length() + 1;
                if (found) {
                    known.append(symbol);
                } else {
                    x.pop();
                }
            }
        }
        int length = x.forget();
        return length == known.length() ? known.toString() : known + " of length " + length;
    }

    /** Uses the object up: the pattern can only be read when no document is left. */
    private static State read(FmIndex x) {
        List<String> documents = readDocuments(x);
        closeAll(x);
        return new State(documents, readPattern(x));
    }

    /** The answers to all questions; only for a few symbols, to stay within 512 calls. */
    private static List<Integer> answers(FmIndex x, State state) {
        List<Integer> all = new ArrayList<>(List.of(x.documents(), x.count(), x.spread(),
                x.longestEnd(), x.longestBegin(), x.repeated(), x.different(), x.extensions()));
        for (int d = -1; d <= 5; d++) {
            all.addAll(List.of(x.length(d), x.countIn(d)));
        }
        for (int i = -1; i <= state.symbols(); i++) {
            all.addAll(List.of(x.occurrence(i), x.ranked(i)));
        }
        for (int place = 0; place < 320; place++) {
            if (state.hasPlace(place)) {
                all.addAll(List.of(x.symbolAt(place), x.rankOf(place), x.common(0, place)));
            }
        }
        return all;
    }

    /** The call answers as due, and then the object holds just what is named. */
    private static void becomes(State before, State after, int answer, String method, int... args) {
        String told = told(method, args) + " on " + before;
        for (FmIndex x : List.of(made(before), madeAfterUse(before))) {
            due(told, call(x, method, args), answer);
            due("the state after " + told, read(x), after);
        }
        if (before.symbols() <= 20 && after.symbols() <= 20) {
            FmIndex x = madeAfterUse(before);
            answers(x, before);
            call(x, method, args);
            due("every answer after " + told, answers(x, after), answers(made(after), after));
        }
    }

    /** A refused call or a question: the answer is as due, and nothing has changed. */
    private static void stays(State state, int answer, String method, int... args) {
        becomes(state, state, answer, method, args);
    }

    /** Numbers far from all good ones, many of them good in their lowest bits. */
    private static List<Integer> farNumbers() {
        List<Integer> far = new ArrayList<>(List.of(LOWEST, LOWEST + 1, HIGHEST - 1, HIGHEST));
        for (int bit = 9; bit < 32; bit++) {
            for (int more = -1; more <= 2; more++) {
                far.add((1 << bit) + more);
                far.add(-(1 << bit) + more);
            }
        }
        return far;
    }

    /** The argument with the index of varied takes every far number; all are refused alike. */
    private static void refusesFar(
            State state, int answer, int varied, String method, int... args) {
        FmIndex x = made(state);
        for (int far : farNumbers()) {
            int[] now = args.clone();
            now[varied] = far;
            due(told(method, now) + " on " + state, call(x, method, now), answer);
        }
        due("the state after the refused calls of " + method, read(x), state);
    }

    // What it is

    private static void callsOfOneObject() {
        FmIndex changed = new FmIndex();
        for (int pair = 0; pair < 255; pair++) {
            changed.push(1);
            changed.pop();
        }
        due("the 511th call, push(2)", changed.push(2), 1);
        due("the 512th call, symbolAt(0)", changed.symbolAt(0), 2);

        FmIndex refused = new FmIndex();
        FmIndex asked = new FmIndex();
        FmIndex opened = new FmIndex();
        for (int call = 0; call < 511; call++) {
            refused.push(5);
            asked.documents();
            opened.close();
        }
        due("the 512th call after refused ones, push(4)", refused.push(4), 1);
        due("the 512th call after questions, ask(4)", asked.ask(4), 1);
        due("the 512th call after closes, open()", opened.open(), 2);
    }

    private static void callsThatFillAndEmpty() {
        FmIndex documents = new FmIndex();
        for (int round = 0; round < 8; round++) {
            for (int have = 1; have <= 60; have++) {
                due("push(3), round " + round, documents.push(3), have);
            }
            due("close(), round " + round, documents.close(), 60);
        }
        FmIndex pattern = new FmIndex();
        for (int round = 0; round < 51; round++) {
            for (int have = 1; have <= 8; have++) {
                due("ask(3), round " + round, pattern.ask(3), have);
            }
            due("ask(3), round " + round, pattern.ask(3), -2);
            due("forget(), round " + round, pattern.forget(), 8);
        }
    }

    // Terms

    private static void atMostFiveDocuments() {
        becomes(state("", "0", "1", "2", "3"), state("", "0", "1", "2", "3", ""), 5, "open");
        stays(state("", "0", "1", "2", "3", "4"), -1, "open");
        stays(state("", "0", "1", "2", "3", "44"), 2, "length", 4);
        stays(state("", "0", "1", "2", "3", "44"), -1, "length", 5);
    }

    private static void documentPerhapsEmpty() {
        State gaps = state("1", "", "1", "", "1", "");
        stays(gaps, 0, "length", 0);
        stays(gaps, 0, "length", 4);
        stays(gaps, -1, "symbolAt", 0);
        stays(gaps, 1, "symbolAt", 64);
        stays(gaps, 2, "count");
        stays(gaps, 64, "occurrence", 0);
        stays(gaps, 192, "occurrence", 1);
        stays(gaps, 0, "countIn", 4);
        stays(gaps, 2, "spread");
        stays(gaps, 64, "ranked", 0);
        stays(gaps, 1, "rankOf", 192);
        stays(gaps, 1, "repeated");
        stays(gaps, 1, "different");
        stays(gaps, 0, "extensions");
    }

    private static void atMostSixtySymbolsInAll() {
        String twelve = "012340123401";
        State spread = state("", twelve, twelve, twelve, twelve, "01234012340");
        State spreadFull = state("", twelve, twelve, twelve, twelve, twelve);
        becomes(spread, spreadFull, 60, "push", 1);
        stays(spreadFull, -2, "push", 1);
        stays(spreadFull, -3, "paste", 0, 1);
        State lastOnly = state("", "", "", "", "", SIXTY.substring(0, 59));
        becomes(lastOnly, state("", "", "", "", "", SIXTY), 60, "push", 4);
        stays(state("", "", "", "", "", SIXTY), -2, "push", 4);
        stays(state("", SIXTY, ""), -2, "push", 4);
        becomes(state("", SIXTY), state("", SIXTY, ""), 2, "open");
    }

    private static void oneEmptyDocumentAtFirst() {
        due("a new object's state", read(new FmIndex()), NEW);
        stays(NEW, 1, "documents");
        stays(NEW, 0, "length", 0);
        stays(NEW, -1, "length", 1);
        stays(NEW, -1, "symbolAt", 0);
        stays(NEW, -1, "pop");
        becomes(NEW, NEW, 0, "close");
    }

    private static void placesAndOtherNumbers() {
        List<State> states = List.of(NEW, state("", "0123", "", "44"), LAST_PLACE,
                state("", "0", "1", "2", "3", "4"));
        for (State state : states) {
            FmIndex symbols = made(state);
            FmIndex ranks = made(state);
            for (int number = -70; number <= 330; number++) {
                boolean place = state.hasPlace(number);
                due("symbolAt(" + number + ") is one", symbols.symbolAt(number) != -1, place);
                due("rankOf(" + number + ") is one", ranks.rankOf(number) != -1, place);
            }
        }
    }

    private static void positionsOfADocument() {
        State sixty = state("", TWOS, "");
        stays(sixty, 2, "symbolAt", 0);
        stays(sixty, 2, "symbolAt", 59);
        for (int behind = 60; behind <= 64; behind++) {
            stays(sixty, -1, "symbolAt", behind);
        }
        stays(SMALL, 2, "symbolAt", 3);
        stays(SMALL, -1, "symbolAt", 4);
        stays(SMALL, -1, "symbolAt", 64);
        stays(SMALL, 1, "symbolAt", 128);
        stays(SMALL, -1, "symbolAt", 127);
        stays(SMALL, -1, "symbolAt", 192);
        stays(LAST_PLACE, 2, "symbolAt", 315);
        stays(LAST_PLACE, -1, "symbolAt", 316);
        stays(LAST_PLACE, -1, "symbolAt", 320);
    }

    private static void restGoesToTheEnd() {
        stays(state("", SIXTY), 60, "common", 0, 0);
        stays(state("", SIXTY), 1, "common", 59, 59);
        stays(SMALL, 4, "common", 0, 0);
        stays(SMALL, 1, "common", 3, 3);
        stays(SMALL, 1, "common", 130, 130);
        stays(LAST_PLACE, 1, "common", 315, 315);
    }

    private static void atMostEightInThePattern() {
        due("a new object's pattern", made(NEW).forget(), 0);
        becomes(state("0123401", ""), state(EIGHT, ""), 8, "ask", 2);
        stays(state(EIGHT, ""), -2, "ask", 2);
        stays(FULL, -2, "ask", 0);
    }

    private static void occursWhereTheRestBegins() {
        stays(state("012", "012"), 1, "count");
        stays(state("0123", "012"), 0, "count");
        stays(state("12", "012"), 1, "count");
        stays(state("01", "0", "1"), 0, "count");
        stays(state("00", "0", "", "0"), 0, "count");
        stays(state("000", "0000"), 2, "count");
        stays(state(EIGHT, EIGHT), 1, "count");
        stays(state(EIGHT, EIGHT.substring(0, 7), "2"), 0, "count");
        stays(state("44", SIXTY), 0, "count");
        FmIndex popped = made(state("01", "01"));
        popped.pop();
        due("count() of 01 after pop()", popped.count(), 0);
        FmIndex forgotten = made(state("012", "01"));
        forgotten.forget();
        forgotten.ask(0);
        due("count() of 0 after forget()", forgotten.count(), 1);
    }

    private static void dueOrder(State state, int... places) {
        for (int i = 0; i < places.length; i++) {
            stays(state, places[i], "ranked", i);
            stays(state, i, "rankOf", places[i]);
        }
        stays(state, -1, "ranked", places.length);
    }

    private static void restsSymbolBySymbol() {
        dueOrder(state("", "40", "1234"), 1, 64, 65, 66, 67, 0);
        dueOrder(state("", "0001", "0000"), 67, 66, 65, 64, 0, 1, 2, 3);
    }

    private static void beginningBeforeTheLonger() {
        dueOrder(state("", "010", "01", "0"), 2, 128, 64, 0, 65, 1);
        dueOrder(state("", "0", "01", "010"), 0, 130, 64, 128, 65, 129);
        dueOrder(state("", "000"), 2, 1, 0);
    }

    private static void equalRestsByDocument() {
        dueOrder(state("", "3", "3", "3", "3", "3"), 0, 64, 128, 192, 256);
        dueOrder(state("", "1113", "3"), 0, 1, 2, 3, 64);
        dueOrder(state("", "13", "", "13"), 0, 128, 1, 129);
        dueOrder(state("", "3", "1113"), 64, 65, 66, 0, 67);
    }

    private static void questionStays(State state, String method, int... args) {
        String told = told(method, args) + " on " + state;
        FmIndex x = made(state);
        int first = call(x, method, args);
        due(told + " asked again", call(x, method, args), first);
        due("the state after " + told, read(x), state);
    }

    private static void noQuestionChanges() {
        for (State state : List.of(NEW, SMALL, FULL, LAST_PLACE, state("", SIXTY))) {
            for (String method : List.of("documents", "count", "spread", "longestEnd",
                    "longestBegin", "repeated", "different", "extensions")) {
                questionStays(state, method);
            }
            for (int number : List.of(-1, 0, 2, 64, 128, 256)) {
                for (String method : List.of("length", "symbolAt", "occurrence", "countIn",
                        "ranked", "rankOf")) {
                    questionStays(state, method, number);
                }
                questionStays(state, "common", 0, number);
                questionStays(state, "common", number, number);
            }
        }
    }

    /** After a refusal of each kind the object goes on as one that has not had the call. */
    private static void noRefusedCallChanges() {
        State nearlyFull = state("0123401", SIXTY.substring(0, 57), "", "", "0", "");
        FmIndex x = made(nearlyFull);
        due("pop()", x.pop(), -1);
        due("open()", x.open(), -1);
        due("push(5)", x.push(5), -1);
        due("ask(5)", x.ask(5), -1);
        due("paste(5, 1)", x.paste(5, 1), -1);
        due("paste(0, 0)", x.paste(0, 0), -2);
        due("paste(0, 3)", x.paste(0, 3), -3);
        due("push(1)", x.push(1), 59);
        due("push(2)", x.push(2), 60);
        due("push(3)", x.push(3), -2);
        due("ask(4)", x.ask(4), 8);
        due("ask(4)", x.ask(4), -2);
        due("the state after refused calls", read(x),
                state("01234014", SIXTY.substring(0, 57), "", "", "0", "12"));
    }

    private static void testsInTheOrderNamed() {
        stays(FULL, -1, "push", 5);
        stays(FULL, -1, "push", -1);
        stays(FULL, -1, "push", LOWEST);
        stays(FULL, -1, "push", HIGHEST);
        stays(FULL, -1, "ask", 5);
        stays(FULL, -1, "ask", -1);
        stays(FULL, -1, "ask", LOWEST);
        stays(FULL, -1, "ask", HIGHEST);
        stays(FULL, -1, "paste", 5, 1);
        stays(FULL, -1, "paste", 5, 0);
        stays(FULL, -1, "paste", -1, -1);
        stays(FULL, -1, "paste", LOWEST, LOWEST);
        stays(FULL, -1, "paste", HIGHEST, HIGHEST);
        stays(FULL, -2, "paste", 0, 0);
        stays(FULL, -2, "paste", 0, 49);
        stays(FULL, -2, "paste", 0, 63);
        stays(FULL, -2, "paste", 1, 1);
        stays(FULL, -2, "paste", 0, -1);
        stays(NEW, -1, "paste", 1, 0);
        State noPattern = state("", "01", "2");
        stays(noPattern, -1, "occurrence", -1);
        stays(noPattern, -1, "occurrence", 3);
        stays(noPattern, -1, "occurrence", LOWEST);
        stays(noPattern, -1, "countIn", -1);
        stays(noPattern, -1, "countIn", 2);
        stays(noPattern, -1, "countIn", HIGHEST);
    }

    private static void goodDocuments() {
        State two = state("0", "00", "0");
        stays(two, 2, "length", 0);
        stays(two, 1, "length", 1);
        stays(two, -1, "length", 2);
        stays(two, -1, "length", -1);
        stays(two, 1, "countIn", 1);
        stays(two, -2, "countIn", 2);
        stays(two, -2, "countIn", -1);
        becomes(two, state("0", "00", "00"), 4, "paste", 1, 1);
        stays(two, -1, "paste", 2, 1);
        stays(two, -1, "paste", -1, 1);
        FmIndex x = made(two);
        x.close();
        due("length(1) after close()", x.length(1), -1);
        due("countIn(1) after close()", x.countIn(1), -2);
        due("paste(1, 1) after close()", x.paste(1, 1), -1);
        due("symbolAt(64) after close()", x.symbolAt(64), -1);
    }

    private static void goodSymbols() {
        State all = state("01234", "01234");
        due("the state of good symbols", read(made(all)), all);
        for (int symbol = 0; symbol < 5; symbol++) {
            stays(all, symbol, "symbolAt", symbol);
        }
        for (int bad : List.of(-1, 5)) {
            stays(all, -1, "push", bad);
            stays(all, -1, "ask", bad);
        }
    }

    private static void argumentsOfAnyInt() {
        refusesFar(SMALL, -1, 0, "push", 0);
        refusesFar(SMALL, -1, 0, "ask", 0);
        refusesFar(SMALL, -1, 0, "paste", 0, 1);
        refusesFar(SMALL, -2, 1, "paste", 0, 1);
        refusesFar(SMALL, -2, 1, "paste", 2, 1);
        refusesFar(SMALL, -1, 0, "length", 0);
        refusesFar(SMALL, -1, 0, "symbolAt", 0);
        refusesFar(SMALL, -2, 0, "occurrence", 0);
        refusesFar(SMALL, -2, 0, "countIn", 0);
        refusesFar(SMALL, -1, 0, "ranked", 0);
        refusesFar(SMALL, -1, 0, "rankOf", 0);
        refusesFar(SMALL, -1, 0, "common", 0, 0);
        refusesFar(SMALL, -1, 1, "common", 0, 0);
        State noPattern = state("", "01");
        refusesFar(noPattern, -1, 0, "occurrence", 0);
        refusesFar(noPattern, -1, 0, "countIn", 0);
    }

    // Promises 1 to 6

    private static void newObject() {
        due("a new object's state", read(new FmIndex()), NEW);
        due("a new object's answers", answers(new FmIndex(), NEW), answers(madeAfterUse(NEW), NEW));
        FmIndex x = new FmIndex();
        made(USED);
        due("the state when another object was filled", read(x), NEW);
    }

    private static void pushSymbolNotGood() {
        State one = state("1", "1");
        becomes(one, state("1", "10"), 2, "push", 0);
        becomes(one, state("1", "14"), 2, "push", 4);
        for (int bad : List.of(-1, -2, 5, 6, 256, -256, 65536, LOWEST, HIGHEST)) {
            stays(one, -1, "push", bad);
        }
    }

    private static void pushWhenFull() {
        State nearly = state("", SIXTY.substring(0, 59));
        becomes(state("", SIXTY.substring(0, 58)), nearly, 59, "push", 3);
        becomes(nearly, state("", SIXTY), 60, "push", 4);
        stays(state("", SIXTY), -2, "push", 4);
        stays(state("", SIXTY), -2, "push", 0);
        stays(FULL, -2, "push", 2);
        becomes(NEW, state("", "0"), 1, "push", 0);
        becomes(state("", "01", ""), state("", "01", "4"), 3, "push", 4);
    }

    private static void pushAfterRoomIsMade() {
        FmIndex popped = made(state("", SIXTY));
        popped.pop();
        due("push(0) after pop()", popped.push(0), 60);
        due("push(0) again", popped.push(0), -2);
        FmIndex closed = made(FULL);
        closed.close();
        due("push(0) after close()", closed.push(0), 49);
    }

    private static void pasteCopiesAsBefore() {
        becomes(state("", "012"), state("", "012012"), 6, "paste", 0, 3);
        becomes(state("", "012"), state("", "01212"), 5, "paste", 0, 64 + 2);
        stays(state("", "012"), -2, "paste", 0, 4);
        stays(state("", "012"), -2, "paste", 0, 64 + 3);
        becomes(state("", "3", "012"), state("", "3", "0123"), 5, "paste", 0, 1);
        becomes(state("", "34", ""), state("", "34", "34"), 4, "paste", 0, 2);
    }

    private static void pasteDocumentNotGood() {
        stays(NEW, -1, "paste", -1, 1);
        stays(NEW, -1, "paste", 1, 1);
        State five = state("", "0", "1", "2", "3", "4");
        becomes(five, state("", "0", "1", "2", "3", "44"), 6, "paste", 4, 1);
        becomes(five, state("", "0", "1", "2", "3", "40"), 6, "paste", 0, 1);
        stays(five, -1, "paste", 5, 1);
        stays(five, -1, "paste", LOWEST, 1);
        stays(five, -1, "paste", HIGHEST, 1);
    }

    private static void pasteNegativeSpec() {
        State some = state("", "0123");
        for (int spec : List.of(-1, -2, -62, -63, -64, -65, -127, -128, LOWEST, LOWEST + 1)) {
            stays(some, -2, "paste", 0, spec);
        }
        becomes(some, state("", "01230"), 5, "paste", 0, 1);
    }

    private static void pasteCountNotInRange() {
        for (int count : List.of(0, 61, 62, 63)) {
            stays(state("", SIXTY), -2, "paste", 0, count);
            stays(state("", "0123"), -2, "paste", 0, count);
            stays(state("", "0123"), -2, "paste", 0, 64 + count);
        }
        stays(NEW, -2, "paste", 0, 0);
        stays(NEW, -2, "paste", 0, 64);
        becomes(state("", "0123"), state("", "01230"), 5, "paste", 0, 1);
        stays(state("", SIXTY), -3, "paste", 0, 60);
        stays(state("", SIXTY), -3, "paste", 0, 1);
    }

    private static void pasteBeyondTheLength() {
        State some = state("", "0123", "4");
        becomes(some, state("", "0123", "40123"), 9, "paste", 0, 4);
        stays(some, -2, "paste", 0, 5);
        becomes(some, state("", "0123", "4123"), 8, "paste", 0, 64 + 3);
        stays(some, -2, "paste", 0, 64 + 4);
        becomes(some, state("", "0123", "43"), 6, "paste", 0, 64 * 3 + 1);
        stays(some, -2, "paste", 0, 64 * 3 + 2);
        stays(some, -2, "paste", 0, 64 * 4 + 1);
        stays(some, -2, "paste", 0, 64 * 5 + 1);
        stays(some, -2, "paste", 1, 2);
        stays(some, -2, "paste", 1, 64 + 1);
        stays(NEW, -2, "paste", 0, 1);
        stays(some, -2, "paste", 0, HIGHEST);
        stays(some, -2, "paste", 0, HIGHEST - 62);
        stays(state("", SIXTY), -3, "paste", 0, 64 * 59 + 1);
        stays(state("", SIXTY), -2, "paste", 0, 64 * 60 + 1);
    }

    private static void pasteMoreThanSixty() {
        String thirty = SIXTY.substring(0, 30);
        becomes(state("", thirty), state("", SIXTY), 60, "paste", 0, 30);
        becomes(state("", thirty, ""), state("", thirty, thirty), 60, "paste", 0, 30);
        stays(state("", thirty, "4"), -3, "paste", 0, 30);
        becomes(state("", thirty, "4"), state("", thirty, "4" + thirty.substring(0, 29)),
                60, "paste", 0, 29);
        stays(state("", SIXTY.substring(0, 31)), -3, "paste", 0, 30);
        State nearly = state("", SIXTY.substring(0, 59));
        becomes(nearly, state("", SIXTY.substring(0, 59) + "3"), 60, "paste", 0, 64 * 58 + 1);
        stays(nearly, -3, "paste", 0, 64 * 57 + 2);
        stays(nearly, -3, "paste", 0, 59);
        stays(FULL, -3, "paste", 0, 1);
        stays(FULL, -3, "paste", 4, 12);
    }

    private static void openWhenFive() {
        becomes(NEW, state("", "", ""), 2, "open");
        becomes(state("", "", "", "", ""), state("", "", "", "", "", ""), 5, "open");
        stays(state("", "", "", "", "", ""), -1, "open");
        stays(FULL, -1, "open");
        becomes(state(EIGHT, SIXTY), state(EIGHT, SIXTY, ""), 2, "open");
        FmIndex x = made(FULL);
        x.close();
        due("open() after close()", x.open(), 5);
        due("length(4) of the new one", x.length(4), 0);
    }

    private static void popWhenEmpty() {
        stays(NEW, -1, "pop");
        stays(state("0", "01", ""), -1, "pop");
        stays(state("0", SIXTY, "", "", "", ""), -1, "pop");
        becomes(state("0", "4"), state("0", ""), 4, "pop");
        becomes(state("0", "", "0"), state("0", "", ""), 0, "pop");
        becomes(state("0", SIXTY), state("0", SIXTY.substring(0, 59)), 4, "pop");
        becomes(state("0", "", "", "", "", SIXTY),
                state("0", "", "", "", "", SIXTY.substring(0, 59)), 4, "pop");
        becomes(state("0", "1", "23"), state("0", "1", "2"), 3, "pop");
    }

    private static void closeTheOnlyOne() {
        becomes(NEW, NEW, 0, "close");
        becomes(state("3", "3"), state("3", ""), 1, "close");
        becomes(state(EIGHT, SIXTY), state(EIGHT, ""), 60, "close");
        FmIndex x = made(state("", SIXTY));
        x.close();
        due("push(0) after close()", x.push(0), 1);
    }

    private static void closeOneOfMore() {
        becomes(state("3", "0", ""), state("3", "0"), 0, "close");
        becomes(state("3", "", "01"), state("3", ""), 2, "close");
        becomes(LAST_PLACE, state("2", "", "", "", ""), 60, "close");
        becomes(FULL, state(EIGHT, SIXTY.substring(0, 48), "", "", ""), 12, "close");
        FmIndex x = made(state("", "0", "12"));
        x.close();
        due("push(3) after close()", x.push(3), 2);
    }

    // Promises 7 to 11

    private static void documentsFewestAndMost() {
        stays(NEW, 1, "documents");
        stays(state("", "", ""), 2, "documents");
        stays(FULL, 5, "documents");
    }

    private static void lengthFewestAndMost() {
        stays(NEW, 0, "length", 0);
        stays(state("", "", "3"), 1, "length", 1);
        stays(state("", SIXTY), 60, "length", 0);
        stays(LAST_PLACE, 60, "length", 4);
    }

    private static void lengthNotGood() {
        stays(NEW, -1, "length", 1);
        stays(LAST_PLACE, -1, "length", 5);
        stays(LAST_PLACE, -1, "length", -1);
        stays(LAST_PLACE, -1, "length", LOWEST);
        stays(LAST_PLACE, -1, "length", HIGHEST);
    }

    private static void symbolAtNoPlace() {
        stays(state("", "04"), 0, "symbolAt", 0);
        stays(state("", "04"), 4, "symbolAt", 1);
        stays(state("", "04"), -1, "symbolAt", 2);
        for (int no : List.of(-1, -63, -64, -65, LOWEST, HIGHEST)) {
            stays(state("", "04"), -1, "symbolAt", no);
        }
        FmIndex x = made(state("", "04"));
        x.pop();
        due("symbolAt(1) after pop()", x.symbolAt(1), -1);
    }

    private static void askSymbolNotGood() {
        State one = state("1", "1");
        becomes(one, state("10", "1"), 2, "ask", 0);
        becomes(one, state("14", "1"), 2, "ask", 4);
        for (int bad : List.of(-1, -2, 5, 6, 256, -256, 65536, LOWEST, HIGHEST)) {
            stays(one, -1, "ask", bad);
        }
    }

    private static void askWhenEight() {
        becomes(NEW, state("4", ""), 1, "ask", 4);
        becomes(state("012340", SIXTY), state("0123404", SIXTY), 7, "ask", 4);
        becomes(state("0123401", SIXTY), state("01234014", SIXTY), 8, "ask", 4);
        stays(state(EIGHT, SIXTY), -2, "ask", 4);
        stays(state(EIGHT, ""), -2, "ask", 0);
    }

    private static void forgetFewestAndMost() {
        becomes(NEW, NEW, 0, "forget");
        becomes(state("3", "3"), state("", "3"), 1, "forget");
        becomes(FULL, new State(FULL.documents(), ""), 8, "forget");
    }

    // Promises 12 to 17

    private static void countOfNoPattern() {
        stays(NEW, -1, "count");
        stays(state("", "0"), -1, "count");
        stays(state("", SIXTY), -1, "count");
    }

    private static void countFewestAndMost() {
        stays(state("0", ""), 0, "count");
        stays(state("0", "1"), 0, "count");
        stays(state("2", TWOS), 60, "count");
        stays(state("22222222", TWOS), 53, "count");
        stays(state("0", "0", "0", "0", "0", "0"), 5, "count");
    }

    private static void occurrenceOfNoPattern() {
        stays(NEW, -1, "occurrence", 0);
        stays(state("", "000"), -1, "occurrence", 0);
        stays(state("", "000"), -1, "occurrence", -1);
        stays(state("", "000"), -1, "occurrence", HIGHEST);
    }

    private static void occurrenceFirstAndLast() {
        State three = state("0", "100", "10");
        stays(three, 1, "occurrence", 0);
        stays(three, 2, "occurrence", 1);
        stays(three, 65, "occurrence", 2);
        stays(state("0", "0", "0", "0", "0", "0"), 256, "occurrence", 4);
        stays(LAST_PLACE, 256, "occurrence", 0);
        stays(LAST_PLACE, 315, "occurrence", 59);
        stays(state("22222222", TWOS), 52, "occurrence", 52);
    }

    private static void occurrenceNoSuchPlace() {
        stays(state("0", ""), -2, "occurrence", 0);
        stays(state("0", "1"), -2, "occurrence", 0);
        for (int no : List.of(3, 4, -1, LOWEST, HIGHEST)) {
            stays(state("0", "100", "10"), -2, "occurrence", no);
        }
        stays(LAST_PLACE, -2, "occurrence", 60);
        stays(state("22222222", TWOS), -2, "occurrence", 53);
    }

    private static void countInOfNoPattern() {
        stays(NEW, -1, "countIn", 0);
        stays(state("", SIXTY), -1, "countIn", 0);
        stays(state("", SIXTY), -1, "countIn", 1);
        stays(state("", SIXTY), -1, "countIn", -1);
    }

    private static void countInNotGood() {
        State some = state("0", "00", "", "10");
        stays(some, 2, "countIn", 0);
        stays(some, 0, "countIn", 1);
        stays(some, 1, "countIn", 2);
        for (int bad : List.of(3, 4, 5, -1, LOWEST, HIGHEST)) {
            stays(some, -2, "countIn", bad);
        }
        stays(LAST_PLACE, 60, "countIn", 4);
        stays(LAST_PLACE, 0, "countIn", 3);
        stays(LAST_PLACE, -2, "countIn", 5);
    }

    private static void spreadOfNoPattern() {
        stays(NEW, -1, "spread");
        stays(state("", "0", "0"), -1, "spread");
        stays(state("", SIXTY, ""), -1, "spread");
    }

    private static void spreadFewestAndMost() {
        stays(state("0", ""), 0, "spread");
        stays(state("01", "0", "1"), 0, "spread");
        stays(state("0", "000"), 1, "spread");
        stays(state("0", "0", "00", "10", "01", "0"), 5, "spread");
        stays(state("0", "0", "00", "", "01", "0"), 4, "spread");
    }

    private static void longestEndOfNoPattern() {
        stays(NEW, 0, "longestEnd");
        stays(state("", "0"), 0, "longestEnd");
        stays(state("", SIXTY), 0, "longestEnd");
    }

    private static void longestEndNone() {
        stays(state("0", ""), 0, "longestEnd");
        stays(state("01", "00"), 0, "longestEnd");
        stays(state(EIGHT, "01340134"), 0, "longestEnd");
    }

    private static void longestEndShortestAndLongest() {
        stays(state("01", "1"), 1, "longestEnd");
        stays(state("01", "0", "1"), 1, "longestEnd");
        stays(state(EIGHT, EIGHT), 8, "longestEnd");
        stays(state(EIGHT, EIGHT.substring(1)), 7, "longestEnd");
        stays(state(EIGHT, EIGHT.substring(0, 7)), 3, "longestEnd");
    }

    private static void longestBeginOfNoPattern() {
        stays(NEW, 0, "longestBegin");
        stays(state("", "0"), 0, "longestBegin");
        stays(state("", SIXTY), 0, "longestBegin");
    }

    private static void longestBeginNone() {
        stays(state("0", ""), 0, "longestBegin");
        stays(state("01", "11"), 0, "longestBegin");
        stays(state(EIGHT, "12341234"), 0, "longestBegin");
    }

    private static void longestBeginShortestAndLongest() {
        stays(state("01", "0"), 1, "longestBegin");
        stays(state("01", "0", "1"), 1, "longestBegin");
        stays(state(EIGHT, EIGHT), 8, "longestBegin");
        stays(state(EIGHT, EIGHT.substring(0, 7)), 7, "longestBegin");
    }

    // Promises 18 to 23

    private static void rankedFirstAndLast() {
        stays(state("", "3"), 0, "ranked", 0);
        stays(LAST_PLACE, 315, "ranked", 0);
        stays(LAST_PLACE, 256, "ranked", 59);
    }

    private static void rankedNoSuchRest() {
        stays(NEW, -1, "ranked", 0);
        stays(NEW, -1, "ranked", -1);
        for (int no : List.of(1, -1, LOWEST, HIGHEST)) {
            stays(state("", "3"), -1, "ranked", no);
        }
        stays(LAST_PLACE, -1, "ranked", 60);
        stays(LAST_PLACE, -1, "ranked", -1);
    }

    private static void rankOfFewestAndMost() {
        stays(state("", "3"), 0, "rankOf", 0);
        stays(LAST_PLACE, 0, "rankOf", 315);
        stays(LAST_PLACE, 59, "rankOf", 256);
    }

    private static void rankOfNoPlace() {
        stays(NEW, -1, "rankOf", 0);
        for (int no : List.of(0, 255, 316, 320, -1, -64, LOWEST, HIGHEST)) {
            stays(LAST_PLACE, -1, "rankOf", no);
        }
    }

    private static void commonNoPlace() {
        State some = state("", "00", "", "0");
        stays(some, 1, "common", 0, 128);
        for (int no : List.of(2, 63, 64, 129, 192, 320, -1, -64, LOWEST, HIGHEST)) {
            stays(some, -1, "common", no, 0);
            stays(some, -1, "common", 0, no);
            stays(some, -1, "common", no, no);
        }
        stays(NEW, -1, "common", 0, 0);
    }

    private static void commonFewestAndMost() {
        stays(state("", "01"), 0, "common", 0, 1);
        stays(state("", "01", "0"), 1, "common", 0, 64);
        stays(state("", "01", "0"), 1, "common", 64, 0);
        stays(LAST_PLACE, 60, "common", 256, 256);
        stays(LAST_PLACE, 59, "common", 256, 257);
        stays(LAST_PLACE, 1, "common", 256, 315);
        String thirty = SIXTY.substring(0, 30);
        stays(state("", thirty, "", "", "", thirty), 30, "common", 0, 256);
    }

    private static void repeatedNone() {
        stays(NEW, 0, "repeated");
        stays(state("", "0"), 0, "repeated");
        stays(state("", "01234"), 0, "repeated");
        stays(state("", "0", "1", "2", "3", "4"), 0, "repeated");
    }

    private static void repeatedShortestAndLongest() {
        stays(state("", "00"), 1, "repeated");
        stays(state("", "0", "0"), 1, "repeated");
        stays(state("", "000"), 2, "repeated");
        stays(LAST_PLACE, 59, "repeated");
        String thirty = VARIED.substring(0, 30);
        stays(state("", thirty, "", "", "", thirty), 30, "repeated");
        stays(state("", VARIED), 2, "repeated");
    }

    private static void differentFewestAndMost() {
        stays(NEW, 0, "different");
        stays(state("", "0"), 1, "different");
        stays(state("", "0", "0"), 1, "different");
        stays(state("", "0", "1", "2", "3", "4"), 5, "different");
        stays(state("", "00"), 2, "different");
        stays(state("", "01"), 3, "different");
        stays(LAST_PLACE, 60, "different");
        stays(state("", VARIED), 1741, "different");
        stays(state("", "", "", "", "", VARIED), 1741, "different");
    }

    private static void extensionsOfNoPattern() {
        stays(NEW, 0, "extensions");
        stays(state("", "3"), 1, "extensions");
        stays(state("", "", "", "3"), 1, "extensions");
        stays(state("", "0", "0", "4"), 2, "extensions");
        stays(state("", SIXTY), 5, "extensions");
        stays(state("", TWOS.substring(1) + "4"), 2, "extensions");
    }

    private static void extensionsFewestAndMost() {
        stays(state("0", ""), 0, "extensions");
        stays(state("0", "0"), 0, "extensions");
        stays(state("0", "1", "0"), 0, "extensions");
        stays(state("0", "10"), 1, "extensions");
        stays(state("0", "10", "10"), 1, "extensions");
        stays(state("0", "0010", "20", "30", "40"), 5, "extensions");
        stays(state("2", TWOS), 1, "extensions");
        stays(state(EIGHT, EIGHT), 0, "extensions");
        stays(state(EIGHT, "0" + EIGHT, "4" + EIGHT), 2, "extensions");
        stays(state(EIGHT, "0" + EIGHT.substring(0, 7), "4" + EIGHT), 1, "extensions");
    }

    private static void says(String where, String words, Runnable test) {
        sentence = where + ", \"" + words + "\"";
        test.run();
    }

    private static void terms() {
        says("What it is", "used for at most 512 calls", BoundaryTest::callsOfOneObject);
        says("What it is", "used for at most 512 calls", BoundaryTest::callsThatFillAndEmpty);
        says("Terms", "at most 5 DOCUMENTS", BoundaryTest::atMostFiveDocuments);
        says("Terms", "perhaps empty", BoundaryTest::documentPerhapsEmpty);
        says("Terms", "at most 60 symbols", BoundaryTest::atMostSixtySymbolsInAll);
        says("Terms", "one document, empty, at first", BoundaryTest::oneEmptyDocumentAtFirst);
        says("Terms", "written as the number 64 * d + p", BoundaryTest::placesAndOtherNumbers);
        says("Terms", "0 <= p < its length", BoundaryTest::positionsOfADocument);
        says("Terms", "from its position to the end", BoundaryTest::restGoesToTheEnd);
        says("Terms", "at most 8 symbols, empty at first", BoundaryTest::atMostEightInThePattern);
        says("Terms", "if the rest there begins with it", BoundaryTest::occursWhereTheRestBegins);
        says("Terms", "ordered symbol by symbol", BoundaryTest::restsSymbolBySymbol);
        says("Terms", "a beginning of another one", BoundaryTest::beginningBeforeTheLonger);
        says("Terms", "equal rests are ordered", BoundaryTest::equalRestsByDocument);
        says("Terms", "No question changes anything", BoundaryTest::noQuestionChanges);
        says("Terms", "A refused call changes nothing", BoundaryTest::noRefusedCallChanges);
        says("Terms", "in the order named", BoundaryTest::testsInTheOrderNamed);
        says("Terms", "a document is good if there is such", BoundaryTest::goodDocuments);
        says("Terms", "a symbol if it is 0 .. 4", BoundaryTest::goodSymbols);
        says("The public face", "int", BoundaryTest::argumentsOfAnyInt);
    }

    private static void promisesOfChanges() {
        says("Promise 1", "One empty document; the pattern is empty", BoundaryTest::newObject);
        says("Promise 2", "-1 if symbol is not good", BoundaryTest::pushSymbolNotGood);
        says("Promise 2", "-2 if the documents have 60 symbols", BoundaryTest::pushWhenFull);
        says("Promise 2", "how many symbols they have now", BoundaryTest::pushAfterRoomIsMade);
        says("Promise 3", "as they were before the call", BoundaryTest::pasteCopiesAsBefore);
        says("Promise 3", "-1 if d is not good", BoundaryTest::pasteDocumentNotGood);
        says("Promise 3", "a negative spec is the case of -2", BoundaryTest::pasteNegativeSpec);
        says("Promise 3", "count is not in 1 .. 60", BoundaryTest::pasteCountNotInRange);
        says("Promise 3", "greater than the document's length", BoundaryTest::pasteBeyondTheLength);
        says("Promise 3", "-3 if there would be more than 60", BoundaryTest::pasteMoreThanSixty);
        says("Promise 4", "-1 if there are 5", BoundaryTest::openWhenFive);
        says("Promise 5", "-1 if it is empty", BoundaryTest::popWhenEmpty);
        says("Promise 6", "if it is the only one", BoundaryTest::closeTheOnlyOne);
        says("Promise 6", "Answers how many symbols it had", BoundaryTest::closeOneOfMore);
        says("Promise 10", "-1 if symbol is not good", BoundaryTest::askSymbolNotGood);
        says("Promise 10", "-2 if the pattern has 8 symbols", BoundaryTest::askWhenEight);
        says("Promise 11", "answers how many symbols it had", BoundaryTest::forgetFewestAndMost);
    }

    private static void promisesOfThePattern() {
        says("Promise 12", "-1 if it is empty", BoundaryTest::countOfNoPattern);
        says("Promise 12", "At how many places", BoundaryTest::countFewestAndMost);
        says("Promise 13", "0 for the first", BoundaryTest::occurrenceFirstAndLast);
        says("Promise 13", "-1 if the pattern is empty", BoundaryTest::occurrenceOfNoPattern);
        says("Promise 13", "-2 if there is no such place", BoundaryTest::occurrenceNoSuchPlace);
        says("Promise 14", "-1 if the pattern is empty", BoundaryTest::countInOfNoPattern);
        says("Promise 14", "-2 if d is not good", BoundaryTest::countInNotGood);
        says("Promise 15", "-1 if it is empty", BoundaryTest::spreadOfNoPattern);
        says("Promise 15", "In how many documents", BoundaryTest::spreadFewestAndMost);
        says("Promise 16", "The greatest k", BoundaryTest::longestEndShortestAndLongest);
        says("Promise 16", "0 if not even the last one does", BoundaryTest::longestEndNone);
        says("Promise 16", "or the pattern is empty", BoundaryTest::longestEndOfNoPattern);
        says("Promise 17", "The greatest k", BoundaryTest::longestBeginShortestAndLongest);
        says("Promise 17", "0 if not even the first one does", BoundaryTest::longestBeginNone);
        says("Promise 17", "or the pattern is empty", BoundaryTest::longestBeginOfNoPattern);
        says("Promise 23", "for the empty pattern", BoundaryTest::extensionsOfNoPattern);
        says("Promise 23", "s followed by the pattern", BoundaryTest::extensionsFewestAndMost);
    }

    private static void promisesOfTheDocuments() {
        says("Promise 7", "How many documents there are", BoundaryTest::documentsFewestAndMost);
        says("Promise 8", "How many symbols a document has", BoundaryTest::lengthFewestAndMost);
        says("Promise 8", "-1 if d is not good", BoundaryTest::lengthNotGood);
        says("Promise 9", "-1 if place is not a place", BoundaryTest::symbolAtNoPlace);
        says("Promise 18", "0 for the first", BoundaryTest::rankedFirstAndLast);
        says("Promise 18", "-1 if there is no such one", BoundaryTest::rankedNoSuchRest);
        says("Promise 19", "How many rests come before", BoundaryTest::rankOfFewestAndMost);
        says("Promise 19", "-1 if place is not a place", BoundaryTest::rankOfNoPlace);
        says("Promise 20", "-1 if one of them is not a place", BoundaryTest::commonNoPlace);
        says("Promise 20", "in common at their beginnings", BoundaryTest::commonFewestAndMost);
        says("Promise 21", "the longest row", BoundaryTest::repeatedShortestAndLongest);
        says("Promise 21", "0 if there is none", BoundaryTest::repeatedNone);
        says("Promise 22", "rows of one or more symbols", BoundaryTest::differentFewestAndMost);
    }

    public static void main(String[] args) {
        terms();
        promisesOfChanges();
        promisesOfThePattern();
        promisesOfTheDocuments();
        System.out.println(wrong == 0 ? "all answers are as due" : wrong + " are not as due");
        if (wrong != 0) {
            System.exit(1);
        }
    }
}
