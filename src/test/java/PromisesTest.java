/** Each promise by itself: ordinary inputs, the edges the document names, and wrong inputs. */
public final class PromisesTest {
    private static final int LOWEST = Integer.MIN_VALUE;
    private static final int HIGHEST = Integer.MAX_VALUE;

    private static int part;
    private static int wrong;

    private static void due(String call, int got, int want) {
        if (got != want) {
            wrong++;
            String where = part <= 23 ? "promise " + part : part == 24 ? "terms" : "README.md";
            System.out.println(where + ": " + call + " answered " + got + ", due is " + want);
        }
    }

    /** An object with these documents, each written as its symbols: "0110", "", .. */
    private static FmIndex with(String... documents) {
        FmIndex x = new FmIndex();
        for (int d = 0; d < documents.length; d++) {
            if (d > 0) {
                x.open();
            }
            for (char symbol : documents[d].toCharArray()) {
                x.push(symbol - '0');
            }
        }
        return x;
    }

    private static void pattern(FmIndex x, String symbols) {
        x.forget();
        for (char symbol : symbols.toCharArray()) {
            x.ask(symbol - '0');
        }
    }

    /**
     * Looks at all that tells the documents, so a refused call that changed them shows; in each
     * document only one position behind its end, to stay within an object's 512 calls.
     */
    private static void dueDocuments(String when, FmIndex x, String... documents) {
        due(when + ", documents()", x.documents(), documents.length);
        for (int d = 0; d < 5; d++) {
            boolean good = d < documents.length;
            due(when + ", length(" + d + ")", x.length(d), good ? documents[d].length() : -1);
            int end = good ? documents[d].length() : 0;
            for (int p = 0; p <= end; p++) {
                due(when + ", symbolAt(" + (64 * d + p) + ")", x.symbolAt(64 * d + p),
                        p < end ? documents[d].charAt(p) - '0' : -1);
            }
        }
    }

    private static void newObject() {
        FmIndex x = new FmIndex();
        dueDocuments("new", x, "");
        due("count()", x.count(), -1);
        due("longestEnd()", x.longestEnd(), 0);
        due("longestBegin()", x.longestBegin(), 0);
        due("ranked(0)", x.ranked(0), -1);
        due("repeated()", x.repeated(), 0);
        due("different()", x.different(), 0);
        due("extensions()", x.extensions(), 0);
        due("forget()", x.forget(), 0);
        FmIndex other = new FmIndex();
        other.push(3);
        other.ask(3);
        dueDocuments("another object was used", x, "");
        due("forget() after another object was used", x.forget(), 0);
    }

    private static void push() {
        FmIndex x = new FmIndex();
        due("push(0)", x.push(0), 1);
        due("push(4)", x.push(4), 2);
        due("push(5)", x.push(5), -1);
        due("push(-1)", x.push(-1), -1);
        due("push(lowest)", x.push(LOWEST), -1);
        due("push(highest)", x.push(HIGHEST), -1);
        dueDocuments("after refusals", x, "04");
        x.open();
        due("push(2) in the second document", x.push(2), 3);
        dueDocuments("after the push", x, "04", "2");
        for (int have = 4; have <= 60; have++) {
            due("push(1)", x.push(1), have);
        }
        due("push(1) to 60", x.push(1), -2);
        due("push(5) to 60", x.push(5), -1);
        dueDocuments("full", x, "04", "2" + "1".repeat(57));
        x.pop();
        due("push(3) after pop", x.push(3), 60);
        due("push(3) to 60 again", x.push(3), -2);
        x.close();
        due("push(3) after close", x.push(3), 3);

        FmIndex one = with("3".repeat(59));
        due("the 60th symbol of one document", one.push(4), 60);
        due("the 61st", one.push(4), -2);
        dueDocuments("one full document", one, "3".repeat(59) + "4");
        pattern(one, "34");
        one.pop();
        one.push(4);
        due("the pattern stays: count()", one.count(), 1);
    }

    private static void paste() {
        FmIndex x = with("0123", "44");
        due("paste(0, 64 * 1 + 2)", x.paste(0, 64 + 2), 8);
        dueDocuments("a middle part", x, "0123", "4412");
        due("paste(1, 4)", x.paste(1, 4), 12);
        dueDocuments("the last document itself", x, "0123", "44124412");
        due("paste(0, 64 * 3 + 1)", x.paste(0, 64 * 3 + 1), 13);
        dueDocuments("the last symbol", x, "0123", "441244123");

        due("paste(-1, 1)", x.paste(-1, 1), -1);
        due("paste(2, 1)", x.paste(2, 1), -1);
        due("paste(5, 1)", x.paste(5, 1), -1);
        due("paste(lowest, 1)", x.paste(LOWEST, 1), -1);
        due("paste(highest, 1)", x.paste(HIGHEST, 1), -1);
        due("paste(2, -1)", x.paste(2, -1), -1);
        due("paste(0, 0)", x.paste(0, 0), -2);
        due("paste(0, 64)", x.paste(0, 64), -2);
        due("paste(0, -1)", x.paste(0, -1), -2);
        due("paste(0, -63)", x.paste(0, -63), -2);
        due("paste(0, -64)", x.paste(0, -64), -2);
        due("paste(0, lowest)", x.paste(0, LOWEST), -2);
        due("paste(0, lowest + 1)", x.paste(0, LOWEST + 1), -2);
        due("paste(0, highest)", x.paste(0, HIGHEST), -2);
        due("paste(0, 5)", x.paste(0, 5), -2);
        due("paste(0, 64 * 1 + 4)", x.paste(0, 64 + 4), -2);
        due("paste(0, 64 * 3 + 2)", x.paste(0, 64 * 3 + 2), -2);
        due("paste(0, 64 * 4 + 1)", x.paste(0, 64 * 4 + 1), -2);
        due("paste(0, 64 * 5 + 1)", x.paste(0, 64 * 5 + 1), -2);
        dueDocuments("after refusals", x, "0123", "441244123");
        x.open();
        due("paste(2, 1) of an empty document", x.paste(2, 1), -2);

        FmIndex half = with("01234".repeat(6));
        due("paste(0, 30) to 60", half.paste(0, 30), 60);
        dueDocuments("full", half, "01234".repeat(12));
        due("paste(0, 1) over 60", half.paste(0, 1), -3);
        due("paste(0, 60) over 60", half.paste(0, 60), -3);
        due("paste(0, 61)", half.paste(0, 61), -2);
        due("paste(0, 63)", half.paste(0, 63), -2);
        due("paste(1, 1)", half.paste(1, 1), -1);
        half.pop();
        due("paste(0, 2) over 60", half.paste(0, 2), -3);
        due("paste(0, 1) to 60", half.paste(0, 1), 60);
        dueDocuments("full again", half, "01234".repeat(11) + "01230");

        FmIndex two = with("01234".repeat(6), "1");
        pattern(two, "10");
        due("paste(0, 30) over 60 in all", two.paste(0, 30), -3);
        due("paste(0, 29) to 60 in all", two.paste(0, 29), 60);
        due("the pattern stays: count()", two.count(), 1);
    }

    private static void open() {
        FmIndex x = new FmIndex();
        for (int have = 2; have <= 5; have++) {
            due("open()", x.open(), have);
        }
        x.push(2);
        due("open() with 5", x.open(), -1);
        dueDocuments("after the refusal", x, "", "", "", "", "2");
        x.close();
        due("open() after close", x.open(), 5);
        dueDocuments("a new one is empty", x, "", "", "", "", "");
        due("open() in a full object", with("1".repeat(60)).open(), 2);
        FmIndex asked = with("12");
        pattern(asked, "12");
        asked.open();
        due("the pattern stays: count()", asked.count(), 1);
    }

    private static void pop() {
        FmIndex x = with("34", "01");
        due("pop()", x.pop(), 1);
        due("pop()", x.pop(), 0);
        due("pop() of the empty last document", x.pop(), -1);
        dueDocuments("after pops", x, "34", "");
        pattern(x, "34");
        due("push(2) counts what is left", x.push(2), 3);
        x.close();
        due("pop() of the first document", x.pop(), 4);
        due("pop()", x.pop(), 3);
        due("pop() of nothing", x.pop(), -1);
        dueDocuments("empty", x, "");
        due("the pattern stays: forget()", x.forget(), 2);
    }

    private static void close() {
        FmIndex x = with("34", "", "012");
        pattern(x, "3");
        due("close()", x.close(), 3);
        dueDocuments("after one", x, "34", "");
        due("close() of an empty one", x.close(), 0);
        dueDocuments("after two", x, "34");
        due("close() of the only one", x.close(), 2);
        dueDocuments("after three", x, "");
        due("close() of the only one, empty", x.close(), 0);
        dueDocuments("after four", x, "");
        due("the pattern stays: forget()", x.forget(), 1);
        due("push(1) counts what is left", x.push(1), 1);
    }

    private static void documents() {
        FmIndex x = new FmIndex();
        due("documents()", x.documents(), 1);
        x.open();
        x.open();
        due("documents()", x.documents(), 3);
        x.push(1);
        due("documents()", x.documents(), 3);
        x.close();
        due("documents()", x.documents(), 2);
        x.close();
        x.close();
        due("documents()", x.documents(), 1);
    }

    private static void length() {
        FmIndex x = with("012", "", "4");
        due("length(0)", x.length(0), 3);
        due("length(1)", x.length(1), 0);
        due("length(2)", x.length(2), 1);
        due("length(3)", x.length(3), -1);
        due("length(5)", x.length(5), -1);
        due("length(-1)", x.length(-1), -1);
        due("length(lowest)", x.length(LOWEST), -1);
        due("length(highest)", x.length(HIGHEST), -1);
        due("length(0) of 60", with("2".repeat(60)).length(0), 60);
    }

    private static void symbolAt() {
        FmIndex x = with("012", "", "43");
        due("symbolAt(0)", x.symbolAt(0), 0);
        due("symbolAt(2)", x.symbolAt(2), 2);
        due("symbolAt(3)", x.symbolAt(3), -1);
        due("symbolAt(63)", x.symbolAt(63), -1);
        due("symbolAt(64)", x.symbolAt(64), -1);
        due("symbolAt(128)", x.symbolAt(128), 4);
        due("symbolAt(129)", x.symbolAt(129), 3);
        due("symbolAt(130)", x.symbolAt(130), -1);
        due("symbolAt(192)", x.symbolAt(192), -1);
        due("symbolAt(320)", x.symbolAt(320), -1);
        due("symbolAt(-1)", x.symbolAt(-1), -1);
        due("symbolAt(-64)", x.symbolAt(-64), -1);
        due("symbolAt(lowest)", x.symbolAt(LOWEST), -1);
        due("symbolAt(highest)", x.symbolAt(HIGHEST), -1);
        x.pop();
        due("symbolAt(129) after pop", x.symbolAt(129), -1);
        x.close();
        due("symbolAt(128) after close", x.symbolAt(128), -1);
        due("symbolAt(59) of 60", with("2".repeat(59) + "3").symbolAt(59), 3);
    }

    private static void ask() {
        FmIndex x = with("01234012");
        due("ask(5)", x.ask(5), -1);
        due("ask(-1)", x.ask(-1), -1);
        due("ask(lowest)", x.ask(LOWEST), -1);
        due("ask(highest)", x.ask(HIGHEST), -1);
        due("count() after refusals", x.count(), -1);
        for (int have = 1; have <= 8; have++) {
            due("ask", x.ask((have - 1) % 5), have);
        }
        due("count() of 8", x.count(), 1);
        due("ask(3) to 8", x.ask(3), -2);
        due("ask(5) to 8", x.ask(5), -1);
        due("count() after refusals", x.count(), 1);
        due("forget() after refusals", x.forget(), 8);
        due("ask(4) after forget", x.ask(4), 1);
        dueDocuments("the documents stay", x, "01234012");
    }

    private static void forget() {
        FmIndex x = with("01");
        due("forget() of nothing", x.forget(), 0);
        x.ask(0);
        x.ask(1);
        due("forget()", x.forget(), 2);
        due("count()", x.count(), -1);
        due("forget() again", x.forget(), 0);
        x.ask(1);
        due("count() of the new pattern", x.count(), 1);
        due("longestBegin() of the new pattern", x.longestBegin(), 1);
        dueDocuments("the documents stay", x, "01");
    }

    private static void count() {
        FmIndex x = with("0000", "00", "", "10");
        due("count() of no pattern", x.count(), -1);
        pattern(x, "0");
        due("count() of 0", x.count(), 7);
        pattern(x, "00");
        due("count() of 00, overlapping", x.count(), 4);
        pattern(x, "0000");
        due("count() of 0000", x.count(), 1);
        pattern(x, "00000");
        due("count() of 00000, not over a document's end", x.count(), 0);
        pattern(x, "01");
        due("count() of 01, not over a document's end", x.count(), 0);
        pattern(x, "3");
        due("count() of 3", x.count(), 0);
        pattern(x, "10");
        due("count() of 10", x.count(), 1);
        x.pop();
        due("count() after pop", x.count(), 0);
        FmIndex eight = with("0123401", "01234013");
        pattern(eight, "01234012");
        due("count() of 8, the last of them another", eight.count(), 0);
        FmIndex five = with("1", "01", "", "11", "1");
        pattern(five, "1");
        due("count() in 5 documents", five.count(), 5);
    }

    private static void occurrence() {
        FmIndex x = with("10101", "", "0", "101");
        due("occurrence(0) of no pattern", x.occurrence(0), -1);
        due("occurrence(-1) of no pattern", x.occurrence(-1), -1);
        pattern(x, "101");
        due("occurrence(0)", x.occurrence(0), 0);
        due("occurrence(1)", x.occurrence(1), 2);
        due("occurrence(2)", x.occurrence(2), 192);
        due("occurrence(3)", x.occurrence(3), -2);
        due("occurrence(-1)", x.occurrence(-1), -2);
        due("occurrence(lowest)", x.occurrence(LOWEST), -2);
        due("occurrence(highest)", x.occurrence(HIGHEST), -2);
        pattern(x, "0");
        due("occurrence(2) of 0", x.occurrence(2), 128);
        due("occurrence(3) of 0", x.occurrence(3), 193);
        pattern(x, "4");
        due("occurrence(0) of 4", x.occurrence(0), -2);
        FmIndex full = with("2".repeat(60));
        pattern(full, "2");
        due("occurrence(59) of 60", full.occurrence(59), 59);
        due("occurrence(60) of 60", full.occurrence(60), -2);
    }

    private static void countIn() {
        FmIndex x = with("0000", "", "100");
        due("countIn(0) of no pattern", x.countIn(0), -1);
        due("countIn(9) of no pattern", x.countIn(9), -1);
        pattern(x, "00");
        due("countIn(0)", x.countIn(0), 3);
        due("countIn(1)", x.countIn(1), 0);
        due("countIn(2)", x.countIn(2), 1);
        due("countIn(3)", x.countIn(3), -2);
        due("countIn(5)", x.countIn(5), -2);
        due("countIn(-1)", x.countIn(-1), -2);
        due("countIn(lowest)", x.countIn(LOWEST), -2);
        due("countIn(highest)", x.countIn(HIGHEST), -2);
        pattern(x, "10");
        due("countIn(0) of 10", x.countIn(0), 0);
        x.close();
        due("countIn(2) after close", x.countIn(2), -2);
    }

    private static void spread() {
        FmIndex x = with("0000", "", "100", "2", "00");
        due("spread() of no pattern", x.spread(), -1);
        pattern(x, "00");
        due("spread() of 00", x.spread(), 3);
        pattern(x, "2");
        due("spread() of 2", x.spread(), 1);
        pattern(x, "20");
        due("spread() of 20", x.spread(), 0);
        pattern(x, "0");
        x.close();
        due("spread() of 0 after close", x.spread(), 2);
    }

    private static void longestEnd() {
        FmIndex x = with("0123", "34", "23");
        due("longestEnd() of no pattern", x.longestEnd(), 0);
        pattern(x, "0123");
        due("longestEnd() of 0123", x.longestEnd(), 4);
        pattern(x, "3123");
        due("longestEnd() of 3123", x.longestEnd(), 3);
        pattern(x, "01234");
        due("longestEnd() of 01234, not over a document's end", x.longestEnd(), 2);
        pattern(x, "0103");
        due("longestEnd() of 0103", x.longestEnd(), 1);
        x.close();
        x.close();
        pattern(x, "01234");
        due("longestEnd() when the last does not occur", x.longestEnd(), 0);
        x.close();
        due("longestEnd() of nothing", x.longestEnd(), 0);
        FmIndex eight = with("0123401234");
        pattern(eight, "23401234");
        due("longestEnd() of 8", eight.longestEnd(), 8);
    }

    private static void longestBegin() {
        FmIndex x = with("0123", "34", "23");
        due("longestBegin() of no pattern", x.longestBegin(), 0);
        pattern(x, "0123");
        due("longestBegin() of 0123", x.longestBegin(), 4);
        pattern(x, "1230");
        due("longestBegin() of 1230", x.longestBegin(), 3);
        pattern(x, "12344");
        due("longestBegin() of 12344, not over a document's end", x.longestBegin(), 3);
        pattern(x, "3012");
        due("longestBegin() of 3012", x.longestBegin(), 1);
        x.close();
        x.close();
        pattern(x, "40123");
        due("longestBegin() when the first does not occur", x.longestBegin(), 0);
        x.close();
        due("longestBegin() of nothing", x.longestBegin(), 0);
        FmIndex eight = with("0123401234");
        pattern(eight, "23401234");
        due("longestBegin() of 8", eight.longestBegin(), 8);
    }

    private static FmIndex manyEqual() {
        return with("10", "010", "", "0", "10");
    }

    /** The rests of manyEqual: 0 at 1, 66, 192, 257; then 010 at 64; then 10 at 0, 65, 256. */
    private static final int[] ORDER = {1, 66, 192, 257, 64, 0, 65, 256};

    private static FmIndex manyAlike() {
        return with("021", "0122");
    }

    /** The rests of manyAlike: 0122, 021, 1, 122, 2, 21, 22. */
    private static final int[] ALIKE_ORDER = {64, 0, 2, 65, 67, 1, 66};

    private static FmIndex longAlike() {
        return with("2".repeat(29) + "3", "2".repeat(29) + "1");
    }

    /** Of the rests of longAlike 1, 21, 221, .. come first, then .., 2223, 223, 23, 3. */
    private static int longAlikeAt(int i) {
        return i < 30 ? 64 + 29 - i : i - 30;
    }

    private static void ranked() {
        FmIndex x = manyEqual();
        for (int i = 0; i < ORDER.length; i++) {
            due("ranked(" + i + ")", x.ranked(i), ORDER[i]);
        }
        due("ranked(8)", x.ranked(8), -1);
        due("ranked(-1)", x.ranked(-1), -1);
        due("ranked(lowest)", x.ranked(LOWEST), -1);
        due("ranked(highest)", x.ranked(HIGHEST), -1);
        x.close();
        due("ranked(5) after close", x.ranked(5), 65);
        due("ranked(6) after close", x.ranked(6), -1);
        FmIndex alike = manyAlike();
        for (int i = 0; i < ALIKE_ORDER.length; i++) {
            due("ranked(" + i + ") of rests alike", alike.ranked(i), ALIKE_ORDER[i]);
        }
        FmIndex longer = longAlike();
        for (int i = 0; i < 60; i++) {
            due("ranked(" + i + ") of long rests alike", longer.ranked(i), longAlikeAt(i));
        }
        due("ranked(0) of nothing", new FmIndex().ranked(0), -1);
        FmIndex full = with("2".repeat(60));
        due("ranked(0) of 60", full.ranked(0), 59);
        due("ranked(59) of 60", full.ranked(59), 0);
        due("ranked(60) of 60", full.ranked(60), -1);
    }

    private static void rankOf() {
        FmIndex x = manyEqual();
        for (int i = 0; i < ORDER.length; i++) {
            due("rankOf(" + ORDER[i] + ")", x.rankOf(ORDER[i]), i);
        }
        due("rankOf(2)", x.rankOf(2), -1);
        due("rankOf(128)", x.rankOf(128), -1);
        due("rankOf(320)", x.rankOf(320), -1);
        due("rankOf(-1)", x.rankOf(-1), -1);
        due("rankOf(-64)", x.rankOf(-64), -1);
        due("rankOf(lowest)", x.rankOf(LOWEST), -1);
        due("rankOf(highest)", x.rankOf(HIGHEST), -1);
        x.pop();
        due("rankOf(257) after pop", x.rankOf(257), -1);
        // What was 10 is 1 now, a beginning of the other two.
        due("rankOf(256) after pop", x.rankOf(256), 4);
        due("rankOf(0) after pop", x.rankOf(0), 5);
        // The symbol taken away is greater than the one it must not be compared with.
        FmIndex popped = with("10", "14");
        popped.pop();
        due("rankOf(64), a beginning of 10", popped.rankOf(64), 1);
        due("rankOf(0), 10 after 1", popped.rankOf(0), 2);
        FmIndex alike = manyAlike();
        for (int i = 0; i < ALIKE_ORDER.length; i++) {
            due("rankOf(" + ALIKE_ORDER[i] + ") of rests alike", alike.rankOf(ALIKE_ORDER[i]), i);
        }
        FmIndex longer = longAlike();
        for (int i = 0; i < 60; i++) {
            int place = longAlikeAt(i);
            due("rankOf(" + place + ") of long rests alike", longer.rankOf(place), i);
        }
    }

    private static void common() {
        FmIndex x = with("01012", "0101", "", "2");
        due("common(0, 64)", x.common(0, 64), 4);
        due("common(64, 0)", x.common(64, 0), 4);
        due("common(0, 2)", x.common(0, 2), 2);
        due("common(2, 66)", x.common(2, 66), 2);
        due("common(0, 1)", x.common(0, 1), 0);
        due("common(4, 192)", x.common(4, 192), 1);
        due("common(0, 0)", x.common(0, 0), 5);
        due("common(3, 3)", x.common(3, 3), 2);
        due("common(0, 5)", x.common(0, 5), -1);
        due("common(5, 0)", x.common(5, 0), -1);
        due("common(5, 5)", x.common(5, 5), -1);
        due("common(0, 128)", x.common(0, 128), -1);
        due("common(-1, 0)", x.common(-1, 0), -1);
        due("common(0, -1)", x.common(0, -1), -1);
        due("common(lowest, highest)", x.common(LOWEST, HIGHEST), -1);
        due("common(highest, lowest)", x.common(HIGHEST, LOWEST), -1);
        due("common(0, 320)", x.common(0, 320), -1);
        FmIndex full = with("2".repeat(60));
        due("common(0, 1) of 60", full.common(0, 1), 59);
        due("common(0, 0) of 60", full.common(0, 0), 60);
        FmIndex longer = longAlike();
        for (int p = 0; p < 30; p++) {
            due("common(" + p + ", 64) of long rests alike", longer.common(p, 64), 29 - p);
        }
    }

    private static void repeated() {
        due("repeated() of nothing", new FmIndex().repeated(), 0);
        due("repeated() of 01234", with("01234").repeated(), 0);
        due("repeated() of one symbol", with("3").repeated(), 0);
        due("repeated() of 00", with("00").repeated(), 1);
        due("repeated() of 01010, overlapping", with("01010").repeated(), 3);
        due("repeated() over documents", with("4012", "3012").repeated(), 3);
        due("repeated() of equal documents", with("01234", "", "01234").repeated(), 5);
        due("repeated() not over a document's end", with("0", "1", "01").repeated(), 1);
        due("repeated() of 60", with("2".repeat(60)).repeated(), 59);
        due("repeated() of long rests alike", longAlike().repeated(), 29);
        FmIndex x = with("01", "01");
        x.close();
        due("repeated() after close", x.repeated(), 0);
    }

    private static void different() {
        due("different() of nothing", new FmIndex().different(), 0);
        due("different() of one symbol", with("3").different(), 1);
        due("different() of 000", with("000").different(), 3);
        due("different() of 010: 0 1 01 10 010", with("010").different(), 5);
        due("different() of 01234", with("01234").different(), 15);
        due("different() of equal documents", with("010", "", "010").different(), 5);
        due("different() not over a document's end", with("0", "1").different(), 2);
        due("different() of 01 and 12: 0 1 2 01 12", with("01", "12").different(), 5);
        due("different() of 60", with("2".repeat(60)).different(), 60);
        // 29 rows of 2 alone, 30 that end in 3, 30 that end in 1.
        due("different() of long rests alike", longAlike().different(), 89);
        FmIndex x = with("0", "12");
        x.pop();
        due("different() after pop", x.different(), 2);
    }

    private static void extensions() {
        FmIndex x = with("0121", "3", "2", "41", "11");
        due("extensions() of no pattern", x.extensions(), 5);
        pattern(x, "1");
        due("extensions() of 1: 01 11 21 41", x.extensions(), 4);
        pattern(x, "2");
        due("extensions() of 2, not over a document's end", x.extensions(), 1);
        pattern(x, "0");
        due("extensions() of 0", x.extensions(), 0);
        pattern(x, "121");
        due("extensions() of 121", x.extensions(), 1);
        pattern(x, "10");
        due("extensions() of 10, which does not occur", x.extensions(), 0);
        due("extensions() of nothing", new FmIndex().extensions(), 0);
        FmIndex few = with("303", "", "33");
        due("extensions() of no pattern, few symbols", few.extensions(), 2);
        FmIndex nine = with("301234012", "401234012");
        pattern(nine, "01234012");
        due("extensions() of 8", nine.extensions(), 2);
        FmIndex full = with("2".repeat(59) + "4");
        due("extensions() of no pattern, 60 symbols", full.extensions(), 2);
        pattern(full, "4");
        due("extensions() at the 60th", full.extensions(), 1);
    }

    /** No question changes anything: told under the document's "Terms". */
    private static void questions() {
        FmIndex x = with("0102", "", "102");
        pattern(x, "10");
        for (int round = 0; round < 2; round++) {
            due("count()", x.count(), 2);
            due("occurrence(1)", x.occurrence(1), 128);
            due("countIn(0)", x.countIn(0), 1);
            due("spread()", x.spread(), 2);
            due("longestEnd()", x.longestEnd(), 2);
            due("longestBegin()", x.longestBegin(), 2);
            due("ranked(0)", x.ranked(0), 0);
            due("rankOf(128)", x.rankOf(128), 4);
            due("common(1, 128)", x.common(1, 128), 3);
            due("repeated()", x.repeated(), 3);
            due("different()", x.different(), 9);
            due("extensions()", x.extensions(), 1);
            dueDocuments("after the questions", x, "0102", "", "102");
        }
        due("forget()", x.forget(), 2);
    }

    /** The calls of README.md's example, with the answers it tells. */
    private static void readme() {
        FmIndex x = new FmIndex();
        due("push(0)", x.push(0), 1);
        due("push(1)", x.push(1), 2);
        due("paste(0, 64 * 0 + 2)", x.paste(0, 64 * 0 + 2), 4);
        due("open()", x.open(), 2);
        due("push(1)", x.push(1), 5);
        due("ask(0)", x.ask(0), 1);
        due("ask(1)", x.ask(1), 2);
        due("count()", x.count(), 2);
        due("occurrence(1)", x.occurrence(1), 2);
        due("occurrence(2)", x.occurrence(2), -2);
        due("spread()", x.spread(), 1);
        due("ranked(0)", x.ranked(0), 2);
        due("symbolAt(64)", x.symbolAt(64), 1);
        due("symbolAt(65)", x.symbolAt(65), -1);
        dueDocuments("README.md", x, "0101", "1");
    }

    public static void main(String[] args) {
        Runnable[] parts = {
            PromisesTest::newObject, PromisesTest::push, PromisesTest::paste,
            PromisesTest::open, PromisesTest::pop, PromisesTest::close,
            PromisesTest::documents, PromisesTest::length, PromisesTest::symbolAt,
            PromisesTest::ask, PromisesTest::forget, PromisesTest::count,
            PromisesTest::occurrence, PromisesTest::countIn, PromisesTest::spread,
            PromisesTest::longestEnd, PromisesTest::longestBegin, PromisesTest::ranked,
            PromisesTest::rankOf, PromisesTest::common, PromisesTest::repeated,
            PromisesTest::different, PromisesTest::extensions, PromisesTest::questions,
            PromisesTest::readme,
        };
        for (Runnable check : parts) {
            part++;
            check.run();
        }
        System.out.println(wrong == 0 ? "all answers are as due" : wrong + " answers are not as due");
        if (wrong != 0) {
            System.exit(1);
        }
    }
}
