import java.lang.reflect.Field;
import java.util.ArrayList;
import java.util.List;

// The sentences of "What it is", "The public face" and "Terms" that name a boundary, each by itself.
// Bytes such as '@', '`' and ' ' are multiples of 32, so each MARK of them is 0: entries of n and of
// m such bytes (2 at least) have the DISTANCE 2 |n - m|, and stand as if on a line.
public final class TermsBoundaryTest extends Due {
    private static String at(int n) {
        return "@".repeat(n);
    }

    /** So many bytes as of at(n), and of the DISTANCE 0 to them, but no TWIN. */
    private static String alsoAt(int n) {
        return "`" + "@".repeat(n - 1);
    }

    /** Bytes from..till - 1, of which no four are the same as four others. */
    private static String rising(int from, int till) {
        StringBuilder text = new StringBuilder();
        for (int b = from; b < till; b++) {
            text.append((char) b);
        }
        return text.toString();
    }

    /** One long text as entries of 60 bytes of KIND 0, the last one with the rest. */
    private static SolidGroups cutUp(String text) {
        SolidGroups x = new SolidGroups();
        for (int from = 0; from < text.length(); from += 60) {
            add(x, 0, text.substring(from, Math.min(text.length(), from + 60)));
        }
        return x;
    }

    // ---- What it is

    @Sentence(of = "What it is", says = "equal ones once")
    static void whatItIs_equalOnesOnce() {
        SolidGroups x = new SolidGroups();
        for (int e = 0; e < 30; e++) {
            add(x, 3, rising(1, 61));
        }
        due("pack", x.pack(400, 2), 1);
        due("KEPT", x.count(1), 1);
        due("SIZES", x.count(3), 60);
        due("bytes", x.of(0, 2), 60);
    }

    @Sentence(of = "What it is", says = "each entry opens by itself")
    static void whatItIs_eachEntryOpensByItself() {
        SolidGroups x = packed(400, 0, "0abcd", "0xabcdx", "0dxab", "0cdxabcd", "0");
        dueText("the last one first", x, 3, "cdxabcd");
        dueText("one before it", x, 1, "xabcdx");
        dueText("one of copies alone", x, 2, "dxab");
        dueText("the first", x, 0, "abcd");
    }

    @Sentence(of = "What it is", says = "a changed byte packs as little anew as may be")
    static void whatItIs_aChangedBytePacksAsLittleAnewAsMayBe() {
        SolidGroups x = packed(4, 0, "0abcd", "0efgh", "0ijkl", "1abcd");
        x.change(1, 0, 'z');
        dueMade("one of four", x, 0, 1, 0, 0);
    }

    @Sentence(of = "What it is", says = "An object is used for at most 512 calls after it has been made")
    static void whatItIs_atMost512Calls() {
        SolidGroups x = new SolidGroups();
        int calls = 0;
        for (; calls < 30; calls++) {
            x.entry(calls % 6);
        }
        for (; calls < 60; calls++) {
            x.octets(calls % 30, 8, calls * 0x0101010101010101L);
        }
        for (; calls < 510; calls++) {
            due("call " + (calls + 1), x.pack(1 + calls % 2 * 399, calls % 3), calls % 2 == 0 ? 30 : 6);
        }
        due("the 511th call", x.pack(16, 2), 18);
        due("the 512th call", x.count(1), 30);
    }

    @Sentence(of = "What it is", says = "what later calls answer is free")
    static void whatItIs_whatLaterCallsAnswerIsFree() {
        SolidGroups x = with("0abcd", "0abcd", "1");
        for (int calls = 0; calls < 5000; calls++) {
            x.pack(1 + calls % 400, calls % 3);
            x.change(calls % 2, calls % 4, calls % 256);
            x.entry(calls % 6);
            x.octets(calls % 30, 1 + calls % 8, calls);
        }
        due("it has no answer that is due, but it answers", x.count(0) == Integer.MIN_VALUE ? 1 : 0, 0);
    }

    // ---- The public face

    @Sentence(of = "The public face", says = "public static final int BAD = -1, NO = -2, FULL = -3;")
    static void thePublicFace_badNoFull() throws ReflectiveOperationException {
        due("BAD", SolidGroups.BAD, -1);
        due("NO", SolidGroups.NO, -2);
        due("FULL", SolidGroups.FULL, -3);
        for (Field field : SolidGroups.class.getFields()) {
            due("another constant: " + field.getName(), "BAD NO FULL".contains(field.getName()) ? 1 : 0, 1);
        }
        due("how many constants", SolidGroups.class.getFields().length, 3);
    }

    @Sentence(of = "The public face", says = "public int share(int a, int b) throws ArithmeticException;")
    static void thePublicFace_shareThrowsArithmeticException() throws ReflectiveOperationException {
        Class<?>[] thrown = SolidGroups.class.getMethod("share", int.class, int.class).getExceptionTypes();
        due("how many exceptions", thrown.length, 1);
        due("ArithmeticException", thrown.length == 1 && thrown[0] == ArithmeticException.class ? 1 : 0, 1);
    }

    // ---- Terms: the answers that refuse

    @Sentence(of = "Terms", says = "BAD (-1): a number is not as told")
    static void terms_badANumberIsNotAsTold() {
        SolidGroups x = packed(10, 0, "0abcd");
        for (int n : outside(0, 5)) {
            due("entry(" + n + ")", x.entry(n), -1);
            due("sum(" + n + ")", x.sum(n), -1);
            due("of(0, " + n + ")", x.of(0, n), -1);
        }
        for (int n : outside(1, 8)) {
            due("octets(0, " + n + ", 0)", x.octets(0, n, 0), -1);
        }
        for (int n : outside(0, 255)) {
            due("change(0, 0, " + n + ")", x.change(0, 0, n), -1);
        }
        for (int n : outside(1, 400)) {
            due("pack(" + n + ", 0)", x.pack(n, 0), -1);
        }
        for (int n : outside(0, 2)) {
            due("pack(1, " + n + ")", x.pack(1, n), -1);
            due("token(0, 0, " + n + ")", x.token(0, 0, n), -1);
        }
        for (int n : outside(0, 3)) {
            due("count(" + n + ")", x.count(n), -1);
        }
    }

    @Sentence(of = "Terms", says = "or there is no such thing")
    static void terms_badOrThereIsNoSuchThing() {
        SolidGroups x = packed(10, 0, "0abcd", "1efgh");
        for (int n : outside(0, 1)) {
            due("octets(" + n + ", 1, 0)", x.octets(n, 1, 0), -1);
            due("change(" + n + ", 0, 0)", x.change(n, 0, 0), -1);
            due("common(0, " + n + ")", x.common(0, n), -1);
            due("share(0, " + n + ")", x.share(0, n), -1);
            due("distance(0, " + n + ")", x.distance(0, n), -1);
            due("order(" + n + ")", x.order(n), -1);
            due("twin(" + n + ")", x.twin(n), -1);
            due("group(" + n + ")", x.group(n), -1);
            due("place(" + n + ")", x.place(n), -1);
            due("access(" + n + ")", x.access(n), -1);
            due("open(" + n + ", 0)", x.open(n, 0), -1);
            due("of(" + n + ", 0)", x.of(n, 0), -1);
            due("token(" + n + ", 0, 0)", x.token(n, 0, 0), -1);
        }
        for (int n : outside(0, 3)) {
            due("change(0, " + n + ", 0)", x.change(0, n, 0), -1);
            due("open(0, " + n + ")", x.open(0, n), -1);
            due("token(0, " + n + ", 0)", x.token(0, n, 0), -1);
        }
    }

    @Sentence(of = "Terms", says = "NO (-2): not now")
    static void terms_noNotNow() {
        SolidGroups x = with("0abcd");
        dueTenAnswer("before any pack", x, -2);
        x.pack(9, 0);
        x.octets(0, 1, 'e');
        dueTenAnswer("after octets", x, -2);
        x.pack(9, 0);
        x.entry(0);
        dueTenAnswer("after entry", x, -2);
        x.change(0, 0, 'z');
        dueTenAnswer("after change", x, -2);
    }

    private static void dueTenAnswer(String what, SolidGroups x, int want) {
        due(what + ": order", x.order(0), want);
        due(what + ": twin", x.twin(0), want);
        due(what + ": group", x.group(0), want);
        due(what + ": place", x.place(0), want);
        due(what + ": access", x.access(0), want);
        due(what + ": open", x.open(0, 0), want);
        due(what + ": of", x.of(0, 0), want);
        due(what + ": token", x.token(0, 0, 0), want);
        due(what + ": sum", x.sum(0), want);
        due(what + ": count", x.count(1), want);
    }

    @Sentence(of = "Terms", says = "FULL (-3)")
    static void terms_full() {
        SolidGroups x = full();
        due("entry", x.entry(5), -3);
        due("octets", x.octets(0, 1, 0), -3);
    }

    /** 30 entries, of which the first has 60 bytes, and the others none; they are PACKED. */
    private static SolidGroups full() {
        SolidGroups x = with("0" + rising(0, 60));
        for (int e = 1; e < 30; e++) {
            x.entry(e % 6);
        }
        x.pack(50, 0);
        return x;
    }

    @Sentence(of = "Terms", says = "of several the first one here")
    static void terms_ofSeveralTheFirstOneHere() {
        SolidGroups x = full();
        due("BAD and FULL: entry(6)", x.entry(6), BAD);
        due("BAD and FULL: entry(-1)", x.entry(-1), BAD);
        due("BAD and FULL: octets(0, 9, 0)", x.octets(0, 9, 0), BAD);
        due("BAD and FULL: octets(0, 1000, 0)", x.octets(0, 1000, 0), BAD);
        SolidGroups y = with("0abcd");
        due("BAD and NO: twin(1)", y.twin(1), BAD);
        due("BAD and NO: open(0, 4)", y.open(0, 4), BAD);
        due("BAD and NO: sum(6)", y.sum(6), BAD);
        due("BAD and NO: count(4)", y.count(4), BAD);
    }

    private interface Call {
        int on(SolidGroups x);
    }

    /** Two objects that are alike; one of them is asked what it refuses; then both must tell the same. */
    private static void dueUnchanged(String what, boolean packed, int want, Call call) {
        SolidGroups plain = fiveEntries(packed);
        SolidGroups asked = fiveEntries(packed);
        due(what, call.on(asked), want);
        String when = packed ? ", when packed: " : ", when nothing is packed: ";
        due(what + when + "all as before", allAnswers(plain).equals(allAnswers(asked)) ? 1 : 0, 1);
    }

    private static SolidGroups fiveEntries(boolean packed) {
        SolidGroups x = with("0abcd", "1xy", "0abcd", "0", "0abcd");
        if (packed) {
            x.pack(6, 1);
        }
        return x;
    }

    // The change tells the BOUND that holds, and the pack behind it tells the bytes in any state.
    private static List<Integer> allAnswers(SolidGroups x) {
        List<Integer> all = new ArrayList<>();
        askAll(x, all);
        all.add(x.change(4, 0, 'z'));
        askAll(x, all);
        all.add(x.pack(10, 0));
        askAll(x, all);
        return all;
    }

    private static void askAll(SolidGroups x, List<Integer> all) {
        for (int n = 0; n < 6; n++) {
            all.add(x.count(n));
            all.add(x.sum(n));
            all.add(x.order(n));
            all.add(x.twin(n));
            all.add(x.group(n));
            all.add(x.place(n));
            all.add(x.access(n));
            for (int i = 0; i < 5; i++) {
                all.add(x.open(n, i));
            }
        }
        for (int g = 0; g < 3; g++) {
            for (int n = 0; n < 6; n++) {
                all.add(x.of(g, n));
                all.add(x.token(g, n, 0));
            }
        }
    }

    @Sentence(of = "Terms", says = "they change nothing")
    static void terms_badChangesNothing() {
        for (boolean packed : new boolean[] {false, true}) {
            for (int n : outside(0, 5)) {
                dueUnchanged("entry(" + n + ")", packed, BAD, x -> x.entry(n));
                dueUnchanged("sum(" + n + ")", packed, BAD, x -> x.sum(n));
            }
            for (int n : outside(0, 4)) {
                dueUnchanged("octets(" + n + ", 1, 7)", packed, BAD, x -> x.octets(n, 1, 7));
                dueUnchanged("change(" + n + ", 0, 7)", packed, BAD, x -> x.change(n, 0, 7));
                dueUnchanged("common(0, " + n + ")", packed, BAD, x -> x.common(0, n));
                dueUnchanged("share(0, " + n + ")", packed, BAD, x -> x.share(0, n));
                dueUnchanged("distance(0, " + n + ")", packed, BAD, x -> x.distance(0, n));
                dueUnchanged("twin(" + n + ")", packed, BAD, x -> x.twin(n));
                dueUnchanged("group(" + n + ")", packed, BAD, x -> x.group(n));
                dueUnchanged("place(" + n + ")", packed, BAD, x -> x.place(n));
                dueUnchanged("access(" + n + ")", packed, BAD, x -> x.access(n));
            }
            for (int n : outside(1, 8)) {
                dueUnchanged("octets(0, " + n + ", 7)", packed, BAD, x -> x.octets(0, n, 7));
            }
            for (int n : outside(0, 3)) {
                dueUnchanged("change(0, " + n + ", 7)", packed, BAD, x -> x.change(0, n, 7));
                dueUnchanged("open(0, " + n + ")", packed, BAD, x -> x.open(0, n));
                dueUnchanged("count(" + n + ")", packed, BAD, x -> x.count(n));
            }
            for (int n : outside(0, 255)) {
                dueUnchanged("change(0, 0, " + n + ")", packed, BAD, x -> x.change(0, 0, n));
            }
            for (int n : outside(1, 400)) {
                dueUnchanged("pack(" + n + ", 0)", packed, BAD, x -> x.pack(n, 0));
            }
            for (int n : outside(0, 2)) {
                dueUnchanged("pack(400, " + n + ")", packed, BAD, x -> x.pack(400, n));
            }
            dueUnchanged("share(3, 3)", packed, 1, x -> shareThrows(x, 3, 3));
        }
        for (int n : outside(0, 2)) {
            dueUnchanged("order(" + n + ")", true, BAD, x -> x.order(n));
            dueUnchanged("of(" + n + ", 0)", true, BAD, x -> x.of(n, 0));
            dueUnchanged("token(0, 0, " + n + ")", true, BAD, x -> x.token(0, 0, n));
        }
    }

    @Sentence(of = "Terms", says = "they change nothing")
    static void terms_noChangesNothing() {
        dueUnchanged("order(0)", false, NO, x -> x.order(0));
        dueUnchanged("twin(0)", false, NO, x -> x.twin(0));
        dueUnchanged("group(0)", false, NO, x -> x.group(0));
        dueUnchanged("place(0)", false, NO, x -> x.place(0));
        dueUnchanged("access(0)", false, NO, x -> x.access(0));
        dueUnchanged("open(0, 0)", false, NO, x -> x.open(0, 0));
        dueUnchanged("of(0, 0)", false, NO, x -> x.of(0, 0));
        dueUnchanged("token(0, 0, 0)", false, NO, x -> x.token(0, 0, 0));
        dueUnchanged("sum(0)", false, NO, x -> x.sum(0));
        dueUnchanged("count(1)", false, NO, x -> x.count(1));
    }

    @Sentence(of = "Terms", says = "they change nothing")
    static void terms_fullChangesNothing() {
        SolidGroups x = full();
        due("entry", x.entry(0), FULL);
        due("still packed", x.count(2), 7);
        due("no more entries", x.count(0), 30);
        due("octets", x.octets(0, 8, -1), FULL);
        due("still packed", x.count(2), 7);
        dueText("no more bytes", x, 0, rising(0, 60));
        x.pack(50, 0);
        dueText("no more bytes, packed again", x, 0, rising(0, 60));
        SolidGroups y = packed(60, 0, "0" + rising(0, 59));
        due("octets of which one byte has room", y.octets(0, 2, -1), FULL);
        dueText("not even the one", y, 0, rising(0, 59));
        due("the one by itself", y.octets(0, 1, 59), 60);
    }

    // ---- Terms: entries, marks and what two have

    @Sentence(of = "Terms", says = "ENTRIES (30)")
    static void terms_entries30() {
        SolidGroups x = new SolidGroups();
        for (int e = 0; e < 30; e++) {
            due("entry " + e, x.entry(0), e);
        }
        due("one more", x.entry(0), FULL);
        due("the last one", x.octets(29, 1, 'a'), 1);
        due("none behind it", x.octets(30, 1, 'a'), BAD);
    }

    @Sentence(of = "Terms", says = "KIND (0 .. 5)")
    static void terms_kind0To5() {
        SolidGroups x = packed(9, 0, "5a", "0a");
        due("the least", x.of(0, 0), 0);
        due("the greatest", x.of(1, 0), 5);
        due("too small", x.entry(-1), BAD);
        due("too large", x.entry(6), BAD);
    }

    @Sentence(of = "Terms", says = "BYTES (0 .. 255, 60 at most)")
    static void terms_bytes0To255() {
        SolidGroups x = new SolidGroups();
        x.entry(0);
        x.octets(0, 4, 0x80FF007FL);
        x.pack(9, 0);
        dueText("as they came", x, 0, "\u007f\u0000\u00ff\u0080");
        due("to the least", x.change(0, 0, 0), 0x7f);
        due("to the greatest", x.change(0, 1, 255), 0);
        due("too small", x.change(0, 0, -1), BAD);
        due("too large", x.change(0, 0, 256), BAD);
        dueText("as they are now", x, 0, "\u0000\u00ff\u00ff\u0080");
    }

    @Sentence(of = "Terms", says = "BYTES (0 .. 255, 60 at most)")
    static void terms_bytes60AtMost() {
        SolidGroups x = with("0" + rising(0, 59));
        due("60", x.octets(0, 1, 59), 60);
        due("61", x.octets(0, 1, 60), FULL);
        x.pack(1, 0);
        dueText("all of them", x, 0, rising(0, 60));
    }

    @Sentence(of = "Terms", says = "for each place with two bytes behind it one")
    static void terms_marksForEachPlaceWithTwoBytesBehindIt() {
        int[] lengths = {0, 1, 2, 3, 4, 60};
        int[] marks = {0, 0, 0, 1, 2, 58};
        for (int k = 0; k < lengths.length; k++) {
            due("of " + lengths[k] + " bytes", with("0" + at(lengths[k])).common(0, 0), marks[k]);
        }
        SolidGroups x = with("0\1\0\0\0", "0\0\0\0\1", "0\1\0\0", "0\0\0\1");
        due("the first place", x.common(0, 2), 1);
        due("the last place", x.common(1, 3), 1);
        due("no place across the end", x.common(0, 3), 0);
        due("no place before the first", x.common(1, 2), 0);
    }

    @Sentence(of = "Terms", says = "(7 x + 5 y + 3 z) modulo 32")
    static void terms_marksModulo32() {
        // 7 * 32 is 0; 3 * 21 and 7 * 9 are 31; 3 * 11 is 1, as is 7 * 23; 15 * 255 is 17, as is 3 * 27.
        SolidGroups x = with("0\0\0\0", "0\40\0\0", "0\0\0\25", "0\11\0\0", "0\0\0\13", "0\27\0\0",
                "0\377\377\377", "0\0\0\33");
        due("32 is 0", x.common(0, 1), 1);
        due("31", x.common(2, 3), 1);
        due("31 is not 0", x.common(0, 2), 0);
        due("33 is 1", x.common(4, 5), 1);
        due("1 is not 0", x.common(0, 4), 0);
        due("the greatest", x.common(6, 7), 1);
        due("17 is not 1", x.common(4, 6), 0);
        SolidGroups y = with("0\0\7\0", "0\0\0\1", "0\5\0\0");
        due("5 * 7 is 3", y.common(0, 1), 1);
        due("7 * 5 is 3", y.common(1, 2), 1);
    }

    @Sentence(of = "Terms", says = "COMMON to two are, for each of the 32, the lesser number of such MARKS, together.")
    static void terms_commonTheLesserNumber() {
        SolidGroups x = with("0" + at(60), "1" + at(5), "2" + at(2), "3" + at(3) + "\1", "4aaa");
        due("58 and 3", x.common(0, 1), 3);
        due("3 and 58", x.common(1, 0), 3);
        due("3 and none", x.common(1, 2), 0);
        due("none and 3", x.common(2, 1), 0);
        due("one of two marks", x.common(3, 1), 1);
        due("with itself", x.common(0, 0), 58);
        due("none alike", x.common(0, 4), 0);
    }

    @Sentence(of = "Terms", says = "The DISTANCE of two: for each of the 32 the size of the difference of their numbers")
    static void terms_distanceSizeOfTheDifferenceOfNumbers() {
        SolidGroups x = with("0" + at(60), "0" + "\1".repeat(60), "0" + at(3), "0" + alsoAt(3), "0\1\1\1");
        due("no mark in common", x.distance(0, 1), 116);
        due("the same, asked the other way", x.distance(1, 0), 116);
        due("one mark each", x.distance(2, 4), 2);
        due("unlike bytes, like marks", x.distance(2, 3), 0);
        due("with itself", x.distance(0, 0), 0);
    }

    @Sentence(of = "Terms", says = "and the size of the difference of their lengths, together.")
    static void terms_distanceSizeOfTheDifferenceOfLengths() {
        SolidGroups x = with("0", "0a", "0ab", "0" + at(60));
        due("0 and 2", x.distance(0, 2), 2);
        due("2 and 0", x.distance(2, 0), 2);
        due("1 and 2", x.distance(1, 2), 1);
        due("0 and 60", x.distance(0, 3), 60 + 58);
        due("60 and 0", x.distance(3, 0), 60 + 58);
    }

    // ---- Terms: PACKED

    @Sentence(of = "Terms", says = "an entry that has KIND and BYTES of one before it (a lesser number) is the TWIN of the first such")
    static void terms_twinOfTheFirstSuch() {
        dueTwins("the first of them", packed(99, 0, "0ab", "0x", "0ab", "0ab"), 0, 1, 0, 0);
        dueTwins("another KIND", packed(99, 0, "0ab", "1ab", "1ab"), 0, 1, 1);
        dueTwins("one byte more, one less", packed(99, 0, "0ab", "0abc", "0a", "0"), 0, 1, 2, 3);
        dueTwins("the same bytes in another row", packed(99, 0, "0ab", "0ba"), 0, 1);
        dueTwins("no bytes", packed(99, 0, "0", "1", "0", "1"), 0, 1, 0, 1);
        String sixty = rising(7, 67);
        dueTwins("sixty bytes", packed(99, 0, "0" + sixty, "0" + sixty, "0" + sixty.substring(0, 59) + "!",
                "0!" + sixty.substring(1)), 0, 0, 2, 3);
    }

    @Sentence(of = "Terms", says = "all others are KEPT")
    static void terms_allOthersAreKept() {
        SolidGroups x = packed(99, 0, "0ab", "0x", "0ab", "0", "1", "0", "1ab");
        due("how many", x.count(1), 5);
        dueOrder("which", x, 0, 1, 3, 4, 6);
    }

    @Sentence(of = "Terms", says = "THE ORDER has the KEPT ones by KINDS")
    static void terms_orderByKinds() {
        String[] texts = {"5a", "0b", "4a", "1a", "3a", "2a", "0a", "5b"};
        for (int way = 0; way <= 2; way++) {
            dueOrder("way " + way, packed(99, way, texts), 1, 6, 3, 5, 4, 2, 0, 7);
        }
    }

    @Sentence(of = "Terms", says = "way 0 by numbers")
    static void terms_way0ByNumbers() {
        dueOrder("unlike ones", packed(99, 0, "0" + at(9), "0" + at(3), "0" + at(8), "0"), 0, 1, 2, 3);
    }

    @Sentence(of = "Terms", says = "THE CHAIN: the first by numbers")
    static void terms_chainTheFirstByNumbers() {
        dueOrder("from the midst", packed(99, 1, "0" + at(6), "0" + at(3), "0" + at(5)), 0, 2, 1);
        dueOrder("one alone", packed(99, 1, "0abc"), 0);
        dueOrder("none", packed(99, 1));
    }

    @Sentence(of = "Terms", says = "and again and again the nearest one to the last that came, of those that have not come")
    static void terms_chainTheNearestToTheLastThatCame() {
        dueOrder("to the last, not to the first", packed(99, 1, "0" + at(10), "0" + at(7), "0" + at(11), "0" + at(15),
                "0" + at(13)), 0, 2, 4, 3, 1);
    }

    @Sentence(of = "Terms", says = "(least DISTANCE, of like ones the least number)")
    static void terms_chainOfLikeOnesTheLeastNumber() {
        dueOrder("on both sides", packed(99, 1, "0" + at(6), "0" + at(8), "0" + at(4)), 0, 1, 2);
        dueOrder("at one place", packed(99, 1, "0" + at(6), "0" + at(9), "0" + at(4), "0" + alsoAt(4), "0" + alsoAt(9)),
                0, 2, 3, 1, 4);
        // Behind 0 comes 3, the nearest; from there 1 and 2 are as far as one another.
        dueOrder("when a later one has come", packed(99, 1, "0" + at(6), "0" + at(9), "0" + alsoAt(9), "0" + at(7)),
                0, 3, 1, 2);
    }

    // On a line the best rows go from one end to the other; the chain goes from the midst.
    private static final int[] LINE = {10, 12, 9, 14, 7, 16, 5, 3};

    private static SolidGroups onLine(int kind, int many) {
        SolidGroups x = new SolidGroups();
        for (int e = 0; e < many; e++) {
            add(x, kind, at(LINE[e]));
        }
        return x;
    }

    @Sentence(of = "Terms", says = "2: if they are 7 at most, of all rows of them that one with the least sum of DISTANCES of neighbours")
    static void terms_way2SevenAtMost() {
        SolidGroups x = onLine(4, 7);
        x.pack(400, 2);
        dueOrder("seven", x, 5, 3, 1, 0, 2, 4, 6);
        due("their sum", x.sum(4), 2 * (16 - 5));
        dueOrder("one", packed(99, 2, "0abc"), 0);
        dueOrder("none", packed(99, 2));
        dueOrder("none in one KIND", packed(99, 2, "0a", "2a"), 0, 1);
    }

    @Sentence(of = "Terms", says = "2: if they are 7 at most, of all rows of them that one with the least sum of DISTANCES of neighbours")
    static void terms_way2SevenKeptWithTwins() {
        SolidGroups x = onLine(4, 7);
        add(x, 4, at(10));
        add(x, 3, at(10));
        x.pack(400, 2);
        dueOrder("seven KEPT, a TWIN, another KIND", x, 8, 5, 3, 1, 0, 2, 4, 6);
    }

    @Sentence(of = "Terms", says = "of like ones that which comes first by numbers (the first place at which two are unlike, the lesser number)")
    static void terms_way2OfLikeOnesTheFirstByNumbers() {
        dueOrder("a row and its reverse", packed(99, 2, "0" + at(9), "0" + at(3)), 0, 1);
        dueOrder("a row and its reverse", packed(99, 2, "0" + at(5), "0" + at(8), "0" + at(2)), 1, 0, 2);
        dueOrder("at the first place", packed(99, 2, "0" + at(5), "0" + at(3), "0" + alsoAt(3), "0" + at(8)), 1, 2, 0, 3);
        dueOrder("in the midst", packed(99, 2, "0" + at(2), "0" + at(8), "0" + at(5), "0" + alsoAt(5)), 0, 2, 3, 1);
        dueOrder("at the end", packed(99, 2, "0" + at(2), "0" + at(8), "0" + at(5), "0" + alsoAt(8)), 0, 2, 1, 3);
        dueOrder("all at one place", packed(99, 2, "0@@@", "0`@@", "0@`@", "0@@`", "0``@", "0`@`", "0@``"),
                0, 1, 2, 3, 4, 5, 6);
    }

    @Sentence(of = "Terms", says = "else THE CHAIN")
    static void terms_way2ElseTheChain() {
        SolidGroups x = onLine(4, 8);
        x.pack(400, 2);
        dueOrder("eight", x, 0, 2, 4, 6, 7, 1, 3, 5);
        add(x, 1, at(6));
        add(x, 1, at(3));
        add(x, 1, at(9));
        x.pack(400, 2);
        dueOrder("eight, and three of another KIND", x, 9, 8, 10, 0, 2, 4, 6, 7, 1, 3, 5);
    }

    // ---- Terms: GROUPS

    @Sentence(of = "Terms", says = "a KEPT one goes into the latest GROUP, if that is of its KIND")
    static void terms_groupsLatestOfItsKind() {
        dueGroups("another KIND", packed(400, 0, "0a", "1a", "2"), 0, 1, 2);
        dueGroups("not an earlier one with room", packed(4, 0, "0a", "0abcd", "0ab", "0b"), 0, 1, 2, 2);
        dueGroups("a TWIN needs no room", packed(2, 0, "0ab", "0ab", "0ab", "1ab"), 0, 0, 0, 1);
    }

    @Sentence(of = "Terms", says = "and has then no more bytes than the BOUND")
    static void terms_groupsNoMoreBytesThanTheBound() {
        dueGroups("exactly the BOUND", packed(5, 0, "0ab", "0cde", "0"), 0, 0, 0);
        dueGroups("one more", packed(4, 0, "0ab", "0cde"), 0, 1);
        dueGroups("the least BOUND", packed(1, 0, "0a", "0", "0b", "0c"), 0, 0, 1, 2);
        SolidGroups x = cutUp(rising(0, 256) + rising(100, 244));
        due("the greatest BOUND: 400 bytes", x.pack(400, 0), 1);
        x.octets(6, 1, 7);
        due("the greatest BOUND: 401 bytes", x.pack(400, 0), 2);
    }

    @Sentence(of = "Terms", says = "else it begins one")
    static void terms_groupsElseItBeginsOne() {
        dueGroups("more than the BOUND by itself", packed(3, 0, "0abcd", "0efgh"), 0, 1);
        dueGroups("no bytes, behind one with too many", packed(3, 0, "0abcd", "0", "0efg"), 0, 1, 1);
        dueGroups("no bytes, as the first", packed(3, 0, "0", "0abcd", "0abc"), 0, 1, 2);
        due("no entries", packed(3, 0).count(2), 0);
    }

    @Sentence(of = "Terms", says = "In a GROUP entries stand one behind the other.")
    static void terms_groupsOneBehindTheOther() {
        SolidGroups x = packed(6, 0, "0abc", "0", "0de", "0f", "0g", "0");
        duePlaces("in two groups", x, 0, 3, 3, 5, 0, 3);
        due("bytes of the first", x.of(0, 2), 6);
        due("bytes of the second", x.of(1, 2), 1);
    }

    // ---- Terms: a ROW of TOKENS

    /** 400 bytes, of which the last four stand at the beginning, and no other four twice. */
    private static final String FROM_LAST_TO_FIRST =
            "\1\2\1\2" + rising(0, 256) + new StringBuilder(rising(10, 146)).reverse() + "\1\2\1\2";

    private static void dueRowOf(String text, String... want) {
        SolidGroups x = cutUp(text);
        x.pack(400, 0);
        dueRow(text.length() + " bytes \"" + text.substring(0, Math.min(20, text.length())) + "\"", x, 0, want);
    }

    @Sentence(of = "Terms", says = "A GROUP's ROW of TOKENS, for all its bytes from the first on")
    static void terms_rowForAllItsBytesFromTheFirstOn() {
        dueRow("no bytes", packed(9, 0, "0"), 0);
        dueRow("one byte", packed(9, 0, "0a"), 0, "a");
        dueRowOf("abcd1bcdefgh2abcdefgh", "a", "b", "c", "d", "1", "b", "c", "d", "e", "f", "g", "h", "2", "13:4", "9:4");
        dueRow("over the entries' ends", packed(9, 0, "0abc", "0", "0dab", "0cd"), 0, "a", "b", "c", "d", "4:4");
    }

    @Sentence(of = "Terms", says = "where at least 4 bytes")
    static void terms_rowAtLeast4Bytes() {
        dueRowOf("abc-abc", "a", "b", "c", "-", "a", "b", "c");
        dueRowOf("abcx-abcy", "a", "b", "c", "x", "-", "a", "b", "c", "y");
        dueRowOf("abcd-abcd", "a", "b", "c", "d", "-", "5:4");
        dueRowOf("abcd-abcdy", "a", "b", "c", "d", "-", "5:4", "y");
        dueRowOf("abcdabcd", "a", "b", "c", "d", "4:4");
    }

    @Sentence(of = "Terms", says = "(and those behind, as many as may be, 60 at most)")
    static void terms_rowAsManyAsMayBe60AtMost() {
        dueRowOf("abcdefg-abcdefg", "a", "b", "c", "d", "e", "f", "g", "-", "8:7");
        dueRowOf("a".repeat(60), "a", "1:59");
        dueRowOf("a".repeat(61), "a", "1:60");
        dueRowOf("a".repeat(62), "a", "1:60", "a");
        dueRowOf("a".repeat(64), "a", "1:60", "a", "a", "a");
        dueRowOf("a".repeat(65), "a", "1:60", "1:4");
        SolidGroups x = new SolidGroups();
        for (int length : new int[] {60, 59, 58, 57, 56, 55, 54, 1}) {
            add(x, 0, "a".repeat(length));
        }
        x.pack(400, 0);
        dueRow("400 alike", x, 0, "a", "1:60", "1:60", "1:60", "1:60", "1:60", "1:60", "1:39");
    }

    @Sentence(of = "Terms", says = "are the same as such that begin at a place before")
    static void terms_rowThatBeginAtAPlaceBefore() {
        dueRowOf("aaaa", "a", "a", "a", "a");
        SolidGroups x = packed(6, 0, "0abcdef", "0abcdeg", "1abcdef");
        for (int g = 0; g < 3; g++) {
            due("not in another GROUP", x.of(g, 4), 6);
        }
        SolidGroups y = cutUp(FROM_LAST_TO_FIRST);
        due("400 bytes", y.pack(400, 0), 1);
        due("tokens", y.of(0, 3), 397);
        due("from the last place to the first: a COPY", y.token(0, 396, 0), -1);
        due("how far back", y.token(0, 396, 1), 396);
        due("how many", y.token(0, 396, 2), 4);
    }

    @Sentence(of = "Terms", says = "(they may go on over the place at hand)")
    static void terms_rowTheyMayGoOnOverThePlaceAtHand() {
        dueRowOf("aaaaa", "a", "1:4");
        dueRowOf("abababa", "a", "b", "2:5");
        dueRowOf("abcabcabca-", "a", "b", "c", "3:7", "-");
    }

    @Sentence(of = "Terms", says = "a COPY: how far back, how many, of the longest")
    static void terms_rowOfTheLongest() {
        dueRowOf("abcde-abcd+abcde", "a", "b", "c", "d", "e", "-", "6:4", "+", "11:5");
        dueRowOf("abcd-abcde+abcde", "a", "b", "c", "d", "-", "5:4", "e", "+", "6:5");
    }

    @Sentence(of = "Terms", says = "of like ones the nearest")
    static void terms_rowOfLikeOnesTheNearest() {
        dueRowOf("abcd-abcd+abcd", "a", "b", "c", "d", "-", "5:4", "+", "5:4");
        dueRowOf("abcd-abcd+abcd*", "a", "b", "c", "d", "-", "5:4", "+", "5:4", "*");
        // The farther one has 70 bytes alike and the nearer one 65: 60 at most, so they are like ones.
        SolidGroups x = cutUp(rising(0, 70) + rising(0, 65) + "\310" + rising(0, 70));
        x.pack(400, 0);
        int[][] want = {{70, 60}, {70, 5}, {0, 1}, {66, 60}, {136, 10}};
        for (int t = 0; t < want.length; t++) {
            due("60 of 70: token " + t, x.token(0, 70 + t, 1), want[t][0]);
            due("60 of 70: token " + t, x.token(0, 70 + t, 2), want[t][1]);
        }
        due("60 of 70: tokens", x.of(0, 3), 75);
    }

    @Sentence(of = "Terms", says = "else the BYTE")
    static void terms_rowElseTheByte() {
        dueRowOf("\0\377\0\377", "\0", "\377", "\0", "\377");
        dueRowOf("a", "a");
        dueRowOf("abcdabc-", "a", "b", "c", "d", "a", "b", "c", "-");
    }

    @Sentence(of = "Terms", says = "A BYTE has SIZE 1, a COPY 3; a GROUP's SIZE is that of its TOKENS.")
    static void terms_sizes() {
        due("no TOKENS", packed(9, 0, "0").of(0, 4), 0);
        due("a BYTE", packed(9, 0, "0a").of(0, 4), 1);
        due("a BYTE and a COPY of 4", packed(9, 0, "0aaaaa").of(0, 4), 4);
        due("a BYTE and a COPY of 59", packed(99, 0, "0" + at(60)).of(0, 4), 4);
        SolidGroups x = cutUp(FROM_LAST_TO_FIRST);
        x.pack(400, 0);
        due("396 BYTES and a COPY", x.of(0, 4), 399);
    }

    // ---- Terms: a byte that is CHANGED

    @Sentence(of = "Terms", says = "is the entry a TWIN, it is that no more")
    static void terms_changedTwinIsThatNoMore() {
        SolidGroups x = packed(99, 0, "0abcd", "0abcd", "0abcd");
        x.change(1, 3, 'z');
        dueTwins("the changed one", x, 0, 1, 0);
        due("KEPT", x.count(1), 2);
        dueText("the changed one", x, 1, "abcz");
        x.change(1, 3, 'd');
        dueTwins("nor when it has its old bytes again", x, 0, 1, 0);
        dueText("the old bytes", x, 1, "abcd");
        x.change(2, 3, 'z');
        dueTwins("the other TWIN", x, 0, 1, 2);
        x.pack(99, 0);
        dueTwins("all PACKED again", x, 0, 0, 2);
    }

    @Sentence(of = "Terms", says = "is it KEPT and has TWINS, the least of these takes its place in the GROUP")
    static void terms_changedKeptTheLeastTwinTakesItsPlace() {
        SolidGroups x = packed(5, 0, "0uv", "0ab", "0w", "0xyz", "0ab", "0ab");
        dueOrder("before", x, 0, 1, 2, 3);
        x.change(1, 0, 'q');
        dueOrder("its place", x, 0, 4, 2, 3, 1);
        dueGroups("its GROUP", x, 0, 1, 0, 1, 0, 0);
        due("its byte", x.place(4), 2);
        due("the one behind", x.place(2), 4);
        dueText("the least TWIN", x, 4, "ab");
    }

    @Sentence(of = "Terms", says = "and is what the others are TWINS of")
    static void terms_changedKeptWhatTheOthersAreTwinsOf() {
        SolidGroups x = packed(99, 0, "0ab", "0x", "0ab", "0x", "0ab", "0ab");
        x.change(0, 0, 'q');
        dueTwins("three TWINS", x, 0, 1, 2, 1, 2, 2);
        x.change(2, 0, 'r');
        dueTwins("two TWINS", x, 0, 1, 2, 1, 4, 4);
        x.change(4, 0, 's');
        dueTwins("one TWIN", x, 0, 1, 2, 1, 4, 5);
        x.change(5, 0, 't');
        dueTwins("none", x, 0, 1, 2, 1, 4, 5);
        dueOrder("the last one had none and stays", x, 5, 1, 0, 2, 4);
    }

    @Sentence(of = "Terms", says = "in both cases the entry, with its new bytes, goes to the end of the last GROUP of its KIND")
    static void terms_changedGoesToTheEndOfTheLastGroupOfItsKind() {
        SolidGroups x = packed(6, 0, "1ab", "1cdefg", "1hi", "1j", "1ab", "2k", "0l");
        dueGroups("before", x, 1, 2, 3, 3, 1, 4, 0);
        x.change(4, 0, 'z');
        dueGroups("a TWIN: not into the first, where it was", x, 1, 2, 3, 3, 3, 4, 0);
        due("at the end", x.place(4), 3);
        dueText("with its new bytes", x, 4, "zb");
        SolidGroups y = packed(6, 0, "1ab", "1cdefg", "1hi", "1j", "1ab", "2k", "0l");
        y.change(0, 0, 'z');
        dueGroups("a KEPT one with a TWIN", y, 3, 2, 3, 3, 1, 4, 0);
        due("at the end", y.place(0), 3);
        dueText("with its new bytes", y, 0, "zb");
        SolidGroups z = packed(6, 0, "0ab", "0cd", "0ab");
        z.change(0, 1, 'z');
        dueOrder("the last one is the one where it was", z, 2, 1, 0);
        dueGroups("the last one is the one where it was", z, 0, 0, 0);
    }

    @Sentence(of = "Terms", says = "if that has no more bytes then than the BOUND")
    static void terms_changedNoMoreBytesThenThanTheBound() {
        SolidGroups x = packed(11, 0, "0abcd", "0xyz", "0abcd");
        x.change(2, 0, 'q');
        dueGroups("exactly the BOUND", x, 0, 0, 0);
        SolidGroups y = packed(10, 0, "0abcd", "0xyz", "0abcd");
        y.change(2, 0, 'q');
        dueGroups("one more", y, 0, 0, 1);
        SolidGroups z = packed(11, 0, "0abcd", "0xyz", "0abcd");
        z.pack(10, 0);
        z.change(0, 0, 'q');
        dueGroups("one more than the BOUND by which all are PACKED now", z, 1, 0, 0);
    }

    @Sentence(of = "Terms", says = "if that has no more bytes then than the BOUND")
    static void terms_changedNoMoreBytesThenThanTheGreatestBound() {
        SolidGroups x = cutUp(rising(0, 240) + rising(7, 67) + rising(0, 60) + rising(1, 41));
        x.pack(400, 0);
        due("340 bytes, and a TWIN of 60", x.of(0, 2), 340);
        x.change(0, 0, 200);
        due("400 bytes", x.of(0, 2), 400);
        due("one GROUP", x.count(2), 1);
        SolidGroups y = cutUp(rising(0, 240) + rising(7, 67) + rising(0, 60) + rising(1, 42));
        y.pack(400, 0);
        due("341 bytes, and a TWIN of 60", y.of(0, 2), 341);
        y.change(0, 0, 200);
        due("no 401 bytes", y.of(0, 2), 341);
        due("two GROUPS", y.count(2), 2);
    }

    @Sentence(of = "Terms", says = "else it is a GROUP of its own, behind the last one of its KIND (the numbers of those behind are 1 more)")
    static void terms_changedElseAGroupOfItsOwn() {
        SolidGroups x = packed(4, 0, "2abcd", "0e", "2abcd", "5f", "2ghij", "3k", "2abcd");
        dueGroups("before", x, 1, 0, 1, 4, 2, 3, 1);
        x.change(6, 0, 'z');
        dueGroups("a TWIN", x, 1, 0, 1, 5, 2, 4, 3);
        due("its KIND", x.of(3, 0), 2);
        due("its entries", x.of(3, 1), 1);
        due("its bytes", x.of(3, 2), 4);
        x.change(0, 0, 'y');
        dueGroups("a KEPT one, behind that", x, 4, 0, 1, 6, 2, 5, 3);
        due("how many", x.count(2), 7);
        SolidGroups y = packed(1, 0, "5ab", "5ab");
        y.change(1, 0, 'z');
        dueGroups("more than the BOUND by itself, of the last KIND", y, 0, 1);
    }

    @Sentence(of = "Terms", says = "Else it stays where it is.")
    static void terms_changedElseItStays() {
        SolidGroups x = packed(4, 0, "0ab", "0cd", "0ef", "0ab", "1abcde");
        x.change(1, 0, 'a');
        x.change(1, 1, 'b');
        dueTwins("KEPT, with the bytes of another now", x, 0, 1, 2, 0, 4);
        dueGroups("not into the last GROUP, which has room", x, 0, 0, 1, 0, 2);
        x.change(4, 0, 'z');
        dueGroups("in a GROUP that has more than the BOUND", x, 0, 0, 1, 0, 2);
        dueText("in a GROUP that has more than the BOUND", x, 4, "zbcde");
        x.change(3, 0, 'y');
        x.change(0, 0, 'x');
        dueGroups("its TWIN has left it", x, 0, 0, 1, 1, 2);
        dueOrder("at its place", x, 0, 1, 2, 3, 4);
    }

    @Sentence(of = "Terms", says = "The GROUP in which it is then has its ROW made anew: no other one.")
    static void terms_changedNoOtherRowMadeAnew() {
        SolidGroups x = packed(5, 0, "0abcd", "0efgh", "0ij", "0abcd", "1abcd", "0abcd");
        dueMade("before", x, 0, 0, 0, 0);
        x.change(2, 0, 'z');
        dueMade("where it stays", x, 0, 0, 1, 0);
        x.change(0, 0, 'z');
        dueMade("a GROUP of its own, not the one where it was", x, 0, 0, 1, 1, 0);
        x.change(5, 3, 'z');
        dueMade("once more", x, 0, 0, 1, 1, 1, 0);
        x.change(4, 3, 'z');
        dueMade("the one behind", x, 0, 0, 1, 1, 1, 1);
        SolidGroups y = packed(12, 0, "0abcd", "0abcd", "0ef");
        y.change(0, 3, 'z');
        dueMade("into the GROUP where it was: once", y, 1);
        dueRow("all of its bytes", y, 0, "a", "b", "c", "d", "e", "f", "a", "b", "c", "z");
    }

    @Sentence(of = "Terms", says = "(THE ORDER tells KEPT ones as they stand in GROUPS.)")
    static void terms_changedTheOrderTellsThemAsTheyStand() {
        SolidGroups x = packed(9, 2, "1" + at(5), "1" + at(2), "1" + at(5), "0ab", "0ab", "2c");
        dueOrder("before", x, 3, 0, 1, 5);
        x.change(4, 0, 'z');
        x.change(0, 0, 'z');
        dueOrder("after", x, 3, 4, 2, 1, 0, 5);
        due("the last GROUP of KIND 1", x.group(0), 2);
        due("the sum goes by it", x.sum(1), x.distance(2, 1) + x.distance(1, 0));
    }

    @Sentence(of = "Terms", says = "---- of what is PACKED (NO: nothing is; behind BAD).")
    static void terms_noBehindBad() {
        SolidGroups x = with("0abcd");
        for (int n : outside(0, 0)) {
            due("twin(" + n + ")", x.twin(n), BAD);
            due("group(" + n + ")", x.group(n), BAD);
            due("place(" + n + ")", x.place(n), BAD);
            due("access(" + n + ")", x.access(n), BAD);
            due("open(" + n + ", 0)", x.open(n, 0), BAD);
        }
        for (int n : outside(0, 3)) {
            due("open(0, " + n + ")", x.open(0, n), BAD);
            due("count(" + n + ")", x.count(n), BAD);
        }
        for (int n : outside(0, 5)) {
            due("sum(" + n + ")", x.sum(n), BAD);
        }
        dueTenAnswer("none of them BAD", x, NO);
    }

    public static void main(String[] args) {
        Sentences.run(TermsBoundaryTest.class, args);
    }
}
