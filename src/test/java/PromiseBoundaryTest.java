// The sentences of "Promise 1" to "Promise 18" that name a boundary, each by itself.
// Bytes such as '@' are multiples of 32, so each MARK of them is 0.
public final class PromiseBoundaryTest extends Due {
    private static final String SIXTY = "0123456789abcdefghijklmnopqrstuvwxyzABCDEFGHIJKLMNOPQRSTUVWX";

    private static String at(int n) {
        return "@".repeat(n);
    }

    // ---- Promise 1: a new object

    @Sentence(of = "Promise 1", says = "No entries")
    static void promise01_noEntries() {
        with("0abcd", "1efgh");
        SolidGroups x = new SolidGroups();
        due("count(0)", x.count(0), 0);
        due("octets", x.octets(0, 1, 0), BAD);
        due("change", x.change(0, 0, 0), BAD);
        due("common", x.common(0, 0), BAD);
        due("share", x.share(0, 0), BAD);
        due("distance", x.distance(0, 0), BAD);
        due("twin", x.twin(0), BAD);
        due("group", x.group(0), BAD);
        due("place", x.place(0), BAD);
        due("access", x.access(0), BAD);
        due("open", x.open(0, 0), BAD);
        due("the first one's number", x.entry(0), 0);
    }

    @Sentence(of = "Promise 1", says = "nothing is PACKED")
    static void promise01_nothingIsPacked() {
        packed(9, 0, "0abcd");
        dueNothingPacked("new", new SolidGroups());
    }

    // ---- Promise 2: entry

    @Sentence(of = "Promise 2", says = "An entry without bytes")
    static void promise02_anEntryWithoutBytes() {
        SolidGroups x = with("0abcd");
        x.entry(0);
        due("change", x.change(1, 0, 0), BAD);
        due("its length", x.distance(0, 1), 4 + 2);
        x.pack(9, 0);
        due("open", x.open(1, 0), BAD);
        due("bytes of the GROUP", x.of(0, 2), 4);
        due("octets come as its first", x.octets(1, 1, 'z'), 1);
    }

    @Sentence(of = "Promise 2", says = "nothing is PACKED any more")
    static void promise02_nothingIsPackedAnyMore() {
        SolidGroups x = packed(9, 0, "0abcd");
        x.entry(0);
        dueNothingPacked("behind entry", x);
        due("twin(0)", x.twin(0), NO);
        due("group(0)", x.group(0), NO);
        due("place(0)", x.place(0), NO);
        due("access(0)", x.access(0), NO);
        due("open(0, 0)", x.open(0, 0), NO);
    }

    @Sentence(of = "Promise 2", says = "its number.")
    static void promise02_itsNumber() {
        SolidGroups x = new SolidGroups();
        due("a refused one", x.entry(6), BAD);
        for (int e = 0; e < 30; e++) {
            due("entry", x.entry(5 - e % 6), e);
        }
    }

    @Sentence(of = "Promise 2", says = "BAD: kind.")
    static void promise02_badKind() {
        SolidGroups x = new SolidGroups();
        for (int kind : outside(0, 5)) {
            due("entry(" + kind + ")", x.entry(kind), BAD);
        }
        due("none came", x.count(0), 0);
        due("the least", x.entry(0), 0);
        due("the greatest", x.entry(5), 1);
    }

    @Sentence(of = "Promise 2", says = "FULL.")
    static void promise02_full() {
        SolidGroups x = new SolidGroups();
        for (int e = 0; e < 29; e++) {
            x.entry(e % 6);
        }
        due("the 30th", x.entry(0), 29);
        x.pack(9, 0);
        for (int kind = 0; kind < 6; kind++) {
            due("the 31st", x.entry(kind), FULL);
        }
        due("how many", x.count(0), 30);
        due("still PACKED", x.count(2), 6);
        due("BAD goes before FULL", x.entry(6), BAD);
    }

    // ---- Promise 3: octets

    @Sentence(of = "Promise 3", says = "The n (1 .. 8) lowest bytes of a number")
    static void promise03_theNLowestBytes() {
        String bytes = "\210\167\146\125\104\63\42\21";
        for (int n = 1; n <= 8; n++) {
            SolidGroups x = with("0");
            due("octets(0, " + n + ", ..)", x.octets(0, n, 0x1122334455667788L), n);
            x.pack(9, 0);
            dueText(n + " bytes", x, 0, bytes.substring(0, n));
        }
    }

    @Sentence(of = "Promise 3", says = "the lowest one first")
    static void promise03_theLowestOneFirst() {
        SolidGroups x = with("0");
        x.octets(0, 8, Long.MIN_VALUE + 1);
        x.octets(0, 2, -256);
        x.pack(20, 0);
        dueText("of numbers below 0", x, 0, "\1\0\0\0\0\0\0\200\0\377");
    }

    @Sentence(of = "Promise 3", says = "come behind an entry's")
    static void promise03_comeBehindAnEntrys() {
        SolidGroups x = with("0a", "0");
        x.octets(0, 2, 'b' | 'c' << 8);
        x.octets(1, 1, 'x');
        x.octets(0, 1, 'd');
        x.pack(9, 0);
        dueText("of the one", x, 0, "abcd");
        dueText("of the other", x, 1, "x");
    }

    @Sentence(of = "Promise 3", says = "nothing is PACKED any more")
    static void promise03_nothingIsPackedAnyMore() {
        SolidGroups x = packed(9, 0, "0abcd");
        x.octets(0, 1, 'e');
        dueNothingPacked("behind octets", x);
        due("twin(0)", x.twin(0), NO);
        due("group(0)", x.group(0), NO);
        due("place(0)", x.place(0), NO);
        due("access(0)", x.access(0), NO);
        due("open(0, 4)", x.open(0, 4), NO);
    }

    @Sentence(of = "Promise 3", says = "how many it has")
    static void promise03_howManyItHas() {
        SolidGroups x = with("0", "0");
        due("none and 1", x.octets(0, 1, 0), 1);
        due("1 and 8", x.octets(0, 8, 0), 9);
        due("the other one's", x.octets(1, 2, 0), 2);
        due("9 and 8", x.octets(0, 8, 0), 17);
    }

    @Sentence(of = "Promise 3", says = "BAD: no such entry; n.")
    static void promise03_badNoSuchEntryOrN() {
        SolidGroups x = packed(9, 0, "0ab", "0");
        for (int entry : outside(0, 1)) {
            due("octets(" + entry + ", 1, 0)", x.octets(entry, 1, 0), BAD);
        }
        for (int n : outside(1, 8)) {
            due("octets(0, " + n + ", 0)", x.octets(0, n, 0), BAD);
        }
        due("still PACKED", x.count(1), 2);
        dueText("no byte came", x, 0, "ab");
        due("the least n", x.octets(1, 1, 0), 1);
        due("the greatest n", x.octets(1, 8, 0), 9);
    }

    @Sentence(of = "Promise 3", says = "FULL: more than 60.")
    static void promise03_fullMoreThan60() {
        SolidGroups x = with("0" + SIXTY.substring(0, 53));
        x.pack(60, 0);
        due("61 by 8", x.octets(0, 8, -1), FULL);
        due("still PACKED", x.count(2), 1);
        dueText("no byte came", x, 0, SIXTY.substring(0, 53));
        due("60 by 7", x.octets(0, 7, 0), 60);
        for (int n = 1; n <= 8; n++) {
            due("more by " + n, x.octets(0, n, 0), FULL);
        }
        SolidGroups y = with("0" + SIXTY.substring(0, 52));
        due("60 by 8", y.octets(0, 8, 0), 60);
        due("BAD goes before FULL", y.octets(0, 9, 0), BAD);
        due("BAD goes before FULL", y.octets(0, 0, 0), BAD);
    }

    // ---- Promise 4: change

    @Sentence(of = "Promise 4", says = "Byte i of an entry becomes b: what it was.")
    static void promise04_byteBecomesBWhatItWas() {
        SolidGroups x = with("0" + SIXTY, "1a");
        due("the first", x.change(0, 0, 255), '0');
        due("the last", x.change(0, 59, 0), 'X');
        due("the first again", x.change(0, 0, 7), 255);
        due("the last again", x.change(0, 59, 8), 0);
        due("the only one", x.change(1, 0, 9), 'a');
        x.pack(60, 0);
        dueText("all of them", x, 0, "\7" + SIXTY.substring(1, 59) + "\10");
        due("when PACKED", x.change(1, 0, 10), 9);
        dueText("when PACKED", x, 1, "\12");
        due("the marks go by it", x.distance(0, 1), 59 + 58);
    }

    @Sentence(of = "Promise 4", says = "(In what is PACKED it is CHANGED, if it is another one.)")
    static void promise04_changedIfItIsAnotherOne() {
        SolidGroups x = packed(9, 0, "0abcd", "0abcd", "0efgh");
        due("the same byte of a TWIN", x.change(1, 0, 'a'), 'a');
        due("the same byte of one with a TWIN", x.change(0, 3, 'd'), 'd');
        due("the same byte of another", x.change(2, 0, 'e'), 'e');
        dueTwins("as before", x, 0, 0, 2);
        dueOrder("as before", x, 0, 2);
        dueMade("no ROW made anew", x, 0);
        due("another byte", x.change(2, 0, 'z'), 'e');
        dueMade("a ROW made anew", x, 1);
    }

    @Sentence(of = "Promise 4", says = "(In what is PACKED it is CHANGED, if it is another one.)")
    static void promise04_whenNothingIsPacked() {
        SolidGroups x = with("0abcd", "0abcd", "0efgh");
        due("never PACKED", x.change(1, 0, 'z'), 'a');
        dueNothingPacked("never PACKED", x);
        x.pack(9, 0);
        x.entry(1);
        due("PACKED no more", x.change(1, 0, 'a'), 'z');
        dueNothingPacked("PACKED no more", x);
        x.pack(9, 0);
        dueTwins("PACKED again", x, 0, 0, 2, 3);
        dueMade("PACKED again", x, 0, 0);
    }

    @Sentence(of = "Promise 4", says = "BAD: no such entry, byte; b.")
    static void promise04_badNoSuchEntryByteOrB() {
        SolidGroups x = packed(9, 0, "0abcd", "0");
        for (int entry : outside(0, 1)) {
            due("change(" + entry + ", 0, 0)", x.change(entry, 0, 0), BAD);
        }
        for (int i : outside(0, 3)) {
            due("change(0, " + i + ", 0)", x.change(0, i, 0), BAD);
        }
        for (int b : outside(0, 255)) {
            due("change(0, 0, " + b + ")", x.change(0, 0, b), BAD);
        }
        due("byte 0 of none", x.change(1, 0, 0), BAD);
        dueText("as before", x, 0, "abcd");
        dueMade("as before", x, 0);
    }

    // ---- Promise 5: pack

    @Sentence(of = "Promise 5", says = "All are PACKED, by a BOUND and a way: how many GROUPS.")
    static void promise05_howManyGroups() {
        due("no entries", new SolidGroups().pack(1, 2), 0);
        due("one without bytes", with("3").pack(1, 1), 1);
        SolidGroups x = new SolidGroups();
        for (int e = 0; e < 30; e++) {
            x.entry(e / 5);
            x.octets(e, 2, e);
        }
        due("each by itself", x.pack(1, 0), 30);
        due("each by itself", x.pack(3, 1), 30);
        due("two by two", x.pack(4, 2), 18);
        due("by KINDS", x.pack(400, 0), 6);
    }

    @Sentence(of = "Promise 5", says = "All are PACKED, by a BOUND and a way: how many GROUPS.")
    static void promise05_packedAgain() {
        SolidGroups x = with("0" + at(6), "0" + at(3), "0" + at(5));
        due("way 0", x.pack(9, 0), 2);
        dueOrder("way 0", x, 0, 1, 2);
        due("way 1", x.pack(14, 1), 1);
        dueOrder("way 1", x, 0, 2, 1);
        x.change(0, 0, 'a');
        due("way 0 again", x.pack(5, 0), 3);
        dueMade("made anew since", x, 0, 0, 0);
        dueOrder("way 0 again", x, 0, 1, 2);
    }

    @Sentence(of = "Promise 5", says = "BAD: bound is not 1 .. 400")
    static void promise05_badBound() {
        SolidGroups x = with("0a", "0b");
        for (int bound : outside(1, 400)) {
            due("pack(" + bound + ", 0)", x.pack(bound, 0), BAD);
        }
        dueNothingPacked("refused", x);
        due("the least", x.pack(1, 0), 2);
        due("refused", x.pack(401, 0), BAD);
        due("as before", x.count(2), 2);
        due("the greatest", x.pack(400, 0), 1);
        due("refused", x.pack(0, 0), BAD);
        due("as before", x.count(2), 1);
    }

    @Sentence(of = "Promise 5", says = "way is not 0 .. 2.")
    static void promise05_badWay() {
        SolidGroups x = with("0" + at(6), "0" + at(3), "0" + at(7));
        for (int way : outside(0, 2)) {
            due("pack(9, " + way + ")", x.pack(9, way), BAD);
        }
        dueNothingPacked("refused", x);
        x.pack(400, 0);
        dueOrder("the least", x, 0, 1, 2);
        x.pack(400, 2);
        dueOrder("the greatest", x, 1, 0, 2);
        due("refused", x.pack(400, 3), BAD);
        due("refused", x.pack(400, -1), BAD);
        dueOrder("as before", x, 1, 0, 2);
    }

    // ---- Promises 6, 7 and 8: what two have

    @Sentence(of = "Promise 6", says = "COMMON to two entries")
    static void promise06_commonToTwoEntries() {
        SolidGroups x = with("0" + at(60), "5" + at(60), "0" + at(2), "0");
        for (int packed = 0; packed < 2; packed++) {
            due("all of them, of unlike KINDS", x.common(0, 1), 58);
            due("one has none", x.common(0, 2), 0);
            due("both have none", x.common(2, 3), 0);
            x.pack(400, 0);
        }
        x.change(1, 0, 1);
        due("one less", x.common(0, 1), 57);
    }

    @Sentence(of = "Promise 6", says = "BAD: no such entries.")
    static void promise06_badNoSuchEntries() {
        SolidGroups x = with("0abcd", "5abcd");
        for (int n : outside(0, 1)) {
            due("common(0, " + n + ")", x.common(0, n), BAD);
            due("common(" + n + ", 1)", x.common(n, 1), BAD);
            due("common(" + n + ", " + n + ")", x.common(n, n), BAD);
        }
        due("the first and the last", x.common(0, 1), 2);
        due("one and itself", x.common(1, 1), 2);
    }

    @Sentence(of = "Promise 7", says = "100 times COMMON by all MARKS of both less COMMON, cut off.")
    static void promise07_cutOff() {
        SolidGroups x = with("0" + at(3), "0" + at(4), "0" + at(5), "0aaa", "0" + at(60), "0" + at(59));
        due("1 by 3", x.share(0, 2), 33);
        due("2 by 3", x.share(1, 2), 66);
        due("57 by 58", x.share(4, 5), 98);
        due("1 by 58", x.share(0, 4), 1);
        due("0 by 2", x.share(0, 3), 0);
        due("1 by 1", x.share(0, 0), 100);
        due("58 by 58", x.share(4, 4), 100);
    }

    @Sentence(of = "Promise 7", says = "BAD (-1): no such entries.")
    static void promise07_badNoSuchEntries() {
        SolidGroups x = with("0", "5abcd");
        for (int n : outside(0, 1)) {
            due("share(0, " + n + ")", x.share(0, n), BAD);
            due("share(" + n + ", 0)", x.share(n, 0), BAD);
            due("share(1, " + n + ")", x.share(1, n), BAD);
            due("share(" + n + ", " + n + ")", x.share(n, n), BAD);
        }
    }

    @Sentence(of = "Promise 7", says = "ArithmeticException: both have none.")
    static void promise07_arithmeticExceptionBothHaveNone() {
        SolidGroups x = with("0", "0a", "0ab", "0abc");
        for (int a = 0; a < 3; a++) {
            for (int b = 0; b < 3; b++) {
                due("share(" + a + ", " + b + ") throws", shareThrows(x, a, b), 1);
            }
            due("share(" + a + ", 3)", x.share(a, 3), 0);
            due("share(3, " + a + ")", x.share(3, a), 0);
        }
        x.pack(9, 0);
        due("throws when PACKED", shareThrows(x, 0, 0), 1);
        due("and changes nothing", x.count(1), 4);
        x.octets(2, 1, 'c');
        due("has one now", x.share(2, 0), 0);
        due("has one now", x.share(2, 2), 100);
    }

    @Sentence(of = "Promise 8", says = "The DISTANCE of two entries")
    static void promise08_theDistanceOfTwoEntries() {
        SolidGroups x = with("0" + at(60), "5" + at(60), "0" + at(2), "0");
        for (int packed = 0; packed < 2; packed++) {
            due("of unlike KINDS", x.distance(0, 1), 0);
            due("one has no MARKS", x.distance(0, 2), 58 + 58);
            due("both have no MARKS", x.distance(2, 3), 2);
            x.pack(400, 0);
        }
        x.change(1, 0, 1);
        due("a MARK is another", x.distance(0, 1), 2);
    }

    @Sentence(of = "Promise 8", says = "BAD: no such entries.")
    static void promise08_badNoSuchEntries() {
        SolidGroups x = with("0abcd", "5");
        for (int n : outside(0, 1)) {
            due("distance(0, " + n + ")", x.distance(0, n), BAD);
            due("distance(" + n + ", 1)", x.distance(n, 1), BAD);
            due("distance(" + n + ", " + n + ")", x.distance(n, n), BAD);
        }
        due("the first and the last", x.distance(0, 1), 6);
        due("one and itself", x.distance(1, 1), 0);
    }

    // ---- Promise 9: order

    @Sentence(of = "Promise 9", says = "The i-th KEPT entry in THE ORDER")
    static void promise09_theIthKeptEntry() {
        SolidGroups x = new SolidGroups();
        for (int e = 0; e < 30; e++) {
            x.entry(5 - e / 5);
            x.octets(e, 1, e);
        }
        x.pack(2, 0);
        for (int i = 0; i < 30; i++) {
            due("order(" + i + ")", x.order(i), 25 - i / 5 * 5 + i % 5);
        }
        due("order(30)", x.order(30), BAD);
    }

    @Sentence(of = "Promise 9", says = "BAD: none such.")
    static void promise09_badNoneSuch() {
        SolidGroups x = packed(9, 0, "1ab", "0ab", "1ab", "1cd");
        due("the first", x.order(0), 1);
        due("the last", x.order(2), 3);
        for (int i : outside(0, 2)) {
            due("order(" + i + ")", x.order(i), BAD);
        }
        x.change(2, 0, 'z');
        due("one more KEPT", x.order(3), 2);
        due("none behind it", x.order(4), BAD);
        due("no entries", packed(9, 0).order(0), BAD);
    }

    @Sentence(of = "Promise 9", says = "(NO goes first here.)")
    static void promise09_noGoesFirst() {
        SolidGroups x = with("0ab");
        for (int i : outside(0, 0)) {
            due("order(" + i + ")", x.order(i), NO);
        }
        due("order(0)", x.order(0), NO);
        due("no entries", new SolidGroups().order(-1), NO);
    }

    // ---- Promises 10 to 14: of an entry

    @Sentence(of = "Promise 10", says = "The entry of which one is a TWIN, or itself.")
    static void promise10_orItself() {
        SolidGroups x = packed(9, 0, "0", "1", "0ab", "0", "1", "0ab", "0");
        dueTwins("without bytes too", x, 0, 1, 2, 0, 1, 2, 0);
        x.change(2, 0, 'z');
        dueTwins("itself when CHANGED", x, 0, 1, 2, 0, 1, 5, 0);
    }

    @Sentence(of = "Promise 10", says = "BAD: no such entry.")
    static void promise10_badNoSuchEntry() {
        SolidGroups x = with("0ab", "0ab");
        for (int n : outside(0, 1)) {
            due("before NO: twin(" + n + ")", x.twin(n), BAD);
        }
        due("twin(1)", x.twin(1), NO);
        x.pack(9, 0);
        for (int n : outside(0, 1)) {
            due("twin(" + n + ")", x.twin(n), BAD);
        }
        due("twin(1)", x.twin(1), 0);
    }

    @Sentence(of = "Promise 11", says = "The GROUP in which an entry (of a TWIN: its other) is.")
    static void promise11_ofATwinItsOther() {
        SolidGroups x = packed(2, 0, "1ab", "1cd", "1ab", "0", "1cd", "0");
        dueGroups("TWINS", x, 1, 2, 1, 0, 2, 0);
        x.change(0, 0, 'z');
        dueGroups("another one's TWIN now", x, 3, 2, 1, 0, 2, 0);
        x.change(4, 0, 'y');
        dueGroups("a TWIN no more", x, 3, 2, 1, 0, 4, 0);
    }

    @Sentence(of = "Promise 11", says = "BAD: no such entry.")
    static void promise11_badNoSuchEntry() {
        SolidGroups x = with("0ab", "0ab");
        for (int n : outside(0, 1)) {
            due("before NO: group(" + n + ")", x.group(n), BAD);
        }
        due("group(1)", x.group(1), NO);
        x.pack(9, 0);
        for (int n : outside(0, 1)) {
            due("group(" + n + ")", x.group(n), BAD);
        }
        due("group(1)", x.group(1), 0);
    }

    @Sentence(of = "Promise 12", says = "At which byte of its GROUP it begins, likewise.")
    static void promise12_atWhichByteLikewise() {
        SolidGroups x = packed(5, 0, "0", "0abc", "0de", "0fg", "0de", "0fg", "0");
        duePlaces("TWINS, and ones without bytes", x, 0, 0, 3, 0, 3, 0, 0);
        SolidGroups y = packed(5, 0, "0abcde", "0", "0f", "0");
        duePlaces("no bytes, at the end of a full GROUP", y, 0, 5, 0, 5);
        y.pack(400, 0);
        duePlaces("no bytes, in the midst", y, 0, 5, 5, 5);
    }

    @Sentence(of = "Promise 12", says = "BAD: no such entry.")
    static void promise12_badNoSuchEntry() {
        SolidGroups x = with("0ab", "0cd");
        for (int n : outside(0, 1)) {
            due("before NO: place(" + n + ")", x.place(n), BAD);
        }
        due("place(1)", x.place(1), NO);
        x.pack(9, 0);
        for (int n : outside(0, 1)) {
            due("place(" + n + ")", x.place(n), BAD);
        }
        due("place(1)", x.place(1), 2);
    }

    @Sentence(of = "Promise 13", says = "How many TOKENS of its GROUP are gone through, from the first on, till all of its bytes are there")
    static void promise13_tillAllOfItsBytesAreThere() {
        dueAccess("ends within a COPY", packed(99, 0, "0abcd", "0abcdab", "0cdabcd", "0abcd", "0x"), 4, 5, 5, 4, 6);
        dueAccess("ends where a TOKEN ends", packed(99, 0, "0abcd", "0a", "0bcd", "0xabcd", "0y"), 4, 5, 5, 7, 8);
        dueAccess("in another GROUP", packed(5, 0, "0abcd", "0efgh", "0i", "0j"), 4, 4, 5, 1);
        dueAccess("within a COPY of sixty", packed(99, 0, "0" + at(59), "0" + at(2), "0" + at(1)), 2, 2, 3);
    }

    @Sentence(of = "Promise 13", says = "(0, if it has none)")
    static void promise13_zeroIfItHasNone() {
        SolidGroups x = packed(99, 0, "0", "0abcd", "1abcd", "1", "1", "1ef", "0");
        dueAccess("the first, the last, in the midst, a TWIN", x, 0, 4, 4, 0, 0, 6, 0);
        dueAccess("alone", packed(1, 0, "0"), 0);
    }

    @Sentence(of = "Promise 13", says = "BAD: no such entry.")
    static void promise13_badNoSuchEntry() {
        SolidGroups x = with("0ab", "0");
        for (int n : outside(0, 1)) {
            due("before NO: access(" + n + ")", x.access(n), BAD);
        }
        due("access(0)", x.access(0), NO);
        due("access(1), which has no bytes", x.access(1), NO);
        x.pack(9, 0);
        for (int n : outside(0, 1)) {
            due("access(" + n + ")", x.access(n), BAD);
        }
    }

    @Sentence(of = "Promise 14", says = "Byte i of an entry, as its GROUP's TOKENS tell it.")
    static void promise14_asItsGroupsTokensTellIt() {
        SolidGroups x = packed(400, 0, "0\0\377\0\377\0\377", "0" + SIXTY, "0\377", "0" + SIXTY.substring(0, 59), "0a" + SIXTY.substring(1));
        dueText("a COPY over the place at hand", x, 0, "\0\377\0\377\0\377");
        dueText("BYTES", x, 1, SIXTY);
        dueText("one byte", x, 2, "\377");
        dueText("a COPY", x, 3, SIXTY.substring(0, 59));
        dueText("a COPY of a COPY", x, 4, "a" + SIXTY.substring(1));
    }

    @Sentence(of = "Promise 14", says = "BAD: no such entry, byte.")
    static void promise14_badNoSuchEntryByte() {
        SolidGroups x = with("0abcd", "0", "0abcd", "0efgh");
        for (int packed = 0; packed < 2; packed++) {
            for (int n : outside(0, 3)) {
                due("open(" + n + ", 0)", x.open(n, 0), BAD);
                due("open(0, " + n + ")", x.open(0, n), BAD);
                due("open(2, " + n + "), of a TWIN", x.open(2, n), BAD);
                due("open(3, " + n + "), behind others", x.open(3, n), BAD);
            }
            due("byte 0 of none", x.open(1, 0), BAD);
            due("the last byte", x.open(0, 3), packed == 0 ? NO : 'd');
            x.pack(99, 0);
        }
    }

    // ---- Promise 15: of

    @Sentence(of = "Promise 15", says = "Of a GROUP: 0 its KIND")
    static void promise15_of0ItsKind() {
        SolidGroups x = packed(1, 0, "5a", "0b", "5c", "5a");
        due("the first", x.of(0, 0), 0);
        due("the last", x.of(2, 0), 5);
        x.change(3, 0, 'z');
        due("one that came by a change", x.of(3, 0), 5);
    }

    @Sentence(of = "Promise 15", says = "1 how many entries")
    static void promise15_of1HowManyEntries() {
        SolidGroups x = packed(4, 0, "0", "0ab", "0cd", "0ab", "0e", "1");
        due("ones without bytes too, a TWIN not", x.of(0, 1), 3);
        due("one", x.of(1, 1), 1);
        due("one without bytes", x.of(2, 1), 1);
        x.change(3, 0, 'z');
        due("a TWIN no more", x.of(1, 1), 2);
        x.change(3, 0, 'y');
        due("it stays", x.of(1, 1), 2);
    }

    @Sentence(of = "Promise 15", says = "2 its bytes")
    static void promise15_of2ItsBytes() {
        SolidGroups x = packed(4, 0, "0ab", "0cd", "0ab", "1", "2" + SIXTY);
        due("as many as the BOUND", x.of(0, 2), 4);
        due("none", x.of(1, 2), 0);
        due("more than the BOUND", x.of(2, 2), 60);
        x.change(2, 0, 'z');
        due("of one that came by a change", x.of(1, 2), 2);
    }

    @Sentence(of = "Promise 15", says = "3 TOKENS, 4 SIZE")
    static void promise15_of3TokensOf4Size() {
        SolidGroups x = packed(400, 0, "0", "1a", "2aaaa", "3aaaaa", "4" + at(60), "5" + SIXTY);
        int[] tokens = {0, 1, 4, 2, 2, 60};
        int[] sizes = {0, 1, 4, 4, 4, 60};
        for (int g = 0; g < 6; g++) {
            due("of(" + g + ", 3)", x.of(g, 3), tokens[g]);
            due("of(" + g + ", 4)", x.of(g, 4), sizes[g]);
        }
        x.change(3, 4, 'z');
        due("TOKENS made anew", x.of(3, 3), 5);
        due("SIZE of them", x.of(3, 4), 5);
    }

    @Sentence(of = "Promise 15", says = "5 how often its ROW was made anew since all were PACKED")
    static void promise15_of5HowOftenMadeAnew() {
        SolidGroups x = packed(4, 0, "0abcd", "0efgh");
        dueMade("not yet", x, 0, 0);
        for (int k = 1; k <= 20; k++) {
            x.change(1, k % 4, k);
            due("after " + k, x.of(1, 5), k);
        }
        due("the other one", x.of(0, 5), 0);
        x.pack(4, 0);
        dueMade("all PACKED again", x, 0, 0);
    }

    @Sentence(of = "Promise 15", says = "(a GROUP that came by a change: 1 then)")
    static void promise15_of5AGroupThatCameByAChange() {
        SolidGroups x = packed(4, 0, "0abcd", "0abcd", "0abcd", "1e");
        x.change(3, 0, 'z');
        x.change(1, 0, 'z');
        dueMade("1 then", x, 0, 1, 1);
        x.change(1, 0, 'y');
        dueMade("one more", x, 0, 2, 1);
        x.change(0, 0, 'x');
        dueMade("another one", x, 0, 2, 1, 1);
        x.pack(4, 0);
        dueMade("all PACKED again", x, 0, 0, 0, 0);
    }

    @Sentence(of = "Promise 15", says = "BAD: another what.")
    static void promise15_badAnotherWhat() {
        SolidGroups x = packed(9, 0, "5abcd");
        for (int what : outside(0, 5)) {
            due("of(0, " + what + ")", x.of(0, what), BAD);
            due("of(1, " + what + ")", x.of(1, what), BAD);
        }
        due("the least", x.of(0, 0), 5);
        due("the greatest", x.of(0, 5), 0);
    }

    @Sentence(of = "Promise 15", says = "(NO goes first here; then BAD: no such GROUP.)")
    static void promise15_noGoesFirstThenBadNoSuchGroup() {
        SolidGroups x = with("0abcd", "1", "0efgh");
        for (int group : outside(0, 2)) {
            for (int what = 0; what <= 5; what++) {
                due("NO: of(" + group + ", " + what + ")", x.of(group, what), NO);
            }
        }
        x.pack(4, 0);
        for (int group : outside(0, 2)) {
            for (int what = 0; what <= 5; what++) {
                due("BAD: of(" + group + ", " + what + ")", x.of(group, what), BAD);
            }
        }
        x.pack(9, 0);
        due("a GROUP less", x.of(2, 0), BAD);
        due("no entries", packed(9, 0).of(0, 0), BAD);
    }

    @Sentence(of = "Promise 15", says = "NO goes first here")
    static void promise15_noGoesFirstOfAnotherWhatToo() {
        SolidGroups x = with("0abcd");
        for (int what : outside(0, 5)) {
            due("of(0, " + what + ")", x.of(0, what), NO);
            due("of(-1, " + what + ")", x.of(-1, what), NO);
        }
    }

    // ---- Promise 16: token

    @Sentence(of = "Promise 16", says = "Of TOKEN i of a GROUP: 0 its byte, or -1 for a COPY")
    static void promise16_token0ItsByteOrMinus1() {
        SolidGroups x = packed(9, 0, "0\0\377\377\377\377\377");
        due("the least byte", x.token(0, 0, 0), 0);
        due("the greatest byte", x.token(0, 1, 0), 255);
        due("a COPY", x.token(0, 2, 0), -1);
    }

    @Sentence(of = "Promise 16", says = "1 how far back, 2 how many (0, 1 for a BYTE)")
    static void promise16_token1HowFarBack2HowMany() {
        SolidGroups x = packed(99, 0, "0\0\1\1\1\1\1");
        due("a BYTE of 0: how far back", x.token(0, 0, 1), 0);
        due("a BYTE of 0: how many", x.token(0, 0, 2), 1);
        due("a BYTE of 1: how far back", x.token(0, 1, 1), 0);
        due("a BYTE of 1: how many", x.token(0, 1, 2), 1);
        due("the nearest and the fewest: how far back", x.token(0, 2, 1), 1);
        due("the nearest and the fewest: how many", x.token(0, 2, 2), 4);
        SolidGroups y = packed(400, 0, "0" + SIXTY, "0-+", "0" + SIXTY.substring(0, 58), "0YX");
        due("a long one: how far back", y.token(0, 62, 1), 62);
        due("a long one: how many", y.token(0, 62, 2), 58);
    }

    @Sentence(of = "Promise 16", says = "BAD: no such TOKEN, what.")
    static void promise16_badNoSuchTokenWhat() {
        SolidGroups x = packed(99, 0, "0abcdabcd", "1");
        for (int group : outside(0, 1)) {
            due("token(" + group + ", 0, 0)", x.token(group, 0, 0), BAD);
        }
        for (int i : outside(0, 4)) {
            due("token(0, " + i + ", 0)", x.token(0, i, 0), BAD);
        }
        for (int what : outside(0, 2)) {
            due("token(0, 0, " + what + ")", x.token(0, 0, what), BAD);
            due("token(0, 4, " + what + ")", x.token(0, 4, what), BAD);
        }
        due("the first TOKEN", x.token(0, 0, 0), 'a');
        due("the last TOKEN", x.token(0, 4, 2), 4);
        due("of a GROUP without TOKENS", x.token(1, 0, 1), BAD);
        x.pack(99, 1);
        x.change(0, 0, 'z');
        due("a TOKEN more", x.token(0, 7, 0), 'd');
        x.change(0, 0, 'a');
        due("a TOKEN less", x.token(0, 5, 0), BAD);
        due("no entries", packed(9, 0).token(0, 0, 0), BAD);
    }

    @Sentence(of = "Promise 16", says = "(NO goes first here.)")
    static void promise16_noGoesFirst() {
        SolidGroups x = with("0abcd");
        for (int n : outside(0, 3)) {
            due("token(" + n + ", 0, 0)", x.token(n, 0, 0), NO);
            due("token(0, " + n + ", 0)", x.token(0, n, 0), NO);
            due("token(0, 0, " + n + ")", x.token(0, 0, n), NO);
        }
        due("no entries", new SolidGroups().token(0, 0, 0), NO);
    }

    // ---- Promise 17: sum

    @Sentence(of = "Promise 17", says = "The sum of the DISTANCES of neighbours of a KIND in THE ORDER")
    static void promise17_sumOfNeighbours() {
        SolidGroups x = with("0" + at(6), "2" + at(9), "0" + at(3), "0" + at(6), "0" + at(7));
        for (int bound = 1; bound <= 400; bound += 399) {
            x.pack(bound, 0);
            due("by numbers, a TWIN not, GROUPS of " + bound, x.sum(0), 2 * (3 + 4));
            due("one alone", x.sum(2), 0);
            due("none", x.sum(1), 0);
            due("none of the last KIND", x.sum(5), 0);
        }
        x.pack(400, 2);
        due("the best", x.sum(0), 2 * 4);
        x.change(3, 0, '`');
        due("one more KEPT, behind the last", x.sum(0), 2 * (3 + 1 + 1));
        due("no entries", packed(9, 0).sum(0), 0);
    }

    @Sentence(of = "Promise 17", says = "BAD: no such KIND.")
    static void promise17_badNoSuchKind() {
        SolidGroups x = with("0abcd", "5");
        for (int kind : outside(0, 5)) {
            due("before NO: sum(" + kind + ")", x.sum(kind), BAD);
        }
        due("sum(0)", x.sum(0), NO);
        due("sum(5)", x.sum(5), NO);
        x.pack(9, 0);
        for (int kind : outside(0, 5)) {
            due("sum(" + kind + ")", x.sum(kind), BAD);
        }
    }

    // ---- Promise 18: count

    @Sentence(of = "Promise 18", says = "How many: 0 entries, 1 KEPT ones, 2 GROUPS, 3 all SIZES together")
    static void promise18_howMany() {
        SolidGroups none = packed(9, 0);
        for (int what = 0; what <= 3; what++) {
            due("no entries: count(" + what + ")", none.count(what), 0);
        }
        SolidGroups x = packed(5, 0, "0aaaaa", "0aaaaa", "0", "1", "5bcd", "5ef");
        int[] want = {6, 5, 3, 4 + 0 + 5};
        for (int what = 0; what <= 3; what++) {
            due("count(" + what + ")", x.count(what), want[what]);
        }
        x.change(1, 0, 'z');
        int[] then = {6, 6, 4, 4 + 5 + 0 + 5};
        for (int what = 0; what <= 3; what++) {
            due("a TWIN CHANGED: count(" + what + ")", x.count(what), then[what]);
        }
    }

    @Sentence(of = "Promise 18", says = "(1 to 3: NO, if nothing is PACKED)")
    static void promise18_noIfNothingIsPacked() {
        SolidGroups x = new SolidGroups();
        due("new: count(0)", x.count(0), 0);
        for (int what = 1; what <= 3; what++) {
            due("new: count(" + what + ")", x.count(what), NO);
        }
        x.pack(9, 0);
        x.entry(0);
        due("not any more: count(0)", x.count(0), 1);
        for (int what = 1; what <= 3; what++) {
            due("not any more: count(" + what + ")", x.count(what), NO);
        }
    }

    @Sentence(of = "Promise 18", says = "BAD: another what.")
    static void promise18_badAnotherWhat() {
        SolidGroups x = with("0abcd");
        for (int what : outside(0, 3)) {
            due("before NO: count(" + what + ")", x.count(what), BAD);
        }
        x.pack(9, 0);
        for (int what : outside(0, 3)) {
            due("count(" + what + ")", x.count(what), BAD);
        }
    }

    public static void main(String[] args) {
        Sentences.run(PromiseBoundaryTest.class, args);
    }
}
