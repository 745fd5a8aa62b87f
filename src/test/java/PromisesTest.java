// Each promise of the document by itself, with answers worked out by hand.
public final class PromisesTest extends Due {
    private static void newObject() {
        SolidGroups x = new SolidGroups();
        due("1: count(0)", x.count(0), 0);
        dueNothingPacked("1", x);
        due("1: twin(0)", x.twin(0), BAD);
        due("1: group(0)", x.group(0), BAD);
        due("1: place(0)", x.place(0), BAD);
        due("1: access(0)", x.access(0), BAD);
        due("1: open(0, 0)", x.open(0, 0), BAD);
        due("1: octets(0, 1, 0)", x.octets(0, 1, 0), BAD);
        due("1: change(0, 0, 0)", x.change(0, 0, 0), BAD);
        due("1: common(0, 0)", x.common(0, 0), BAD);
        due("1: share(0, 0)", x.share(0, 0), BAD);
        due("1: distance(0, 0)", x.distance(0, 0), BAD);
        SolidGroups other = new SolidGroups();
        x.entry(0);
        due("1: another object", other.count(0), 0);
    }

    private static void entry() {
        SolidGroups x = new SolidGroups();
        for (int kind : WRONG) {
            due("2: entry(" + kind + ")", x.entry(kind), BAD);
        }
        due("2: entry(6)", x.entry(6), BAD);
        for (int e = 0; e < 30; e++) {
            due("2: entry", x.entry(e % 6), e);
        }
        due("2: count(0)", x.count(0), 30);
        due("2: pack", x.pack(10, 0), 6);
        due("2: entry, the 31st", x.entry(0), FULL);
        due("2: entry(6), the 31st", x.entry(6), BAD);
        due("2: entry(-1), the 31st", x.entry(-1), BAD);
        due("2: refused ones change nothing", x.count(2), 6);
        due("2: refused ones add nothing", x.count(0), 30);
        for (int g = 0; g < 6; g++) {
            due("2: of(" + g + ", 0)", x.of(g, 0), g);
        }

        SolidGroups y = with("0abc");
        y.pack(10, 0);
        due("2: entry(6) when packed", y.entry(6), BAD);
        due("2: still packed", y.count(2), 1);
        due("2: entry(5) when packed", y.entry(5), 1);
        dueNothingPacked("2", y);
        due("2: no bytes", y.change(1, 0, 0), BAD);
    }

    private static void octets() {
        SolidGroups x = with("0");
        for (int n : WRONG) {
            due("3: octets(0, " + n + ", 0)", x.octets(0, n, 0), BAD);
            due("3: octets(" + n + ", 1, 0)", x.octets(n, 1, 0), BAD);
        }
        due("3: n 0", x.octets(0, 0, 1), BAD);
        due("3: n 9", x.octets(0, 9, 1), BAD);
        due("3: entry 1", x.octets(1, 1, 1), BAD);
        due("3: octets(0, 3, ..)", x.octets(0, 3, 0x77665544332211L), 3);
        due("3: octets(0, 8, ..)", x.octets(0, 8, 0xFF80030201C0FE7FL), 11);
        due("3: octets(0, 1, -1)", x.octets(0, 1, -1L), 12);
        x.pack(60, 0);
        int[] want = {0x11, 0x22, 0x33, 0x7F, 0xFE, 0xC0, 0x01, 0x02, 0x03, 0x80, 0xFF, 0xFF};
        for (int i = 0; i < want.length; i++) {
            due("3: open(0, " + i + ")", x.open(0, i), want[i]);
        }
        due("3: open(0, 12)", x.open(0, 12), BAD);
        due("3: when packed", x.octets(0, 8, 0), 20);
        dueNothingPacked("3", x);
        for (int have = 28; have <= 52; have += 8) {
            due("3: to " + have, x.octets(0, 8, 5), have);
        }
        due("3: to 57", x.octets(0, 5, 5), 57);
        x.pack(60, 0);
        due("3: 61 by 4", x.octets(0, 4, 5), FULL);
        due("3: 65 by 8", x.octets(0, 8, 5), FULL);
        due("3: BAD goes before FULL", x.octets(0, 9, 5), BAD);
        due("3: refused ones change nothing", x.count(2), 1);
        due("3: refused ones add nothing", x.of(0, 2), 57);
        due("3: to 60", x.octets(0, 3, 5), 60);
        due("3: 61 by 1", x.octets(0, 1, 5), FULL);
    }

    private static void changeRefusals() {
        SolidGroups x = with("0abc", "0");
        for (int n : WRONG) {
            due("4: entry " + n, x.change(n, 0, 1), BAD);
            due("4: byte " + n, x.change(0, n, 1), BAD);
            due("4: b " + n, x.change(0, 0, n), BAD);
        }
        due("4: entry 2", x.change(2, 0, 1), BAD);
        due("4: byte 3", x.change(0, 3, 1), BAD);
        due("4: byte 0 of none", x.change(1, 0, 1), BAD);
        due("4: b 256", x.change(0, 0, 256), BAD);
        due("4: to 255", x.change(0, 0, 255), 'a');
        due("4: to 0", x.change(0, 0, 0), 255);
        due("4: to 7", x.change(0, 0, 7), 0);
        due("4: the last byte", x.change(0, 2, 9), 'c');
        dueNothingPacked("4", x);
        x.pack(10, 0);
        due("4: the same byte", x.change(0, 0, 7), 7);
        due("4: refused b", x.change(0, 0, 256), BAD);
        dueMade("4: nothing made anew", x, 0);
        due("4: another byte", x.change(0, 1, 8), 'b');
        dueMade("4: made anew", x, 1);
        due("4: open(0, 0)", x.open(0, 0), 7);
        due("4: open(0, 1)", x.open(0, 1), 8);
        due("4: open(0, 2)", x.open(0, 2), 9);
    }

    private static void changeKept() {
        SolidGroups x = with("0abcdabcd", "0abcd", "1abcd", "0abcq");
        due("4: pack", x.pack(12, 0), 3);
        dueRow("4: before", x, 0, "a", "b", "c", "d", "4:8");
        due("4: change(1, 0, z)", x.change(1, 0, 'z'), 'a');
        dueOrder("4: it stays", x, 0, 1, 3, 2);
        dueMade("4: one group only", x, 1, 0, 0);
        dueRow("4: its row", x, 0, "a", "b", "c", "d", "4:4", "z", "b", "c", "d");
        due("4: change(3, 3, d)", x.change(3, 3, 'd'), 'q');
        due("4: change(3, 0, z)", x.change(3, 0, 'z'), 'a');
        dueTwins("4: an equal one is no twin", x, 0, 1, 2, 3);
        dueMade("4: the second one twice", x, 1, 2, 0);
        due("4: KEPT", x.count(1), 4);
        x.pack(12, 0);
        dueTwins("4: packed anew it is", x, 0, 1, 2, 1);
        dueMade("4: packed anew", x, 0, 0);
    }

    private static void changeTwin() {
        SolidGroups x = with("2abcd", "2xyz", "2abcd", "2abcd", "3abcd");
        due("4: pack", x.pack(11, 0), 2);
        dueTwins("4: before", x, 0, 1, 0, 0, 4);
        due("4: change(2, 0, A)", x.change(2, 0, 'A'), 'a');
        dueTwins("4: a twin no more", x, 0, 1, 2, 0, 4);
        dueOrder("4: at the end of its KIND", x, 0, 1, 2, 4);
        dueGroups("4: exactly the BOUND", x, 0, 0, 0, 0, 1);
        dueMade("4: the twin's group", x, 1, 0);
        due("4: place(2)", x.place(2), 7);
        dueText("4: the twin", x, 2, "Abcd");
        due("4: change(3, 1, B)", x.change(3, 1, 'B'), 'b');
        dueTwins("4: none left", x, 0, 1, 2, 3, 4);
        dueGroups("4: a group of its own", x, 0, 0, 0, 1, 2);
        dueMade("4: groups behind have 1 more", x, 1, 1, 0);
        dueOrder("4: behind the last of its KIND", x, 0, 1, 2, 3, 4);
        due("4: of(1, 0)", x.of(1, 0), 2);
        due("4: of(2, 0)", x.of(2, 0), 3);
        dueText("4: the other twin", x, 3, "aBcd");
        due("4: change(4, 0, z)", x.change(4, 0, 'z'), 'a');
        due("4: change(4, 0, y)", x.change(4, 0, 'y'), 'z');
        dueMade("4: the last group", x, 1, 1, 2);
    }

    private static void changeKeptWithTwins() {
        SolidGroups x = with("1abcd", "1mn", "1abcd", "1pqrs", "1abcd", "0q", "4q");
        due("4: pack", x.pack(6, 0), 4);
        dueGroups("4: before", x, 1, 1, 1, 2, 1, 0, 3);
        due("4: change(0, 3, D)", x.change(0, 3, 'D'), 'd');
        dueTwins("4: the least twin takes over", x, 0, 1, 2, 3, 2, 5, 6);
        dueOrder("4: in its place", x, 5, 2, 1, 3, 0, 6);
        dueGroups("4: the changed one goes to the end", x, 3, 1, 1, 2, 1, 0, 4);
        dueMade("4: no other one", x, 0, 0, 0, 1, 0);
        dueText("4: the changed one", x, 0, "abcD");
        dueText("4: the heir", x, 2, "abcd");
        dueText("4: its twin", x, 4, "abcd");
        due("4: place(2)", x.place(2), 0);
        due("4: place(1)", x.place(1), 4);
        due("4: change(2, 0, Z)", x.change(2, 0, 'Z'), 'a');
        dueTwins("4: the last of them", x, 0, 1, 2, 3, 4, 5, 6);
        dueOrder("4: once more", x, 5, 4, 1, 3, 0, 2, 6);
        dueMade("4: once more", x, 0, 0, 0, 1, 1, 0);
        due("4: change(4, 0, Y)", x.change(4, 0, 'Y'), 'a');
        dueMade("4: without twins it stays", x, 0, 1, 0, 1, 1, 0);
        dueOrder("4: without twins it stays", x, 5, 4, 1, 3, 0, 2, 6);

        SolidGroups y = with("0abcde", "0abcde");
        y.pack(10, 2);
        due("4: into the very group", y.change(0, 4, 'f'), 'e');
        dueOrder("4: into the very group", y, 1, 0);
        dueRow("4: into the very group", y, 0, "a", "b", "c", "d", "e", "5:4", "f");
        dueMade("4: into the very group", y, 1);
        due("4: place(0)", y.place(0), 5);
    }

    private static void packRefusals() {
        SolidGroups x = with("0abc");
        x.pack(5, 0);
        for (int n : WRONG) {
            due("5: bound " + n, x.pack(n, 0), BAD);
            due("5: way " + n, x.pack(5, n), BAD);
        }
        due("5: bound 0", x.pack(0, 0), BAD);
        due("5: bound 401", x.pack(401, 0), BAD);
        due("5: way 3", x.pack(5, 3), BAD);
        due("5: still packed", x.count(2), 1);
        x.octets(0, 1, 'd');
        due("5: bound 401", x.pack(401, 0), BAD);
        dueNothingPacked("5", x);
        due("5: bound 1", x.pack(1, 2), 1);
        due("5: bound 400", x.pack(400, 1), 1);
        SolidGroups none = new SolidGroups();
        due("5: no entries", none.pack(1, 0), 0);
        due("5: count(1)", none.count(1), 0);
        due("5: order(0)", none.order(0), BAD);
        due("5: of(0, 0)", none.of(0, 0), BAD);
        due("5: token(0, 0, 0)", none.token(0, 0, 0), BAD);
        due("5: sum(0)", none.sum(0), 0);
    }

    private static void packGroups() {
        SolidGroups x = with("3abcdefgh", "3", "0ab", "3ij", "0cd", "0e", "3kl", "3mn");
        due("5: pack(4, 0)", x.pack(4, 0), 5);
        dueOrder("5: by KINDS", x, 2, 4, 5, 0, 1, 3, 6, 7);
        dueGroups("5: groups", x, 2, 3, 0, 3, 0, 1, 3, 4);
        due("5: pack(8, 0)", x.pack(8, 0), 3);
        dueGroups("5: an empty one fits", x, 1, 1, 0, 2, 0, 0, 2, 2);
        due("5: pack(7, 0)", x.pack(7, 0), 3);
        dueGroups("5: an empty one behind a full one", x, 1, 2, 0, 2, 0, 0, 2, 2);

        SolidGroups y = with("0abc", "1abc", "0abc", "0", "0", "1abc", "0abd");
        due("5: twins", y.pack(400, 0), 2);
        dueTwins("5: KIND and BYTES", y, 0, 1, 0, 3, 3, 1, 6);
        due("5: KEPT", y.count(1), 4);
        due("5: KEPT in a group", y.of(0, 1), 3);
        due("5: KEPT bytes", y.of(0, 2), 6);

        String sixty = "0123456789".repeat(6);
        SolidGroups w = with("0" + sixty, "0" + sixty, "0" + sixty.substring(0, 59), "0" + sixty.substring(0, 59) + "8",
                "0" + sixty);
        due("5: of sixty bytes", w.pack(400, 0), 1);
        dueTwins("5: of sixty bytes", w, 0, 0, 2, 3, 0);
        dueRow("5: of sixty bytes", w, 0, "0", "1", "2", "3", "4", "5", "6", "7", "8", "9", "10:60", "10:49", "59:59", "8");
        due("13: of sixty bytes", w.access(4), 11);
        dueText("14: of sixty bytes", w, 4, sixty);

        SolidGroups z = new SolidGroups();
        for (int e = 0; e < 30; e++) {
            z.entry(0);
            for (int k = 0; k < 7; k++) {
                z.octets(e, 8, 0x0101010101010101L * (e + 1));
            }
            z.octets(e, 4, 0x0101010101010101L * (e + 1));
        }
        due("5: full, pack(400, 1)", z.pack(400, 1), 5);
        due("5: full, of(0, 1)", z.of(0, 1), 6);
        due("5: full, of(0, 2)", z.of(0, 2), 360);
        due("5: full, of(0, 3)", z.of(0, 3), 12);
        due("5: full, of(0, 4)", z.of(0, 4), 24);
        due("5: full, pack(1, 2)", z.pack(1, 2), 30);
    }

    // "aaaaa", "aaaa", ..: three-byte marks of one value alone, so distances tell by lengths.
    private static void packWays() {
        SolidGroups x = with("0aaaaaaaaa", "0aaa", "0aaaaaaa", "0aaaaaaaaaaa", "0aaaa");
        x.pack(400, 0);
        dueOrder("5: by numbers", x, 0, 1, 2, 3, 4);
        due("17: by numbers", x.sum(0), 12 + 8 + 8 + 14);
        x.pack(400, 1);
        dueOrder("5: chain, of like ones the least number", x, 0, 2, 4, 1, 3);
        due("17: chain", x.sum(0), 4 + 6 + 2 + 16);
        x.pack(400, 2);
        dueOrder("5: best, first by numbers", x, 1, 4, 2, 0, 3);
        due("17: best", x.sum(0), 2 + 6 + 4 + 4);
        due("17: another KIND", x.sum(1), 0);

        SolidGroups two = with("5aaaaaa", "5aaa");
        two.pack(400, 2);
        dueOrder("5: best of two alike", two, 0, 1);

        SolidGroups z = with("1aaaaaa", "1aaa", "1aaaaaaaaa", "1aaaa", "1aaaaa", "1aaaaaaa", "1aaaaaaaa");
        z.pack(400, 2);
        dueOrder("5: best of seven", z, 1, 3, 4, 0, 5, 6, 2);
        due("17: best of seven", z.sum(1), 12);
        z.entry(1);
        z.octets(7, 8, 0x6161616161616161L);
        z.octets(7, 2, 0x6161L);
        add(z, 0, "aaaaaa");
        add(z, 0, "aaa");
        add(z, 0, "aaaaaaaaaaaa");
        z.pack(400, 2);
        dueOrder("5: chain of eight, best of three", z, 9, 8, 10, 0, 4, 3, 1, 5, 6, 2, 7);
        due("17: chain of eight", z.sum(1), 6 + 8 + 6);
        due("17: best of three", z.sum(0), 18);
    }

    private static void packRows() {
        SolidGroups x = with("0abcabcabcabc");
        x.pack(400, 0);
        dueRow("16: over the place at hand", x, 0, "a", "b", "c", "3:9");
        x = with("0abcxabc");
        x.pack(400, 0);
        dueRow("16: three are too few", x, 0, "a", "b", "c", "x", "a", "b", "c");
        x = with("0abcdxabcd");
        x.pack(400, 0);
        dueRow("16: four are enough", x, 0, "a", "b", "c", "d", "x", "5:4");
        x = with("0abcd1abcd2abcd");
        x.pack(400, 0);
        dueRow("16: of like ones the nearest", x, 0, "a", "b", "c", "d", "1", "5:4", "2", "5:4");
        x = with("0abcd1abcd2abcd3");
        x.pack(400, 0);
        dueRow("16: the nearest, not at the end", x, 0, "a", "b", "c", "d", "1", "5:4", "2", "5:4", "3");
        x = with("0abcde1abcd2abcde");
        x.pack(400, 0);
        dueRow("16: the longest", x, 0, "a", "b", "c", "d", "e", "1", "6:4", "2", "11:5");
        x = with("0aaaaa");
        x.pack(400, 0);
        dueRow("16: one back", x, 0, "a", "1:4");
        x = with("0aaaa");
        x.pack(400, 0);
        dueRow("16: three of one", x, 0, "a", "a", "a", "a");
        x = with("0xaaaaaaaaaaaaaaaaaaaaaaaaaaaaaaaaaaaaaaaaaaaaaaaaaaaaaaaaaaa",
                "0aaaaaaaaa");
        x.pack(400, 0);
        dueRow("16: sixty at most", x, 0, "x", "a", "1:60", "1:7");
        x = with("0abcd", "0xabc", "0dq");
        x.pack(400, 0);
        dueRow("16: over entries", x, 0, "a", "b", "c", "d", "x", "5:4", "q");
        due("13: access(0)", x.access(0), 4);
        due("13: access(1)", x.access(1), 6);
        due("13: access(2)", x.access(2), 7);
        dueText("14: over entries", x, 1, "xabc");
        dueText("14: over entries", x, 2, "dq");
        x.pack(4, 0);
        dueRow("16: groups by themselves", x, 1, "x", "a", "b", "c");
    }

    private static void likeness() {
        // Marks: abc 1466, bcd 1481, cde 1496, bca and cab 1472, modulo 32: 26, 9, 24, 0 and 0.
        SolidGroups x = with("0abcd", "1bcde", "0", "0ab", "0abcabc", "0abc");
        due("6: common(0, 1)", x.common(0, 1), 1);
        due("6: common(1, 0)", x.common(1, 0), 1);
        due("6: common(0, 0)", x.common(0, 0), 2);
        due("6: common(0, 2)", x.common(0, 2), 0);
        due("6: common(3, 3)", x.common(3, 3), 0);
        due("6: common(4, 5)", x.common(4, 5), 1);
        due("6: common(4, 4)", x.common(4, 4), 4);
        due("7: share(0, 1)", x.share(0, 1), 33);
        due("7: share(0, 0)", x.share(0, 0), 100);
        due("7: share(0, 3)", x.share(0, 3), 0);
        due("7: share(3, 0)", x.share(3, 0), 0);
        due("7: share(4, 5)", x.share(4, 5), 25);
        due("8: distance(0, 1)", x.distance(0, 1), 2);
        due("8: distance(0, 0)", x.distance(0, 0), 0);
        due("8: distance(0, 2)", x.distance(0, 2), 6);
        due("8: distance(2, 3)", x.distance(2, 3), 2);
        due("8: distance(3, 2)", x.distance(3, 2), 2);
        due("8: distance(4, 5)", x.distance(4, 5), 3 + 3);
        due("7: no marks, (2, 3)", shareThrows(x, 2, 3), 1);
        due("7: no marks, (2, 2)", shareThrows(x, 2, 2), 1);
        due("7: no marks, (2, 6)", shareThrows(x, 2, 6), 0);
        for (int n : WRONG) {
            due("6: common(0, " + n + ")", x.common(0, n), BAD);
            due("6: common(" + n + ", 0)", x.common(n, 0), BAD);
            due("7: share(2, " + n + ")", x.share(2, n), BAD);
            due("7: share(" + n + ", 2)", x.share(n, 2), BAD);
            due("8: distance(0, " + n + ")", x.distance(0, n), BAD);
            due("8: distance(" + n + ", 0)", x.distance(n, 0), BAD);
        }
        due("6: common(0, 6)", x.common(0, 6), BAD);
        due("7: share(6, 0)", x.share(6, 0), BAD);
        due("8: distance(6, 6)", x.distance(6, 6), BAD);
        x.change(1, 0, 'q');
        due("6: after a change", x.common(0, 1), 0);
        due("8: after a change", x.distance(0, 1), 4);
        x.octets(1, 4, 'a' | 'b' << 8 | 'c' << 16 | 'd' << 24);
        due("6: after octets", x.common(0, 1), 2);
    }

    private static void marks() {
        SolidGroups x = with("0bca", "0cab", "0abc", "0bac", "0bcaca");
        due("6: unlike bytes, like marks", x.common(0, 1), 1);
        due("8: unlike bytes, like marks", x.distance(0, 1), 0);
        due("6: the place of a byte tells", x.common(2, 3), 0);
        due("6: the lesser number", x.common(0, 4), 1);
        SolidGroups y = new SolidGroups();
        int[][] triples = {{0, 0, 0}, {32, 64, 96}, {255, 255, 255}, {0, 0, 11}, {1, 0, 0}, {0, 0, 13}, {0, 1, 0},
            {0, 0, 23}};
        for (int e = 0; e < triples.length; e++) {
            y.entry(e % 6);
            y.octets(e, 3, triples[e][0] | triples[e][1] << 8 | triples[e][2] << 16);
        }
        // 3 * 11 is 1 modulo 32; 255 * 15 is 17; 3 * 13 is 7; 3 * 23 is 5.
        due("6: modulo 32", y.common(0, 1), 1);
        due("6: 17 is not 0", y.common(0, 2), 0);
        due("6: 1 is not 7", y.common(3, 4), 0);
        due("6: 7 x", y.common(4, 5), 1);
        due("6: 5 y", y.common(6, 7), 1);
        due("6: 5 is not 7", y.common(5, 7), 0);
    }

    private static void questionsRefused() {
        SolidGroups x = with("0abcd", "0abcd", "0");
        for (int packed = 0; packed < 2; packed++) {
            for (int n : WRONG) {
                due("10: twin(" + n + ")", x.twin(n), BAD);
                due("11: group(" + n + ")", x.group(n), BAD);
                due("12: place(" + n + ")", x.place(n), BAD);
                due("13: access(" + n + ")", x.access(n), BAD);
                due("14: open(" + n + ", 0)", x.open(n, 0), BAD);
                due("14: open(0, " + n + ")", x.open(0, n), BAD);
                due("17: sum(" + n + ")", x.sum(n), BAD);
                due("18: count(" + n + ")", x.count(n), BAD);
                int first = packed == 0 ? NO : BAD;
                due("9: order(" + n + ")", x.order(n), first);
                due("15: of(" + n + ", 0)", x.of(n, 0), first);
                due("15: of(0, " + n + ")", x.of(0, n), first);
                due("16: token(" + n + ", 0, 0)", x.token(n, 0, 0), first);
                due("16: token(0, " + n + ", 0)", x.token(0, n, 0), first);
                due("16: token(0, 0, " + n + ")", x.token(0, 0, n), first);
            }
            due("10: twin(3)", x.twin(3), BAD);
            due("11: group(3)", x.group(3), BAD);
            due("12: place(3)", x.place(3), BAD);
            due("13: access(3)", x.access(3), BAD);
            due("14: open(0, 4)", x.open(0, 4), BAD);
            due("14: open(2, 0)", x.open(2, 0), BAD);
            due("10: twin(1)", x.twin(1), packed == 0 ? NO : 0);
            due("11: group(1)", x.group(1), packed == 0 ? NO : 0);
            due("12: place(2)", x.place(2), packed == 0 ? NO : 4);
            due("13: access(2)", x.access(2), packed == 0 ? NO : 0);
            due("13: access(1)", x.access(1), packed == 0 ? NO : 4);
            due("14: open(1, 3)", x.open(1, 3), packed == 0 ? NO : 'd');
            due("18: count(0)", x.count(0), 3);
            due("18: count(1)", x.count(1), packed == 0 ? NO : 2);
            due("18: count(2)", x.count(2), packed == 0 ? NO : 1);
            due("18: count(3)", x.count(3), packed == 0 ? NO : 4);
            due("5: pack", x.pack(10, 0), 1);
        }
        due("15: of(1, 0)", x.of(1, 0), BAD);
        due("15: of(0, 6)", x.of(0, 6), BAD);
        due("16: token(0, 0, 3)", x.token(0, 0, 3), BAD);
        due("16: token(0, 4, 0)", x.token(0, 4, 0), BAD);
        due("16: token(1, 0, 0)", x.token(1, 0, 0), BAD);
        due("17: sum(6)", x.sum(6), BAD);
        due("9: order(2)", x.order(2), BAD);
    }

    private static void questions() {
        SolidGroups x = with("5abcd", "2wxyz", "5abcdabcd", "2wxyz", "5", "2pq", "5abcd");
        due("5: pack", x.pack(12, 0), 2);
        dueOrder("9", x, 1, 5, 0, 2, 4);
        dueTwins("10", x, 0, 1, 2, 1, 4, 5, 0);
        dueGroups("11", x, 1, 0, 1, 0, 1, 0, 1);
        int[] places = {0, 0, 4, 0, 12, 4, 0};
        int[] tokens = {4, 4, 5, 4, 0, 6, 4};
        String[] texts = {"abcd", "wxyz", "abcdabcd", "wxyz", "", "pq", "abcd"};
        for (int e = 0; e < 7; e++) {
            due("12: place(" + e + ")", x.place(e), places[e]);
            due("13: access(" + e + ")", x.access(e), tokens[e]);
            dueText("14", x, e, texts[e]);
        }
        int[][] of = {{2, 2, 6, 6, 6, 0}, {5, 3, 12, 5, 7, 0}};
        for (int what = 0; what < 6; what++) {
            due("15: of(0, " + what + ")", x.of(0, what), of[0][what]);
            due("15: of(1, " + what + ")", x.of(1, what), of[1][what]);
        }
        due("17: sum(2)", x.sum(2), 2 + 2);
        due("17: sum(5)", x.sum(5), x.distance(0, 2) + x.distance(2, 4));
        due("18: count(0)", x.count(0), 7);
        due("18: count(1)", x.count(1), 5);
        due("18: count(2)", x.count(2), 2);
        due("18: count(3)", x.count(3), 13);
        x.change(0, 0, 'z');
        dueOrder("9: after a change", x, 1, 5, 6, 2, 4, 0);
        due("17: after a change", x.sum(5), x.distance(6, 2) + x.distance(2, 4) + x.distance(4, 0));
        due("18: after a change", x.count(3), 17);
    }

    public static void main(String[] args) {
        due("BAD", SolidGroups.BAD, BAD);
        due("NO", SolidGroups.NO, NO);
        due("FULL", SolidGroups.FULL, FULL);
        newObject();
        entry();
        octets();
        changeRefusals();
        changeKept();
        changeTwin();
        changeKeptWithTwins();
        packRefusals();
        packGroups();
        packWays();
        packRows();
        likeness();
        marks();
        questionsRefused();
        questions();
        finish();
    }
}
