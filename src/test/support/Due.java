/** What the tests share: objects made from texts, and questions whose answers are due. */
abstract class Due {
    static final int BAD = -1, NO = -2, FULL = -3;
    /** Wrong wherever a number from 0 on is wanted, and beyond each limit of the document. */
    static final int[] WRONG = {-1, Integer.MIN_VALUE, Integer.MAX_VALUE, 1000};
    static int wrong = 0;

    static void due(String what, long got, long want) {
        if (got != want) {
            wrong++;
            System.out.println(what + " answered " + got + ", due is " + want);
        }
    }

    static int[] outside(int least, int most) {
        return new int[] {Integer.MIN_VALUE, least - 1, most + 1, Integer.MAX_VALUE};
    }

    static void addText(SolidGroups x, int entry, String text) {
        for (int from = 0; from < text.length(); from += 8) {
            int till = Math.min(text.length(), from + 8);
            long number = 0;
            for (int i = till - 1; i >= from; i--) {
                number = number << 8 | text.charAt(i);
            }
            due("octets(" + entry + ", " + (till - from) + ", ..)", x.octets(entry, till - from, number), till);
        }
    }

    static int add(SolidGroups x, int kind, String text) {
        int entry = x.entry(kind);
        addText(x, entry, text);
        return entry;
    }

    /** Each text is an entry: its KIND, and behind it its bytes. */
    static SolidGroups with(String... texts) {
        SolidGroups x = new SolidGroups();
        for (String text : texts) {
            add(x, text.charAt(0) - '0', text.substring(1));
        }
        return x;
    }

    static SolidGroups packed(int bound, int way, String... texts) {
        SolidGroups x = with(texts);
        x.pack(bound, way);
        return x;
    }

    static void dueOrder(String what, SolidGroups x, int... want) {
        for (int i = 0; i < want.length; i++) {
            due(what + ": order(" + i + ")", x.order(i), want[i]);
        }
        due(what + ": order(" + want.length + ")", x.order(want.length), BAD);
    }

    static void dueGroups(String what, SolidGroups x, int... want) {
        for (int e = 0; e < want.length; e++) {
            due(what + ": group(" + e + ")", x.group(e), want[e]);
        }
    }

    static void dueTwins(String what, SolidGroups x, int... want) {
        for (int e = 0; e < want.length; e++) {
            due(what + ": twin(" + e + ")", x.twin(e), want[e]);
        }
    }

    static void duePlaces(String what, SolidGroups x, int... want) {
        for (int e = 0; e < want.length; e++) {
            due(what + ": place(" + e + ")", x.place(e), want[e]);
        }
    }

    static void dueAccess(String what, SolidGroups x, int... want) {
        for (int e = 0; e < want.length; e++) {
            due(what + ": access(" + e + ")", x.access(e), want[e]);
        }
    }

    static void dueMade(String what, SolidGroups x, int... want) {
        for (int g = 0; g < want.length; g++) {
            due(what + ": of(" + g + ", 5)", x.of(g, 5), want[g]);
        }
        due(what + ": count(2)", x.count(2), want.length);
    }

    static void dueText(String what, SolidGroups x, int entry, String want) {
        for (int i = 0; i < want.length(); i++) {
            due(what + ": open(" + entry + ", " + i + ")", x.open(entry, i), want.charAt(i));
        }
        due(what + ": open(" + entry + ", " + want.length() + ")", x.open(entry, want.length()), BAD);
    }

    /** Tokens are written "a" for a BYTE and "3:5" for a COPY of 5 from 3 back. */
    static void dueRow(String what, SolidGroups x, int group, String... want) {
        int size = 0;
        for (int i = 0; i < want.length; i++) {
            size += dueToken(what + ": token(" + group + ", " + i + ", ", x, group, i, want[i]);
        }
        due(what + ": tokens", x.of(group, 3), want.length);
        due(what + ": size", x.of(group, 4), size);
        due(what + ": token behind the last", x.token(group, want.length, 0), BAD);
    }

    private static int dueToken(String what, SolidGroups x, int group, int i, String want) {
        int colon = want.indexOf(':');
        boolean copy = colon > 0;
        due(what + "0)", x.token(group, i, 0), copy ? -1 : want.charAt(0));
        due(what + "1)", x.token(group, i, 1), copy ? Integer.parseInt(want.substring(0, colon)) : 0);
        due(what + "2)", x.token(group, i, 2), copy ? Integer.parseInt(want.substring(colon + 1)) : 1);
        return copy ? 3 : 1;
    }

    static void dueNothingPacked(String what, SolidGroups x) {
        for (int of = 1; of <= 3; of++) {
            due(what + ": count(" + of + ")", x.count(of), NO);
        }
        due(what + ": order(0)", x.order(0), NO);
        due(what + ": of(0, 0)", x.of(0, 0), NO);
        due(what + ": token(0, 0, 0)", x.token(0, 0, 0), NO);
        due(what + ": sum(0)", x.sum(0), NO);
    }

    static int shareThrows(SolidGroups x, int a, int b) {
        try {
            x.share(a, b);
            return 0;
        } catch (ArithmeticException e) {
            return 1;
        }
    }

    static void finish() {
        System.out.println(wrong == 0 ? "all answers are as due" : wrong + " answers are not as due");
        if (wrong != 0) {
            System.exit(1);
        }
    }
}
