/** The boundary cases that the promises 1 to 14 name, a test for each sentence. */
public final class PromisesBoundaryTest {
    private static final int SET = 0;
    private static final int USE = 1;
    private static final int IF = 2;
    private static final int END = 6;
    private static final int RETURN = 9;

    private static final int BAD_KIND = DefiniteUse.BAD_KIND;
    private static final int BAD_VARIABLE = DefiniteUse.BAD_VARIABLE;
    private static final int FULL = DefiniteUse.FULL;
    private static final int NOT_SOUND = DefiniteUse.NOT_SOUND;
    private static final int BAD_PLACE = DefiniteUse.BAD_PLACE;
    private static final Checks CHECKS = new Checks();

    // Kinds and variables of each of these show in the answers; two of them are not sound.
    private static final String NONE = "";
    private static final String SOME = "use0 set1 loop use2 if break else set3 end end use4 set5";
    private static final String OPEN = "use0 set1 loop use2 if";
    private static final String FORTY = times(6, "use0 set1 if set2 use3 end") + "set4 use5 set0 use1";
    private static final String FORTY_OPEN = times(39, "use0") + "if";
    private static final String[] PROGRAMS = {NONE, SOME, OPEN, FORTY, FORTY_OPEN};

    public static void main(String[] args) {
        addAndNewObject();
        changeAndDrop();
        asking();
        order();
        CHECKS.finish();
    }

    private static void addAndNewObject() {
        CHECKS.sentence("1: No tokens", PromisesBoundaryTest::newHasNoTokens);
        CHECKS.sentence("1: A program without tokens is sound", PromisesBoundaryTest::withoutTokensSound);
        CHECKS.sentence("2: v is looked at for SET and USE only", PromisesBoundaryTest::addLooksAtVariable);
        CHECKS.sentence("2: kind not in 0 to 9: BAD_KIND, too small", () -> addBadKind(false));
        CHECKS.sentence("2: kind not in 0 to 9: BAD_KIND, too large", () -> addBadKind(true));
        CHECKS.sentence("2: v not in 0 to 5: BAD_VARIABLE, too small", () -> addBadVariable(false));
        CHECKS.sentence("2: v not in 0 to 5: BAD_VARIABLE, too large", () -> addBadVariable(true));
        CHECKS.sentence("2: there are forty: FULL", PromisesBoundaryTest::addFull);
        CHECKS.sentence("2: BAD_KIND, nothing changes then", PromisesBoundaryTest::addBadKindChangesNothing);
        CHECKS.sentence("2: BAD_VARIABLE, nothing changes then", PromisesBoundaryTest::addBadVariableChangesNothing);
        CHECKS.sentence("2: FULL, nothing changes then", PromisesBoundaryTest::addFullChangesNothing);
        CHECKS.sentence("2: Else answers its number", PromisesBoundaryTest::addAnswersNumber);
    }

    private static void changeAndDrop() {
        CHECKS.sentence("3: Puts another token in the place", PromisesBoundaryTest::changePuts);
        CHECKS.sentence("3: p is not a token's number: BAD_PLACE, too small", () -> changeBadPlace(false));
        CHECKS.sentence("3: p is not a token's number: BAD_PLACE, too large", () -> changeBadPlace(true));
        CHECKS.sentence("3: BAD_PLACE, no tokens", PromisesBoundaryTest::changeInNone);
        CHECKS.sentence("3: BAD_PLACE, forty tokens", PromisesBoundaryTest::changeInForty);
        CHECKS.sentence("3: BAD_KIND, too small", () -> changeBadKind(false));
        CHECKS.sentence("3: BAD_KIND, too large", () -> changeBadKind(true));
        CHECKS.sentence("3: BAD_VARIABLE, too small", () -> changeBadVariable(false));
        CHECKS.sentence("3: BAD_VARIABLE, too large", () -> changeBadVariable(true));
        CHECKS.sentence("3: v is looked at for SET and USE only", PromisesBoundaryTest::changeLooksAtVariable);
        CHECKS.sentence("3: BAD_PLACE, nothing changes then", PromisesBoundaryTest::changeBadPlaceChangesNothing);
        CHECKS.sentence("3: BAD_KIND, nothing changes then", PromisesBoundaryTest::changeBadKindChangesNothing);
        CHECKS.sentence("3: BAD_VARIABLE, nothing changes then", PromisesBoundaryTest::changeBadVariableChangesNothing);
        CHECKS.sentence("3: Else answers the old kind", PromisesBoundaryTest::changeAnswersOldKind);
        CHECKS.sentence("4: Drops the last token", PromisesBoundaryTest::dropsLast);
        CHECKS.sentence("4: There is none: BAD_PLACE", PromisesBoundaryTest::dropOfNone);
        CHECKS.sentence("4: There is none, nothing changes", PromisesBoundaryTest::dropOfNoneChangesNothing);
        CHECKS.sentence("4: Else answers how many are left", PromisesBoundaryTest::dropAnswersLeft);
    }

    private static void asking() {
        CHECKS.sentence("5: Whether the program is sound", PromisesBoundaryTest::soundAtEdges);
        CHECKS.sentence("6: Whether token p is reached", PromisesBoundaryTest::reachedAtEdges);
        CHECKS.sentence("7: surely set, as a mask", PromisesBoundaryTest::surelyNoneAndAll);
        CHECKS.sentence("7: has come to a SET of it before", PromisesBoundaryTest::surelyBefore);
        CHECKS.sentence("7: All six if p is not reached", PromisesBoundaryTest::surelyNotReached);
        CHECKS.sentence("8: How many USE tokens are reached", PromisesBoundaryTest::doubtsReached);
        CHECKS.sentence("8: their variable is not surely set", PromisesBoundaryTest::doubtsNoneAndForty);
        CHECKS.sentence("9: ends behind the last token", PromisesBoundaryTest::completesAtEdges);
        CHECKS.sentence("9: not by RETURN", PromisesBoundaryTest::completesNotByReturn);
        CHECKS.sentence("9: True for a program without tokens", PromisesBoundaryTest::completesWithoutTokens);
        CHECKS.sentence("10: token p is a SET", PromisesBoundaryTest::idleIsSet);
        CHECKS.sentence("10: that is reached", PromisesBoundaryTest::idleIsReached);
        CHECKS.sentence("10: no run uses after it", PromisesBoundaryTest::idleUsedAfter);
        CHECKS.sentence("10: before setting it again", PromisesBoundaryTest::idleSetAgain);
        CHECKS.sentence("10: or ending", PromisesBoundaryTest::idleEnding);
        CHECKS.sentence("11: How many SET tokens are idle", PromisesBoundaryTest::idlesNoneAndForty);
        CHECKS.sentence("12: as a mask", PromisesBoundaryTest::wantedNoneAndAll);
        CHECKS.sentence("12: p itself counted in", PromisesBoundaryTest::wantedItself);
        CHECKS.sentence("12: a USE of it before a SET of it", PromisesBoundaryTest::wantedBeforeSet);
        CHECKS.sentence("12: Also if p is not reached", PromisesBoundaryTest::wantedNotReached);
        CHECKS.sentence("12: a run from p on is one that goes on from there", PromisesBoundaryTest::wantedGoesOnFromThere);
        CHECKS.sentence("13: The END that token p begins", PromisesBoundaryTest::endOfAtEdges);
        CHECKS.sentence("13: BAD_PLACE also if it begins none", PromisesBoundaryTest::endOfBeginsNone);
    }

    private static void order() {
        CHECKS.sentence("14: add, BAD_KIND before BAD_VARIABLE", PromisesBoundaryTest::addKindBeforeVariable);
        CHECKS.sentence("14: add, BAD_KIND before FULL", PromisesBoundaryTest::addKindBeforeFull);
        CHECKS.sentence("14: add, BAD_VARIABLE before FULL", PromisesBoundaryTest::addVariableBeforeFull);
        CHECKS.sentence("14: change, BAD_PLACE before BAD_KIND", PromisesBoundaryTest::changePlaceBeforeKind);
        CHECKS.sentence("14: change, BAD_PLACE before BAD_VARIABLE", PromisesBoundaryTest::changePlaceBeforeVariable);
        CHECKS.sentence("14: change, BAD_KIND before BAD_VARIABLE", PromisesBoundaryTest::changeKindBeforeVariable);
    }

    private static void due(String call, long got, long want) {
        CHECKS.due(call, got, want);
    }

    private static void due(String call, boolean got, boolean want) {
        CHECKS.due(call, got, want);
    }

    private static DefiniteUse program(String text) {
        return Checks.program(text);
    }

    private static String times(int count, String text) {
        return Checks.times(count, text);
    }

    private static int size(String text) {
        return Checks.words(text).length;
    }

    private static void newHasNoTokens() {
        DefiniteUse x = new DefiniteUse();
        due("reached(0)", x.reached(0), false);
        due("surely(0)", x.surely(0), BAD_PLACE);
        due("doubts", x.doubts(), 0);
        due("idle(0)", x.idle(0), false);
        due("idles", x.idles(), 0);
        due("wanted(0)", x.wanted(0), BAD_PLACE);
        due("endOf(0)", x.endOf(0), BAD_PLACE);
        due("change(0)", x.change(0, SET, 0), BAD_PLACE);
        due("drop", x.drop(), BAD_PLACE);
        due("the first add", x.add(SET, 0), 0);
        due("a second new object's drop", new DefiniteUse().drop(), BAD_PLACE);
    }

    private static void withoutTokensSound() {
        due("a new one", new DefiniteUse().sound(), true);
        for (String last : new String[] {"set0", "if", "else", "loop", "end", "break", "return"}) {
            DefiniteUse x = program(last);
            due("drop of " + last, x.drop(), 0);
            due("sound without " + last, x.sound(), true);
            due("doubts without " + last, x.doubts(), 0);
            due("idles without " + last, x.idles(), 0);
        }
    }

    private static void addLooksAtVariable() {
        for (int kind = IF; kind <= RETURN; kind++) {
            DefiniteUse x = new DefiniteUse();
            int number = 0;
            for (int v : Checks.WRONG_VARIABLES) {
                due("add(" + kind + ", " + v + ")", x.add(kind, v), number++);
            }
        }
        DefiniteUse x = new DefiniteUse();
        due("if, v least", x.add(IF, Integer.MIN_VALUE), 0);
        due("set", x.add(SET, 5), 1);
        due("end, v greatest", x.add(END, Integer.MAX_VALUE), 2);
        due("use", x.add(USE, 5), 3);
        due("return, v -1", x.add(RETURN, -1), 4);
        CHECKS.dueIs("odd v", x, "if set5 end use5 return");
    }

    private static void addBadKind(boolean large) {
        for (String text : PROGRAMS) {
            DefiniteUse x = program(text);
            for (int kind : Checks.WRONG_KINDS) {
                if (kind > 0 == large) {
                    due("add(" + kind + ", 0)", x.add(kind, 0), BAD_KIND);
                }
            }
        }
        int edge = large ? RETURN : SET;
        due("add of the kind at the edge", new DefiniteUse().add(edge, 0), 0);
    }

    private static void addBadVariable(boolean large) {
        for (String text : PROGRAMS) {
            DefiniteUse x = program(text);
            for (int v : Checks.WRONG_VARIABLES) {
                if (v > 0 == large) {
                    due("add(SET, " + v + ")", x.add(SET, v), BAD_VARIABLE);
                    due("add(USE, " + v + ")", x.add(USE, v), BAD_VARIABLE);
                }
            }
        }
        int edge = large ? 5 : 0;
        DefiniteUse x = new DefiniteUse();
        due("add of SET at the edge", x.add(SET, edge), 0);
        due("add of USE at the edge", x.add(USE, edge), 1);
    }

    private static void addFull() {
        for (int kind = SET; kind <= RETURN; kind++) {
            DefiniteUse x = program(times(39, "use0"));
            due("the fortieth, kind " + kind, x.add(kind, 0), 39);
            for (int other = SET; other <= RETURN; other++) {
                due("one more, kind " + other, x.add(other, 5), FULL);
            }
            due("drop", x.drop(), 39);
            due("room again, kind " + kind, x.add(kind, 5), 39);
            due("full again, kind " + kind, x.add(kind, 5), FULL);
        }
        due("full and not sound", program(FORTY_OPEN).add(END, 0), FULL);
    }

    private static void addBadKindChangesNothing() {
        for (String text : PROGRAMS) {
            DefiniteUse x = program(text);
            for (int kind : Checks.WRONG_KINDS) {
                x.add(kind, 0);
            }
            CHECKS.dueIs("adds of bad kinds", x, text);
            dueNextAdd(x, text);
        }
    }

    private static void addBadVariableChangesNothing() {
        for (String text : PROGRAMS) {
            DefiniteUse x = program(text);
            for (int v : Checks.WRONG_VARIABLES) {
                x.add(SET, v);
                x.add(USE, v);
            }
            CHECKS.dueIs("adds of bad variables", x, text);
            dueNextAdd(x, text);
        }
    }

    private static void dueNextAdd(DefiniteUse x, String text) {
        int size = size(text);
        due("the next add", x.add(USE, 5), size == 40 ? FULL : size);
    }

    private static void addFullChangesNothing() {
        for (String text : new String[] {FORTY, FORTY_OPEN, times(40, "set0"), times(20, "if") + times(20, "end")}) {
            DefiniteUse x = program(text);
            for (int kind = SET; kind <= RETURN; kind++) {
                due("add to forty, kind " + kind, x.add(kind, 5), FULL);
            }
            CHECKS.dueIs("adds to forty", x, text);
            due("the drop then", x.drop(), 39);
        }
    }

    private static void addAnswersNumber() {
        DefiniteUse x = new DefiniteUse();
        for (int p = 0; p < 40; p++) {
            due("add", x.add(p % 10, p % 6), p);
        }
        due("drop", x.drop(), 39);
        due("drop", x.drop(), 38);
        due("add behind drops", x.add(SET, 0), 38);
    }

    private static void changePuts() {
        DefiniteUse x = program("set0 set1 use2");
        due("change of the first", x.change(0, USE, 5), SET);
        CHECKS.dueIs("change of the first", x, "use5 set1 use2");
        due("change of the last", x.change(2, SET, 4), USE);
        CHECKS.dueIs("change of the last", x, "use5 set1 set4");
        due("change of the variable alone", x.change(1, SET, 0), SET);
        CHECKS.dueIs("change of the variable alone", x, "use5 set0 set4");
        DefiniteUse forty = program(FORTY);
        due("change of the fortieth", forty.change(39, SET, 3), USE);
        CHECKS.dueIs("change of the fortieth", forty, times(6, "use0 set1 if set2 use3 end") + "set4 use5 set0 set3");
    }

    private static void changeBadPlace(boolean large) {
        for (String text : PROGRAMS) {
            DefiniteUse x = program(text);
            for (int p : Checks.NEVER_A_TOKEN) {
                if (p > 0 == large) {
                    due("change(" + p + ")", x.change(p, SET, 0), BAD_PLACE);
                }
            }
            int size = size(text);
            if (large) {
                due("change just behind", x.change(size, SET, 0), BAD_PLACE);
            } else {
                due("change just before", x.change(-1, SET, 0), BAD_PLACE);
            }
        }
        int edge = large ? 4 : 0;
        due("change at the edge", program("use0 use0 use0 use0 use0").change(edge, SET, 0), USE);
    }

    private static void changeInNone() {
        DefiniteUse x = new DefiniteUse();
        due("change(0)", x.change(0, SET, 0), BAD_PLACE);
        due("change(1)", x.change(1, SET, 0), BAD_PLACE);
        CHECKS.dueIs("change in none", x, "");
        DefiniteUse emptied = program("use0");
        emptied.drop();
        due("change(0) of an emptied one", emptied.change(0, SET, 0), BAD_PLACE);
    }

    private static void changeInForty() {
        DefiniteUse x = program(FORTY);
        due("change(40)", x.change(40, SET, 0), BAD_PLACE);
        due("change(41)", x.change(41, SET, 0), BAD_PLACE);
        due("change(39)", x.change(39, USE, 1), USE);
        due("change(0)", x.change(0, USE, 0), USE);
        due("drop", x.drop(), 39);
        due("change(39) without the fortieth", x.change(39, SET, 0), BAD_PLACE);
    }

    private static void changeBadKind(boolean large) {
        for (String text : PROGRAMS) {
            DefiniteUse x = program(text);
            for (int kind : Checks.WRONG_KINDS) {
                if (kind > 0 == large && size(text) > 0) {
                    due("change(0, " + kind + ", 0)", x.change(0, kind, 0), BAD_KIND);
                    due("change(last, " + kind + ", 0)", x.change(size(text) - 1, kind, 0), BAD_KIND);
                }
            }
        }
        int edge = large ? RETURN : SET;
        due("change to the kind at the edge", program("if").change(0, edge, 0), IF);
    }

    private static void changeBadVariable(boolean large) {
        for (String text : PROGRAMS) {
            DefiniteUse x = program(text);
            for (int v : Checks.WRONG_VARIABLES) {
                if (v > 0 == large && size(text) > 0) {
                    due("change(0, SET, " + v + ")", x.change(0, SET, v), BAD_VARIABLE);
                    due("change(0, USE, " + v + ")", x.change(0, USE, v), BAD_VARIABLE);
                    due("change(last, SET, " + v + ")", x.change(size(text) - 1, SET, v), BAD_VARIABLE);
                    due("change(last, USE, " + v + ")", x.change(size(text) - 1, USE, v), BAD_VARIABLE);
                }
            }
        }
        int edge = large ? 5 : 0;
        DefiniteUse x = program("if");
        due("change to SET at the edge", x.change(0, SET, edge), IF);
        due("change to USE at the edge", x.change(0, USE, edge), SET);
        due("the variable at the edge", x.wanted(0), 1 << edge);
    }

    private static void changeLooksAtVariable() {
        for (int kind = IF; kind <= RETURN; kind++) {
            DefiniteUse x = program("use0");
            int old = USE;
            for (int v : Checks.WRONG_VARIABLES) {
                due("change(0, " + kind + ", " + v + ")", x.change(0, kind, v), old);
                old = kind;
            }
        }
        DefiniteUse x = program("set0 set0 set0 use0");
        x.change(0, IF, Integer.MIN_VALUE);
        x.change(2, END, Integer.MAX_VALUE);
        CHECKS.dueIs("odd v", x, "if set0 end use0");
    }

    private static void changeBadPlaceChangesNothing() {
        for (String text : PROGRAMS) {
            DefiniteUse x = program(text);
            for (int p : Checks.NEVER_A_TOKEN) {
                x.change(p, END, 0);
                x.change(p, USE, 5);
            }
            x.change(size(text), USE, 5);
            CHECKS.dueIs("changes at bad places", x, text);
            dueNextAdd(x, text);
        }
    }

    private static void changeBadKindChangesNothing() {
        for (String text : PROGRAMS) {
            DefiniteUse x = program(text);
            for (int p = 0; p < size(text); p++) {
                x.change(p, -1, 5);
                x.change(p, 10, 4);
            }
            CHECKS.dueIs("changes to bad kinds", x, text);
            dueNextAdd(x, text);
        }
    }

    private static void changeBadVariableChangesNothing() {
        for (String text : PROGRAMS) {
            DefiniteUse x = program(text);
            for (int p = 0; p < size(text); p++) {
                x.change(p, SET, -1);
                x.change(p, USE, 6);
                x.change(p, SET, 32 + 5);
            }
            CHECKS.dueIs("changes to bad variables", x, text);
            dueNextAdd(x, text);
        }
    }

    private static void changeAnswersOldKind() {
        DefiniteUse x = program(times(4, "set0 use0 if else loop always end break continue return"));
        for (int p = 0; p < 40; p++) {
            due("change(" + p + ")", x.change(p, (p + 3) % 10, 5), p % 10);
        }
        for (int p = 0; p < 40; p++) {
            due("change(" + p + ") again", x.change(p, USE, 0), (p + 3) % 10);
        }
        due("a change to the same", x.change(0, USE, 0), USE);
        due("forty stay", x.add(USE, 0), FULL);
        due("doubts", x.doubts(), 40);
    }

    private static void dropsLast() {
        DefiniteUse x = program("use0 if set1 end set2 use3");
        due("drop", x.drop(), 5);
        CHECKS.dueIs("drop", x, "use0 if set1 end set2");
        due("drop", x.drop(), 4);
        due("drop", x.drop(), 3);
        CHECKS.dueIs("drop of the end", x, "use0 if set1");
        due("add", x.add(USE, 5), 3);
        CHECKS.dueIs("add behind drops", x, "use0 if set1 use5");
        DefiniteUse forty = program(FORTY);
        due("drop from forty", forty.drop(), 39);
        CHECKS.dueIs("drop from forty", forty, times(6, "use0 set1 if set2 use3 end") + "set4 use5 set0");
    }

    private static void dropOfNone() {
        DefiniteUse x = new DefiniteUse();
        due("drop of a new one", x.drop(), BAD_PLACE);
        due("drop of a new one again", x.drop(), BAD_PLACE);
        DefiniteUse emptied = program("end");
        due("drop of the only one", emptied.drop(), 0);
        due("drop of an emptied one", emptied.drop(), BAD_PLACE);
    }

    private static void dropOfNoneChangesNothing() {
        DefiniteUse x = new DefiniteUse();
        x.drop();
        CHECKS.dueIs("a drop of none", x, "");
        x.drop();
        CHECKS.dueIs("a second drop of none", x, "");
        due("the next add", x.add(USE, 5), 0);
        CHECKS.dueIs("the next add", x, "use5");
        due("the next drop", x.drop(), 0);
    }

    private static void dropAnswersLeft() {
        for (String text : new String[] {FORTY, FORTY_OPEN}) {
            DefiniteUse x = program(text);
            for (int left = 39; left >= 0; left--) {
                due("drop", x.drop(), left);
            }
            due("drop of none", x.drop(), BAD_PLACE);
        }
    }

    private static void soundAtEdges() {
        due("none", program("").sound(), true);
        due("forty", program(FORTY).sound(), true);
        due("forty, one open", program(FORTY_OPEN).sound(), false);
        DefiniteUse x = program(times(39, "use0") + "if");
        due("change of the fortieth", x.change(39, RETURN, 0), IF);
        due("sound behind the change", x.sound(), true);
        due("change of the first", x.change(0, END, 0), USE);
        due("not sound behind the change", x.sound(), false);
        due("change back", x.change(0, SET, 0), END);
        due("sound behind the change back", x.sound(), true);
    }

    private static void reachedAtEdges() {
        DefiniteUse forty = program(FORTY);
        due("the first of forty", forty.reached(0), true);
        due("the last of forty", forty.reached(39), true);
        due("the first, and it is a return", program("return").reached(0), true);
        due("the last behind a return", program(times(39, "return") + "use0").reached(39), false);
        due("none", program("").reached(0), false);
        due("behind the last, though runs end there", program("use0").reached(1), false);
        due("not sound", program("if").reached(0), false);
        DefiniteUse x = program("loop " + times(37, "use0") + "continue end");
        due("the end behind a continue", x.reached(39), false);
        due("the continue", x.reached(38), true);
    }

    private static void surelyNoneAndAll() {
        String all = "set0 set1 set2 set3 set4 set5 ";
        DefiniteUse x = program(all + times(34, "use0"));
        for (int p = 0; p <= 6; p++) {
            due("surely(" + p + ")", x.surely(p), (1 << p) - 1);
        }
        due("surely(39)", x.surely(39), 63);
        DefiniteUse none = program(times(40, "use0"));
        due("surely(0), nothing set", none.surely(0), 0);
        due("surely(39), nothing set", none.surely(39), 0);
        due("surely of the greatest alone", program("set5 use0").surely(1), 32);
    }

    private static void surelyBefore() {
        due("the SET itself does not count", program("set0").surely(0), 0);
        due("nor in a loop, at first", program("always set0 end").surely(1), 0);
        due("the fortieth SET does not count", program(times(40, "set0")).surely(39), 1);
        due("only one of two ways", program("if set0 else set1 end use0").surely(5), 0);
        due("both ways", program("if set0 else set0 end use0").surely(5), 1);
        due("the other way never comes", program("if set0 else return end use0").surely(5), 1);
        due("every run round comes by", program("always set0 if break end end use0").surely(6), 1);
        due("a loop that may be passed", program("loop set0 end use0").surely(3), 0);
    }

    private static void surelyNotReached() {
        DefiniteUse x = program("return use0 set1 use2");
        for (int p = 1; p <= 3; p++) {
            due("behind a return, surely(" + p + ")", x.surely(p), 63);
        }
        due("the return itself", x.surely(0), 0);
        due("behind an always", program("always end use0").surely(2), 63);
        due("an else", program("if return else end").surely(2), 63);
        due("the last of forty", program("return " + times(39, "use0")).surely(39), 63);
        DefiniteUse loop = program("return loop use0 end");
        due("a loop behind a return", loop.surely(1), 63);
        due("in it", loop.surely(2), 63);
        due("its end", loop.surely(3), 63);
        // What is not reached takes nothing away from what is.
        due("behind a way never gone", program("set0 if return use1 else set1 end use1").surely(7), 3);
    }

    private static void doubtsReached() {
        due("behind a return", program("return use0").doubts(), 0);
        due("before a return", program("use0 return").doubts(), 1);
        due("forty but for the first", program("return " + times(39, "use0")).doubts(), 0);
        due("behind an always", program("use0 always end use0").doubts(), 1);
        due("behind a break", program("loop break use0 end use0").doubts(), 1);
    }

    private static void doubtsNoneAndForty() {
        due("none", program("").doubts(), 0);
        due("forty", program(times(40, "use5")).doubts(), 40);
        due("all but the set", program("set0 " + times(39, "use1")).doubts(), 39);
        due("none of 39", program("set5 " + times(39, "use5")).doubts(), 0);
        due("the last alone", program(times(39, "set0") + "use1").doubts(), 1);
        due("set only behind it", program("use0 set0").doubts(), 1);
        due("other kinds", program("set0 if else end loop break end return").doubts(), 0);
    }

    private static void completesAtEdges() {
        due("one token", program("use0").completes(), true);
        due("forty", program(times(40, "use0")).completes(), true);
        due("a break out of forty", program("always break " + times(37, "use0") + "end").completes(), true);
        due("never out of forty", program("always " + times(38, "use0") + "end").completes(), false);
        due("not sound", program("if").completes(), false);
        due("not sound, behind all else", program("use0 end").completes(), false);
    }

    private static void completesNotByReturn() {
        due("a return alone", program("return").completes(), false);
        due("a return at the end", program(times(39, "use0") + "return").completes(), false);
        due("a return on one way", program("if return end").completes(), true);
        due("a return on both ways", program("if return else return end").completes(), false);
        due("a return in a loop that may be passed", program("loop return end").completes(), true);
        due("a return in an always", program("always if return end end").completes(), false);
    }

    private static void completesWithoutTokens() {
        due("a new one", new DefiniteUse().completes(), true);
        for (String last : new String[] {"return", "set0", "if", "end"}) {
            DefiniteUse x = program(last);
            x.drop();
            due("without " + last, x.completes(), true);
        }
    }

    private static void idleIsSet() {
        String[] programs = {"use0", "return", "if end", "loop end", "always end", "if else end", "loop break continue end"};
        for (String text : programs) {
            DefiniteUse x = program(text);
            for (int p = 0; p < size(text); p++) {
                due("idle(" + p + ") of " + text, x.idle(p), false);
            }
        }
        due("a set alone", program("set0").idle(0), true);
        DefiniteUse x = program("set0");
        x.change(0, USE, 0);
        due("a set no more", x.idle(0), false);
    }

    private static void idleIsReached() {
        due("behind a return", program("return set0").idle(1), false);
        due("behind an always", program("always end set0").idle(2), false);
        due("the last of forty", program("return " + times(39, "set0")).idle(39), false);
        due("the last of forty, reached", program(times(40, "set0")).idle(39), true);
    }

    private static void idleUsedAfter() {
        due("used right behind", program("set0 use0").idle(0), false);
        due("used at the very end", program("set5 " + times(38, "use1") + "use5").idle(0), false);
        due("used before it only", program("use0 set0").idle(1), true);
        due("used before it in a loop", program("loop use0 set0 end").idle(2), false);
        due("another is used", program("set0 use1").idle(0), true);
        due("used on one way only", program("set0 if use0 end").idle(0), false);
    }

    private static void idleSetAgain() {
        due("set again right behind", program("set0 set0 use0").idle(0), true);
        due("the later one", program("set0 set0 use0").idle(1), false);
        due("set again on both ways", program("set0 if set0 else set0 end use0").idle(0), true);
        due("set again on one way", program("set0 if set0 end use0").idle(0), false);
        due("set again by itself", program("always set0 end").idle(1), true);
        due("set again by itself, used between", program("always set0 use0 end").idle(1), false);
        due("set again at the end of forty", program("set0 " + times(37, "use1") + "set0 use0").idle(0), true);
    }

    private static void idleEnding() {
        due("ends behind it", program("set0").idle(0), true);
        due("ends behind it, the fortieth", program(times(39, "use0") + "set0").idle(39), true);
        due("ends by a return", program("set0 return use0").idle(0), true);
        due("ends by a return on one way", program("set0 if return end use0").idle(0), false);
        due("goes round for ever", program("set0 always end use0").idle(0), true);
    }

    private static void idlesNoneAndForty() {
        due("none", program("").idles(), 0);
        due("forty", program(times(40, "set5")).idles(), 40);
        due("all but the last", program(times(39, "set5") + "use5").idles(), 38);
        due("no set", program(times(40, "use5")).idles(), 0);
        due("not reached", program("set0 return " + times(38, "set0")).idles(), 1);
        due("not sound", program("set0 if").idles(), NOT_SOUND);
    }

    private static void wantedNoneAndAll() {
        due("nothing", program("set0 return").wanted(0), 0);
        due("all six", program("use0 use1 use2 use3 use4 use5").wanted(0), 63);
        due("the greatest", program("use5").wanted(0), 32);
        due("the least", program("use0").wanted(0), 1);
        due("all but the one that is set", program(times(34, "set0") + "use0 use1 use2 use3 use4 use5").wanted(0), 62);
        due("the fortieth", program(times(39, "set0") + "use3").wanted(39), 8);
        due("from the first of forty", program(times(39, "set0") + "use3").wanted(0), 8);
    }

    private static void wantedItself() {
        due("a use itself", program("use0").wanted(0), 1);
        due("a use itself, set behind", program("use0 set0").wanted(0), 1);
        due("a set itself", program("set0 use0").wanted(0), 0);
        due("a set itself, in a loop", program("loop set0 use0 end").wanted(1), 0);
        due("a use as the fortieth", program(times(39, "return") + "use0").wanted(39), 1);
        due("a set of another", program("set0 use1").wanted(0), 2);
    }

    private static void wantedBeforeSet() {
        due("set first", program("set0 use0").wanted(0), 0);
        due("used first", program("use0 set0").wanted(0), 1);
        due("used first on one way", program("if set0 end use0").wanted(0), 1);
        due("set first on both ways", program("if set0 else set0 end use0").wanted(0), 0);
        due("used only behind a return", program("return use0").wanted(0), 0);
        due("used on the way round", program("loop use0 set0 end").wanted(3), 1);
        due("set on the way round", program("loop set0 use0 end").wanted(3), 0);
    }

    private static void wantedNotReached() {
        DefiniteUse x = program("return use0 set1 use1 loop use2 end");
        due("wanted(0)", x.wanted(0), 0);
        due("wanted(1)", x.wanted(1), 5);
        due("wanted(2)", x.wanted(2), 4);
        due("wanted(3)", x.wanted(3), 6);
        due("wanted(4)", x.wanted(4), 4);
        due("wanted(6)", x.wanted(6), 4);
        due("behind an always", program("always end use0").wanted(2), 1);
        due("the last of forty", program("return " + times(39, "use4")).wanted(39), 16);
    }

    private static void wantedGoesOnFromThere() {
        due("from an else no run comes to", program("if return else use1 end use2").wanted(2), 4);
        due("from an else behind a return", program("return if use0 else use1 end use2").wanted(3), 4);
        due("from the end of an if", program("if return else return end use2").wanted(4), 4);
        due("from the end of an always", program("always use0 break end use1").wanted(3), 3);
        due("from a break behind a return", program("always return break use0 end use1").wanted(2), 2);
        due("from a continue behind a return", program("loop return continue use0 end use1").wanted(2), 2);
        due("not from before it", program("use0 use1 return").wanted(1), 2);
    }

    private static void endOfAtEdges() {
        for (String begin : new String[] {"if", "loop", "always"}) {
            due("an empty " + begin, program(begin + " end").endOf(0), 1);
            due("forty long, " + begin, program(begin + " " + times(38, "set0") + "end").endOf(0), 39);
            due("the last two of forty, " + begin, program(times(38, "set0") + begin + " end").endOf(38), 39);
            DefiniteUse deep = program(times(20, begin) + times(20, "end"));
            for (int p = 0; p < 20; p++) {
                due("endOf(" + p + "), twenty deep, " + begin, deep.endOf(p), 39 - p);
            }
        }
        due("not its else", program("if set0 else set0 end").endOf(0), 4);
        due("not reached", program("return if end").endOf(1), 2);
        due("not sound", program("if end if").endOf(0), NOT_SOUND);
    }

    private static void endOfBeginsNone() {
        DefiniteUse x = program("set0 use0 if else end loop break continue end return");
        for (int p : new int[] {0, 1, 3, 4, 6, 7, 8, 9}) {
            due("endOf(" + p + ")", x.endOf(p), BAD_PLACE);
        }
        due("the if", x.endOf(2), 4);
        due("the loop", x.endOf(5), 8);
        DefiniteUse changed = program("if end");
        changed.change(0, SET, 0);
        changed.change(1, SET, 0);
        due("begins none any more", changed.endOf(0), BAD_PLACE);
        due("begins none, not sound", program("set0 end").endOf(0), NOT_SOUND);
    }

    private static void addKindBeforeVariable() {
        for (String text : PROGRAMS) {
            DefiniteUse x = program(text);
            for (int kind : Checks.WRONG_KINDS) {
                due("add(" + kind + ", -1)", x.add(kind, -1), BAD_KIND);
                due("add(" + kind + ", 6)", x.add(kind, 6), BAD_KIND);
            }
        }
    }

    private static void addKindBeforeFull() {
        for (String text : new String[] {FORTY, FORTY_OPEN}) {
            DefiniteUse x = program(text);
            for (int kind : Checks.WRONG_KINDS) {
                due("add(" + kind + ", 0) to forty", x.add(kind, 0), BAD_KIND);
            }
            due("full without the bad kind", x.add(SET, 0), FULL);
        }
    }

    private static void addVariableBeforeFull() {
        for (String text : new String[] {FORTY, FORTY_OPEN}) {
            DefiniteUse x = program(text);
            for (int v : Checks.WRONG_VARIABLES) {
                due("add(SET, " + v + ") to forty", x.add(SET, v), BAD_VARIABLE);
                due("add(USE, " + v + ") to forty", x.add(USE, v), BAD_VARIABLE);
                due("add(IF, " + v + ") to forty, v not looked at", x.add(IF, v), FULL);
            }
        }
    }

    private static void changePlaceBeforeKind() {
        for (String text : PROGRAMS) {
            DefiniteUse x = program(text);
            for (int p : Checks.NEVER_A_TOKEN) {
                due("change(" + p + ", -1, 0)", x.change(p, -1, 0), BAD_PLACE);
                due("change(" + p + ", 10, 6)", x.change(p, 10, 6), BAD_PLACE);
            }
            due("change just behind, kind 10", x.change(size(text), 10, 0), BAD_PLACE);
        }
    }

    private static void changePlaceBeforeVariable() {
        for (String text : PROGRAMS) {
            DefiniteUse x = program(text);
            for (int p : Checks.NEVER_A_TOKEN) {
                due("change(" + p + ", SET, -1)", x.change(p, SET, -1), BAD_PLACE);
                due("change(" + p + ", USE, 6)", x.change(p, USE, 6), BAD_PLACE);
            }
            due("change just behind, variable 6", x.change(size(text), SET, 6), BAD_PLACE);
        }
    }

    private static void changeKindBeforeVariable() {
        DefiniteUse x = program(SOME);
        for (int kind : Checks.WRONG_KINDS) {
            due("change(0, " + kind + ", -1)", x.change(0, kind, -1), BAD_KIND);
            due("change(11, " + kind + ", 6)", x.change(11, kind, 6), BAD_KIND);
        }
        due("change of the last", program(FORTY_OPEN).change(39, 10, 6), BAD_KIND);
    }
}
