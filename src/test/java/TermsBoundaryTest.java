/** The boundary cases that the document's section "Terms" names, a test for each sentence. */
public final class TermsBoundaryTest {
    private static final int SET = 0;
    private static final int USE = 1;
    private static final int IF = 2;
    private static final int LOOP = 4;
    private static final int ALWAYS = 5;
    private static final int END = 6;
    private static final int RETURN = 9;

    private static final int NOT_SOUND = DefiniteUse.NOT_SOUND;
    private static final int BAD_PLACE = DefiniteUse.BAD_PLACE;
    private static final Checks CHECKS = new Checks();

    public static void main(String[] args) {
        CHECKS.sentence("a list of at most 40 TOKENS", TermsBoundaryTest::atMostForty);
        CHECKS.sentence("numbered from 0", TermsBoundaryTest::numberedFromZero);
        CHECKS.sentence("over six VARIABLES (0 to 5)", TermsBoundaryTest::sixVariables);
        CHECKS.sentence("0 SET to 9 RETURN", TermsBoundaryTest::tenKinds);
        CHECKS.sentence("every END has something open", TermsBoundaryTest::endHasOpen);
        CHECKS.sentence("every ELSE has something open", TermsBoundaryTest::elseHasOpen);
        CHECKS.sentence("ELSE only directly in an IF", TermsBoundaryTest::elseDirectlyInIf);
        CHECKS.sentence("that has no ELSE yet", TermsBoundaryTest::noElseYet);
        CHECKS.sentence("every IF, LOOP and ALWAYS has its END", TermsBoundaryTest::beginsHaveEnds);
        CHECKS.sentence("BREAK and CONTINUE stand in a loop", TermsBoundaryTest::breakInLoop);
        CHECKS.sentence("(at any depth of IFs within it)", TermsBoundaryTest::breakAtAnyDepth);
        CHECKS.sentence("beginning with token 0", TermsBoundaryTest::beginsWithTokenZero);
        CHECKS.sentence("behind the last token a run ends", TermsBoundaryTest::endsBehindLast);
        CHECKS.sentence("Behind a token comes the next one", TermsBoundaryTest::nextOne);
        CHECKS.sentence("IF: the next token, or the one behind its ELSE if it has one", TermsBoundaryTest::ifWithElse);
        CHECKS.sentence("or else its END", TermsBoundaryTest::ifWithoutElse);
        CHECKS.sentence("ELSE, when come to from the side before it: the END of its IF", TermsBoundaryTest::elseToEnd);
        CHECKS.sentence("LOOP: the next token, or the one behind its END", TermsBoundaryTest::loopWays);
        CHECKS.sentence("ALWAYS: the next token", TermsBoundaryTest::alwaysWay);
        CHECKS.sentence("The END of a loop: the loop's LOOP or ALWAYS again", TermsBoundaryTest::endOfLoop);
        CHECKS.sentence("BREAK: the token behind the loop's END", TermsBoundaryTest::breakWay);
        CHECKS.sentence("CONTINUE: the loop's LOOP or ALWAYS", TermsBoundaryTest::continueWay);
        CHECKS.sentence("RETURN: the run ends", TermsBoundaryTest::returnEnds);
        CHECKS.sentence("Both ways are taken to be possible each time", TermsBoundaryTest::bothWaysEachTime);
        CHECKS.sentence("An ELSE is come to only from the side before it", TermsBoundaryTest::elseFromSideBefore);
        CHECKS.sentence("The calls below change nothing that any call answers", TermsBoundaryTest::askingChangesNothing);
        CHECKS.sentence("The program is not sound: NOT_SOUND (false for booleans)", TermsBoundaryTest::notSound);
        CHECKS.sentence("tested first", TermsBoundaryTest::notSoundFirst);
        CHECKS.sentence("p not a token's number: BAD_PLACE (false), p too small", TermsBoundaryTest::placeTooSmall);
        CHECKS.sentence("p not a token's number: BAD_PLACE (false), p too large", TermsBoundaryTest::placeTooLarge);
        CHECKS.sentence("p not a token's number, no tokens", TermsBoundaryTest::placeInNone);
        CHECKS.sentence("p not a token's number, forty tokens", TermsBoundaryTest::placeInForty);
        CHECKS.sentence("at most 512 calls after it has been made", TermsBoundaryTest::lastOfItsCalls);
        CHECKS.finish();
    }

    private static void due(String call, long got, long want) {
        CHECKS.due(call, got, want);
    }

    private static void due(String call, boolean got, boolean want) {
        CHECKS.due(call, got, want);
    }

    private static DefiniteUse program(String text) {
        return Checks.program(text);
    }

    private static String times(int count, String text) {
        return Checks.times(count, text);
    }

    private static void dueSound(String text, boolean want) {
        due("sound of " + text, program(text).sound(), want);
    }

    private static void dueCompletes(String text, boolean want) {
        due("completes of " + text, program(text).completes(), want);
    }

    private static void dueReached(String text, String want) {
        DefiniteUse x = program(text);
        for (int p = 0; p < want.length(); p++) {
            due("reached(" + p + ") of " + text, x.reached(p), want.charAt(p) == '1');
        }
    }

    private static void dueSurely(String text, int p, int want) {
        due("surely(" + p + ") of " + text, program(text).surely(p), want);
    }

    private static void dueWanted(String text, int p, int want) {
        due("wanted(" + p + ") of " + text, program(text).wanted(p), want);
    }

    private static void atMostForty() {
        DefiniteUse x = program(times(39, "use0"));
        due("the fortieth", x.add(USE, 0), 39);
        due("the token more", x.add(USE, 0), DefiniteUse.FULL);
        due("doubts of forty", x.doubts(), 40);
        due("drop from forty", x.drop(), 39);
        due("the fortieth again", x.add(USE, 0), 39);
        due("the token more again", x.add(USE, 0), DefiniteUse.FULL);
    }

    private static void numberedFromZero() {
        DefiniteUse x = new DefiniteUse();
        due("the first", x.add(USE, 3), 0);
        due("the second", x.add(SET, 3), 1);
        due("wanted(0)", x.wanted(0), 8);
        due("idle(0)", x.idle(0), false);
        due("idle(1)", x.idle(1), true);
        due("the kind of 0", x.change(0, RETURN, 0), USE);
        due("the kind of 1", x.change(1, RETURN, 0), SET);
        due("wanted(2)", x.wanted(2), BAD_PLACE);
    }

    private static void sixVariables() {
        for (int v = 0; v <= 5; v++) {
            DefiniteUse x = new DefiniteUse();
            due("add SET " + v, x.add(SET, v), 0);
            due("add USE " + v, x.add(USE, v), 1);
            due("surely set, " + v, x.surely(1), 1 << v);
            due("wanted, " + v, x.wanted(1), 1 << v);
            for (int w = 0; w <= 5; w++) {
                due("doubts of SET " + v + " USE " + w, program("set" + v + " use" + w).doubts(), v == w ? 0 : 1);
                due("idles of SET " + v + " USE " + w, program("set" + v + " use" + w).idles(), v == w ? 0 : 1);
            }
        }
        DefiniteUse x = new DefiniteUse();
        due("SET -1", x.add(SET, -1), DefiniteUse.BAD_VARIABLE);
        due("SET 6", x.add(SET, 6), DefiniteUse.BAD_VARIABLE);
        due("USE -1", x.add(USE, -1), DefiniteUse.BAD_VARIABLE);
        due("USE 6", x.add(USE, 6), DefiniteUse.BAD_VARIABLE);
        dueSurely("set0 set1 set2 set3 set4 set5 return", 6, 63);
        dueWanted("use0 use1 use2 use3 use4 use5", 0, 63);
    }

    private static void tenKinds() {
        DefiniteUse x = new DefiniteUse();
        for (int kind = 0; kind <= 9; kind++) {
            due("add kind " + kind, x.add(kind, 0), kind);
        }
        for (int kind = 0; kind <= 9; kind++) {
            due("the kind of " + kind, x.change(kind, SET, 0), kind);
        }
        due("the kind below", x.add(-1, 0), DefiniteUse.BAD_KIND);
        due("the kind above", x.add(10, 0), DefiniteUse.BAD_KIND);
    }

    private static void endHasOpen() {
        dueSound("end", false);
        dueSound("if end end", false);
        dueSound("loop end end", false);
        dueSound("always end end", false);
        dueSound("if else end end", false);
        dueSound("end if", false);
        dueSound("end if end", false);
        dueSound("end loop end", false);
        dueSound("if end end if", false);
        dueSound("return end", false);
        dueSound(times(19, "if") + times(20, "end"), false);
        dueSound(times(39, "set0") + "end", false);
        dueSound(times(40, "end"), false);
        dueSound("if end", true);
    }

    private static void elseHasOpen() {
        dueSound("else", false);
        dueSound("else end", false);
        dueSound("else if end", false);
        dueSound("if end else", false);
        dueSound("if end else end", false);
        dueSound("if else end else", false);
        dueSound("if end else if end", false);
        dueSound(times(39, "set0") + "else", false);
        dueSound("if else end", true);
    }

    private static void elseDirectlyInIf() {
        dueSound("loop else end", false);
        dueSound("always else end", false);
        dueSound("if loop else end end", false);
        dueSound("if always else end end", false);
        dueSound("loop if end else end", false);
        dueSound("loop if else end end", true);
        dueSound("always if else end end", true);
        dueSound("if loop end else end", true);
        dueSound("if always end else end", true);
        dueSound("if if end else end", true);
    }

    private static void noElseYet() {
        dueSound("if else else end", false);
        dueSound("if set0 else set0 else set0 end", false);
        dueSound("if else if end else end", false);
        dueSound("if else if else end else end", false);
        dueSound("if if else else end end", false);
        dueSound("if " + times(38, "else") + "end", false);
        dueSound("if if else end else end", true);
        dueSound("if else if else end end", true);
        dueSound("if else end if else end", true);
    }

    private static void beginsHaveEnds() {
        for (String begin : new String[] {"if", "loop", "always"}) {
            dueSound(begin, false);
            dueSound(begin + " end", true);
            dueSound(begin + " " + begin + " end", false);
            dueSound("set0 " + begin, false);
            dueSound(begin + " end " + begin, false);
            dueSound(times(20, begin) + times(20, "end"), true);
            dueSound(times(20, begin) + times(19, "end"), false);
            dueSound(times(21, begin) + times(19, "end"), false);
            dueSound(times(39, "set0") + begin, false);
            dueSound(times(40, begin), false);
        }
        dueSound("if else", false);
        dueSound("if loop end", false);
        dueSound("loop if end", false);
        dueSound("always break", false);
    }

    private static void breakInLoop() {
        for (String leave : new String[] {"break", "continue"}) {
            dueSound(leave, false);
            dueSound("return " + leave, false);
            dueSound("if " + leave + " end", false);
            dueSound("if else " + leave + " end", false);
            dueSound("loop end " + leave, false);
            dueSound("always end " + leave, false);
            dueSound(leave + " loop end", false);
            dueSound("loop loop end end " + leave, false);
            dueSound("if loop end " + leave + " end", false);
            dueSound(times(39, "set0") + leave, false);
            dueSound("loop " + leave + " end", true);
            dueSound("always " + leave + " end", true);
            dueSound("loop loop end " + leave + " end", true);
            dueSound("loop always end " + leave + " end", true);
            dueSound("loop " + times(38, leave) + "end", true);
        }
    }

    private static void breakAtAnyDepth() {
        for (String leave : new String[] {"break", "continue"}) {
            dueSound("loop if " + leave + " end end", true);
            dueSound("always if else " + leave + " end end", true);
            dueSound("loop if end " + leave + " end", true);
            dueSound("loop " + times(18, "if") + leave + " " + leave + times(19, " end"), true);
            dueSound("always " + times(12, "if else") + leave + times(13, " end"), true);
            dueSound(times(19, "if") + leave + times(19, " end"), false);
            dueSound("loop end " + times(18, "if") + leave + times(18, " end"), false);
        }
        String deep = times(18, "if") + "break " + times(19, "end");
        DefiniteUse x = program("always " + deep + "return");
        due("the deep break comes behind the loop", x.reached(39), true);
        due("the loop that the deep break is in", x.endOf(0), 38);
    }

    private static void beginsWithTokenZero() {
        for (int kind = 0; kind <= 9; kind++) {
            String word = Checks.KINDS.get(kind) + (kind <= USE ? "0" : "");
            boolean begins = kind == IF || kind == LOOP || kind == ALWAYS;
            boolean alone = kind <= USE || kind == RETURN;
            if (begins || alone) {
                DefiniteUse x = program(begins ? word + " end" : word);
                due("reached(0) of " + word, x.reached(0), true);
                due("surely(0) of " + word, x.surely(0), 0);
            }
        }
        dueSurely("loop set0 end", 0, 0);
        dueSurely("always set0 end", 0, 0);
    }

    private static void endsBehindLast() {
        dueCompletes("set0", true);
        dueCompletes("use0", true);
        dueCompletes("if end", true);
        dueCompletes("loop end", true);
        dueCompletes(times(40, "use0"), true);
        dueCompletes(times(39, "use0") + "return", false);
        dueCompletes(times(20, "loop") + times(20, "end"), true);
        dueWanted("use0 set1", 1, 0);
        DefiniteUse x = program("set0 set1 use1");
        x.drop();
        due("what was dropped is not come to", x.idle(1), true);
        due("wanted at the last", x.wanted(1), 0);
    }

    private static void nextOne() {
        dueReached(times(40, "set0"), "1".repeat(40));
        dueSurely("set0 use1 set2 use3", 1, 1);
        dueSurely("set0 use1 set2 use3", 2, 1);
        dueSurely("set0 use1 set2 use3", 3, 5);
        dueReached("if end set0", "111");
    }

    private static void ifWithElse() {
        dueReached("if else end", "111");
        dueReached("if return else end return", "11011");
        dueReached("if else return end return", "11111");
        dueReached("if return else return end return", "110100");
        dueSurely("if set0 else set1 end", 3, 0);
        dueWanted("if use0 else use1 end", 0, 3);
        dueWanted("if else use1 end", 0, 2);
        dueWanted("if use0 else end", 0, 1);
        dueCompletes("if return else end", true);
    }

    private static void ifWithoutElse() {
        dueReached("if end", "11");
        dueReached("if return end return", "1111");
        dueReached("if if else end return end set0", "1111111");
        dueSurely("if set0 end use0", 2, 0);
        dueSurely("if if set0 else set0 end end use0", 6, 0);
        dueCompletes("if return end", true);
    }

    private static void elseToEnd() {
        dueWanted("if set0 else use1 end use2", 2, 4);
        dueWanted("if else use1 end", 1, 0);
        dueSurely("if set0 else set1 end use0", 4, 0);
        dueSurely("if set0 set2 else set1 set2 end use0", 6, 4);
        dueCompletes("if else return end", true);
        dueReached("if else return end set0", "11111");
        dueReached("if if return else return end else return end set0", "1110100100");
        dueWanted("loop if else use1 break end end", 2, 2);
    }

    private static void loopWays() {
        dueReached("loop end", "11");
        dueReached("loop return end set0", "1101");
        dueReached("loop set0 end set0", "1111");
        dueSurely("loop set0 end use0", 3, 0);
        dueCompletes("loop end", true);
        dueCompletes("loop return end", true);
        dueCompletes("loop " + times(38, "return") + "end", true);
        dueWanted("loop use0 end use1", 0, 3);
    }

    private static void alwaysWay() {
        dueReached("always end", "11");
        dueReached("always end set0", "110");
        dueReached("always return end set0", "1100");
        dueCompletes("always end", false);
        dueCompletes("always " + times(38, "set0") + "end", false);
        dueWanted("always use0 end use1", 0, 1);
        dueSurely("always set0 break end use0", 4, 1);
    }

    private static void endOfLoop() {
        dueWanted("loop use0 set0 end use1", 3, 3);
        dueWanted("always use0 set0 end use1", 3, 1);
        dueWanted("loop use0 loop use1 end end", 4, 3);
        dueWanted("loop if use0 end end", 3, 1);
        dueCompletes("loop end return", false);
        due("idle in the loop", program("loop use0 set0 end").idle(2), false);
        due("idle in the empty way round", program("always set0 end").idle(1), true);
        dueWanted("always " + times(37, "use0") + "set1 end", 38, 1);
    }

    private static void breakWay() {
        dueCompletes("always break end", true);
        dueCompletes("always " + times(38, "break") + "end", true);
        dueReached("always break end set0", "1101");
        dueReached("always loop break end end set0", "111010");
        dueReached("always loop end break end set0", "111101");
        dueReached("loop always break end return end set0", "1110101");
        dueWanted("loop use0 break end use1", 2, 2);
        dueSurely("always set0 break set1 end use0", 5, 1);
    }

    private static void continueWay() {
        dueCompletes("always continue end", false);
        dueCompletes("loop continue end", true);
        dueReached("loop continue end set0", "1101");
        dueReached("always continue end set0", "1100");
        dueReached("loop always continue end end set0", "111001");
        dueWanted("loop use0 continue end use1", 2, 3);
        dueWanted("loop use0 always use1 continue end end", 4, 2);
        dueSurely("loop set0 continue end use0", 4, 0);
    }

    private static void returnEnds() {
        dueCompletes("return", false);
        dueCompletes(times(40, "return"), false);
        dueReached("return set0", "10");
        dueReached("loop return set0 end", "1100");
        dueWanted("return use0", 0, 0);
        dueWanted("loop return use0 end", 1, 0);
        due("idle before the return", program("set0 return use0").idle(0), true);
    }

    private static void bothWaysEachTime() {
        // Also a second IF right behind a first one, and a LOOP that was gone round before.
        dueSurely("if set0 end if use0 end", 4, 0);
        due("doubts behind two choices", program("if set0 end if use0 end").doubts(), 1);
        dueWanted("loop if use0 else set0 end end", 3, 1);
        dueWanted("loop loop use0 end set0 end", 4, 0);
        dueReached("loop if if break end else if continue end end end set0", "1".repeat(12));
        dueCompletes("always loop break end if break end end", true);
    }

    private static void elseFromSideBefore() {
        DefiniteUse x = program("if return else set0 end use1");
        due("reached(else)", x.reached(2), false);
        due("reached behind the else", x.reached(3), true);
        due("surely(else)", x.surely(2), 63);
        due("wanted(else)", x.wanted(2), 2);
        due("surely(end)", x.surely(4), 1);
        dueReached("if else end", "111");
        dueReached("loop if break else continue end end", "1110100");
        dueWanted("return if else use0 end use1", 2, 2);
    }

    private static void askAll(DefiniteUse x, int p) {
        x.sound();
        x.reached(p);
        x.surely(p);
        x.doubts();
        x.completes();
        x.idle(p);
        x.idles();
        x.wanted(p);
        x.endOf(p);
    }

    private static void askingChangesNothing() {
        String[] programs = {
            "", "set0", "loop use0 set1 if break end end use1", "return if set3 else use3 end", "if else set2",
            "end end", times(40, "use4"), times(40, "if"), times(20, "loop") + times(20, "end")};
        int[] places = {0, 1, 39, 40, -1, Integer.MIN_VALUE, Integer.MAX_VALUE};
        for (String text : programs) {
            DefiniteUse x = program(text);
            for (int p : places) {
                askAll(x, p);
            }
            CHECKS.dueIs("asking of " + text, x, text);
            int size = Checks.words(text).length;
            due("the drop then, of " + text, x.drop(), size == 0 ? BAD_PLACE : size - 1);
        }
    }

    private static void dueNotSound(DefiniteUse x, int p) {
        due("reached(" + p + ")", x.reached(p), false);
        due("surely(" + p + ")", x.surely(p), NOT_SOUND);
        due("idle(" + p + ")", x.idle(p), false);
        due("wanted(" + p + ")", x.wanted(p), NOT_SOUND);
        due("endOf(" + p + ")", x.endOf(p), NOT_SOUND);
    }

    private static void notSound() {
        String[] programs = {
            "if", "set0 set1 if", "set0 set1 end", "set0 use1 break", "if end else", "loop end continue",
            "set0 use0 " + times(37, "set1") + "loop", times(40, "end")};
        for (String text : programs) {
            DefiniteUse x = program(text);
            due("sound of " + text, x.sound(), false);
            due("doubts of " + text, x.doubts(), NOT_SOUND);
            due("completes of " + text, x.completes(), false);
            due("idles of " + text, x.idles(), NOT_SOUND);
            for (int p = 0; p < Checks.words(text).length; p++) {
                dueNotSound(x, p);
            }
        }
        // What was worked out while it was sound is not answered once it is not.
        DefiniteUse x = program("set0 if end");
        due("idle while sound", x.idle(0), true);
        due("add", x.add(END, 0), 3);
        due("idle when not sound any more", x.idle(0), false);
        due("reached when not sound any more", x.reached(0), false);
        due("completes when not sound any more", x.completes(), false);
        due("endOf when not sound any more", x.endOf(1), NOT_SOUND);
        due("drop", x.drop(), 3);
        due("idle when sound again", x.idle(0), true);
        due("endOf when sound again", x.endOf(1), 2);
        DefiniteUse changed = program("set0 use1");
        due("completes while sound", changed.completes(), true);
        due("change", changed.change(1, END, 0), USE);
        due("completes when changed", changed.completes(), false);
        due("doubts when changed", changed.doubts(), NOT_SOUND);
        due("idles when changed", changed.idles(), NOT_SOUND);
        DefiniteUse dropped = program("if end");
        due("the drop", dropped.drop(), 1);
        due("completes without the end", dropped.completes(), false);
        due("reached without the end", dropped.reached(0), false);
    }

    private static void notSoundFirst() {
        for (String text : new String[] {"if", "end", times(40, "always")}) {
            DefiniteUse x = program(text);
            for (int p : Checks.NEVER_A_TOKEN) {
                dueNotSound(x, p);
            }
            dueNotSound(x, Checks.words(text).length);
        }
        DefiniteUse x = program("set0 end");
        due("endOf of what begins none", x.endOf(0), NOT_SOUND);
    }

    private static void dueBadPlace(DefiniteUse x, int p) {
        due("reached(" + p + ")", x.reached(p), false);
        due("surely(" + p + ")", x.surely(p), BAD_PLACE);
        due("idle(" + p + ")", x.idle(p), false);
        due("wanted(" + p + ")", x.wanted(p), BAD_PLACE);
        due("endOf(" + p + ")", x.endOf(p), BAD_PLACE);
    }

    private static void duePlaceGood(DefiniteUse x, int p, int wanted) {
        due("reached(" + p + ")", x.reached(p), true);
        due("surely(" + p + ")", x.surely(p), 0);
        due("wanted(" + p + ")", x.wanted(p), wanted);
    }

    private static void placeTooSmall() {
        DefiniteUse x = program("loop set0 end set1");
        for (int p : Checks.NEVER_A_TOKEN) {
            if (p < 0) {
                dueBadPlace(x, p);
            }
        }
        duePlaceGood(x, 0, 0);
        due("endOf(0)", x.endOf(0), 2);
        due("idle of the first", program("set0").idle(0), true);
    }

    private static void placeTooLarge() {
        DefiniteUse x = program("loop set0 end use1");
        dueBadPlace(x, 4);
        dueBadPlace(x, 5);
        for (int p : Checks.NEVER_A_TOKEN) {
            if (p > 0) {
                dueBadPlace(x, p);
            }
        }
        duePlaceGood(x, 3, 2);
        due("drop", x.drop(), 3);
        dueBadPlace(x, 3);
        DefiniteUse y = program("set0 set0 if end");
        y.drop();
        y.drop();
        due("idle of the last", y.idle(1), true);
        dueBadPlace(y, 2);
        dueBadPlace(y, 3);
    }

    private static void placeInNone() {
        DefiniteUse x = new DefiniteUse();
        dueBadPlace(x, 0);
        dueBadPlace(x, 1);
        for (int p : Checks.NEVER_A_TOKEN) {
            dueBadPlace(x, p);
        }
        DefiniteUse emptied = program("if end");
        emptied.drop();
        emptied.drop();
        dueBadPlace(emptied, 0);
        dueBadPlace(emptied, 1);
    }

    private static void placeInForty() {
        DefiniteUse x = program(times(39, "use0") + "use5");
        for (int p : Checks.NEVER_A_TOKEN) {
            dueBadPlace(x, p);
        }
        duePlaceGood(x, 0, 33);
        duePlaceGood(x, 39, 32);
        due("idle of the fortieth", program(times(40, "set0")).idle(39), true);
        due("endOf of the last that can begin", program(times(38, "set0") + "if end").endOf(38), 39);
    }

    private static void lastOfItsCalls() {
        DefiniteUse x = new DefiniteUse();
        for (int call = 1; call <= 480; call += 2) {
            due("add, call " + call, x.add(USE, 5), 0);
            due("drop, call " + (call + 1), x.drop(), 0);
        }
        for (int call = 481; call <= 511; call++) {
            due("add, call " + call, x.add(USE, 5), call - 481);
        }
        due("doubts, call 512", x.doubts(), 31);
    }
}
