/** Promise by promise: ordinary inputs, the edges that the document names, wrong inputs. */
public final class PromisesTest {
    private static final int SET = 0;
    private static final int USE = 1;
    private static final int IF = 2;
    private static final int LOOP = 4;
    private static final int END = 6;
    private static final int RETURN = 9;
    private static final int[] FAR_OFF = {-1, Integer.MIN_VALUE, Integer.MAX_VALUE, 40, 41, -5};

    private static final Checks CHECKS = new Checks();

    private static void due(String call, long got, long want) {
        CHECKS.due(call, got, want);
    }

    private static void due(String call, boolean got, boolean want) {
        CHECKS.due(call, got, want);
    }

    private static DefiniteUse program(String text) {
        return Checks.program(text);
    }

    public static void main(String[] args) {
        promise1NewObject();
        promise2Add();
        promise2AddFull();
        promise3Change();
        promise4Drop();
        promise5Sound();
        promise6Reached();
        promise7Surely();
        promise8Doubts();
        promise9Completes();
        promise10Idle();
        promise11Idles();
        promise12Wanted();
        promise13EndOf();
        promise14Order();
        askingAnUnsoundProgram();
        askingAWrongPlace();
        askingChangesNothing();
        objectsAreApart();
        CHECKS.finish();
    }

    private static void promise1NewObject() {
        DefiniteUse x = new DefiniteUse();
        due("new: sound", x.sound(), true);
        due("new: completes", x.completes(), true);
        due("new: doubts", x.doubts(), 0);
        due("new: idles", x.idles(), 0);
        due("new: reached(0)", x.reached(0), false);
        due("new: idle(0)", x.idle(0), false);
        due("new: surely(0)", x.surely(0), DefiniteUse.BAD_PLACE);
        due("new: wanted(0)", x.wanted(0), DefiniteUse.BAD_PLACE);
        due("new: endOf(0)", x.endOf(0), DefiniteUse.BAD_PLACE);
        due("new: change(0, 0, 0)", x.change(0, SET, 0), DefiniteUse.BAD_PLACE);
        due("new: drop", x.drop(), DefiniteUse.BAD_PLACE);
        due("new: add", x.add(SET, 0), 0);
    }

    private static void promise2Add() {
        DefiniteUse x = new DefiniteUse();
        due("add kind -1", x.add(-1, 0), DefiniteUse.BAD_KIND);
        due("add kind 10", x.add(10, 0), DefiniteUse.BAD_KIND);
        due("add least kind", x.add(Integer.MIN_VALUE, 0), DefiniteUse.BAD_KIND);
        due("add greatest kind", x.add(Integer.MAX_VALUE, 0), DefiniteUse.BAD_KIND);
        for (int kind = SET; kind <= USE; kind++) {
            due("add variable -1", x.add(kind, -1), DefiniteUse.BAD_VARIABLE);
            due("add variable 6", x.add(kind, 6), DefiniteUse.BAD_VARIABLE);
            due("add least variable", x.add(kind, Integer.MIN_VALUE), DefiniteUse.BAD_VARIABLE);
            due("add greatest variable", x.add(kind, Integer.MAX_VALUE), DefiniteUse.BAD_VARIABLE);
        }
        due("refused adds leave no token", x.drop(), DefiniteUse.BAD_PLACE);
        int number = 0;
        for (int v = 0; v < 6; v++) {
            due("add set " + v, x.add(SET, v), number++);
            due("add use " + v, x.add(USE, v), number++);
        }
        for (int kind = IF; kind <= RETURN; kind++) {
            due("v is not looked at, kind " + kind, x.add(kind, 6), number++);
            due("v is not looked at, kind " + kind, x.add(kind, -1), number++);
        }
        for (int p = 0; p < 12; p++) {
            due("kept kind of " + p, x.change(p, RETURN, 0), p % 2);
        }
        for (int p = 12; p < number; p++) {
            due("kept kind of " + p, x.change(p, RETURN, 0), IF + (p - 12) / 2);
        }
    }

    private static void promise2AddFull() {
        DefiniteUse x = new DefiniteUse();
        for (int p = 0; p < 40; p++) {
            due("add to forty", x.add(USE, p % 6), p);
        }
        due("add the 41st", x.add(USE, 0), DefiniteUse.FULL);
        due("add the 41st, other kind", x.add(IF, 0), DefiniteUse.FULL);
        due("full: sound", x.sound(), true);
        due("full: doubts", x.doubts(), 40);
        due("full: completes", x.completes(), true);
        due("full: reached(39)", x.reached(39), true);
        due("full: drop", x.drop(), 39);
        due("full: add again", x.add(SET, 5), 39);
        due("full: idle(39)", x.idle(39), true);
        due("full again", x.add(SET, 5), DefiniteUse.FULL);
    }

    private static void promise3Change() {
        DefiniteUse x = program("set0 if use0 end");
        due("change to use", x.change(0, USE, 1), SET);
        due("change back", x.change(0, SET, 0), USE);
        due("change the variable alone", x.change(2, USE, 3), USE);
        due("the changed variable counts", x.wanted(0), 8);
        due("change the begin", x.change(1, LOOP, 99), IF);
        due("still sound", x.sound(), true);
        due("change the end", x.change(3, RETURN, -7), END);
        due("not sound now", x.sound(), false);
        due("change while not sound", x.change(3, END, 0), RETURN);
        due("sound again", x.sound(), true);
        due("change behind the last", x.change(4, SET, 0), DefiniteUse.BAD_PLACE);
        for (int p : FAR_OFF) {
            due("change at " + p, x.change(p, SET, 0), DefiniteUse.BAD_PLACE);
        }
        due("change, kind 10", x.change(2, 10, 0), DefiniteUse.BAD_KIND);
        due("change, kind -1", x.change(2, -1, 0), DefiniteUse.BAD_KIND);
        due("change, variable 6", x.change(2, SET, 6), DefiniteUse.BAD_VARIABLE);
        due("change, variable -1", x.change(2, USE, -1), DefiniteUse.BAD_VARIABLE);
        due("refused changes leave the kind", x.change(2, USE, 3), USE);
        due("no token more", x.drop(), 3);
    }

    private static void promise4Drop() {
        DefiniteUse x = program("use0 if");
        due("unsound before the drop", x.sound(), false);
        due("drop the if", x.drop(), 1);
        due("sound behind the drop", x.sound(), true);
        due("dropped place", x.wanted(1), DefiniteUse.BAD_PLACE);
        due("change of the dropped place", x.change(1, SET, 0), DefiniteUse.BAD_PLACE);
        due("drop the use", x.drop(), 0);
        due("nothing doubted", x.doubts(), 0);
        due("drop of none", x.drop(), DefiniteUse.BAD_PLACE);
        due("drop of none again", x.drop(), DefiniteUse.BAD_PLACE);
        due("add behind drops", x.add(USE, 2), 0);
        due("the new token counts", x.wanted(0), 4);
    }

    private static void promise5Sound() {
        String[] sound = {
            "", "set0", "return", "return return", "if end", "if else end", "loop end", "always end",
            "if if else end else if else end end", "loop break end", "always continue end",
            "loop if if break else continue end end end", "loop loop end break end",
            "if loop end else loop break end end", "always loop end continue end",
            "if end if else end", "loop if else end if else end end", "return if end"};
        String[] notSound = {
            "if", "loop", "always", "end", "else", "if else", "if else else end", "loop else end",
            "always else end", "if loop else end end", "if loop end", "if end end", "end if",
            "break", "continue", "if break end", "if continue else end", "loop end break",
            "always end continue", "if else break end", "if end else", "if end else end",
            "loop loop end end break", "loop if end", "if else if else else end end",
            "if loop end break end", "return break", "return end", "loop if loop end end end else"};
        for (String text : sound) {
            due("sound: " + text, program(text).sound(), true);
        }
        for (String text : notSound) {
            due("sound: " + text, program(text).sound(), false);
        }
        due("20 deep", program("if ".repeat(20) + "end ".repeat(20).trim()).sound(), true);
        due("40 open", program("loop ".repeat(40).trim()).sound(), false);
        due("40 ends", program("end ".repeat(40).trim()).sound(), false);
    }

    /** The tokens that are reached, as a row of 1 and 0. */
    private static void dueReached(String text, String want) {
        DefiniteUse x = program(text);
        for (int p = 0; p < want.length(); p++) {
            due("reached(" + p + "): " + text, x.reached(p), want.charAt(p) == '1');
        }
        due("reached behind: " + text, x.reached(want.length()), false);
    }

    private static void promise6Reached() {
        dueReached("set0 use0", "11");
        dueReached("return use0", "10");
        dueReached("if else end", "111");
        dueReached("if return else end use0", "11011");
        dueReached("if return else return end use0", "110100");
        dueReached("if return end use0", "1111");
        dueReached("loop break end use0", "1101");
        dueReached("loop continue use0 end use0", "11001");
        dueReached("loop use0 end use0", "1111");
        dueReached("always use0 end use0", "1110");
        dueReached("always break end use0", "1101");
        dueReached("always if break end end use0", "111111");
        dueReached("always loop break end end use0", "111010");
        dueReached("always loop end break end use0", "111101");
        dueReached("return loop if else end end", "100000");
        dueReached("loop return end use0", "1101");
    }

    private static void dueSurely(String text, int... want) {
        DefiniteUse x = program(text);
        for (int p = 0; p < want.length; p++) {
            due("surely(" + p + "): " + text, x.surely(p), want[p]);
        }
        due("surely behind: " + text, x.surely(want.length), DefiniteUse.BAD_PLACE);
    }

    private static void promise7Surely() {
        dueSurely("set0 set5 use0 use1", 0, 1, 33, 33);
        dueSurely("if set0 end use0", 0, 0, 0, 0);
        dueSurely("if set0 set1 else set1 set2 end use1", 0, 0, 1, 3, 0, 2, 2, 2);
        dueSurely("if set0 else return end use0", 0, 0, 1, 0, 1, 1);
        dueSurely("if return else set0 end use0", 0, 0, 63, 0, 1, 1);
        dueSurely("loop set0 end use0", 0, 0, 1, 0);
        dueSurely("always set0 if break end end use0", 0, 0, 1, 1, 1, 1, 1);
        dueSurely("always if break end set0 end use0", 0, 0, 0, 0, 0, 1, 0);
        dueSurely("set1 loop if continue end set0 end use0", 0, 2, 2, 2, 2, 2, 3, 2);
        dueSurely("return use0 set1 use1", 0, 63, 63, 63);
        dueSurely("always end use0", 0, 0, 63);
        dueSurely("use3 set3 set3 use3", 0, 0, 8, 8);
    }

    private static void dueDoubts(String text, int want) {
        due("doubts: " + text, program(text).doubts(), want);
    }

    private static void promise8Doubts() {
        dueDoubts("use0", 1);
        dueDoubts("use0 use0", 2);
        dueDoubts("set0 use0", 0);
        dueDoubts("set0 use1", 1);
        dueDoubts("return use0", 0);
        dueDoubts("if set0 end use0", 1);
        dueDoubts("if set0 else set0 end use0", 0);
        dueDoubts("loop set0 end use0", 1);
        dueDoubts("loop use0 set0 end use0", 2);
        dueDoubts("always use0 end use1", 1);
        dueDoubts("if set0 else return end use0 use5", 1);
        dueDoubts("if end loop end", 0);
    }

    private static void dueCompletes(String text, boolean want) {
        due("completes: " + text, program(text).completes(), want);
    }

    private static void promise9Completes() {
        dueCompletes("", true);
        dueCompletes("set0", true);
        dueCompletes("return", false);
        dueCompletes("if return end", true);
        dueCompletes("if return else end", true);
        dueCompletes("if else return end", true);
        dueCompletes("if return else return end", false);
        dueCompletes("loop end", true);
        dueCompletes("loop return end", true);
        dueCompletes("always end", false);
        dueCompletes("always break end", true);
        dueCompletes("always if break end continue end", true);
        dueCompletes("always loop break end end", false);
        dueCompletes("always if return end end", false);
        dueCompletes("loop end return", false);
        dueCompletes("return if end", false);
        DefiniteUse x = program("return");
        x.drop();
        due("completes behind the drop of the return", x.completes(), true);
    }

    /** The tokens that are idle, as a row of 1 and 0; their count is what idles answers. */
    private static void dueIdle(String text, String want) {
        DefiniteUse x = program(text);
        int count = 0;
        for (int p = 0; p < want.length(); p++) {
            due("idle(" + p + "): " + text, x.idle(p), want.charAt(p) == '1');
            count += want.charAt(p) - '0';
        }
        due("idle behind: " + text, x.idle(want.length()), false);
        due("idles: " + text, x.idles(), count);
    }

    private static void promise10Idle() {
        dueIdle("set0", "1");
        dueIdle("set0 use0", "00");
        dueIdle("set0 use1", "10");
        dueIdle("set0 set0 use0", "100");
        dueIdle("set0 return use0", "100");
        dueIdle("return set0", "00");
        dueIdle("set0 if use0 end", "0000");
        dueIdle("set0 if set0 else set0 end use0", "1000000");
        dueIdle("set0 if set0 end use0", "00000");
        dueIdle("loop use0 set0 end", "0000");
        dueIdle("loop set0 use0 end", "0000");
        dueIdle("always set0 end", "010");
        dueIdle("always set0 end use0", "0100");
        dueIdle("set0 always set0 if break end end use0", "10000000");
        dueIdle("always use0 set0 continue end", "00000");
        dueIdle("loop set0 break end use0", "00000");
        dueIdle("use0 if else end loop end", "000000");
    }

    private static void promise11Idles() {
        due("idles of none", program("").idles(), 0);
        due("idles of forty", program("set3 ".repeat(40).trim()).idles(), 40);
        due("idles, the last one used", program("set3 ".repeat(39) + "use3").idles(), 38);
        due("idles not reached", program("set0 return set0 set1").idles(), 1);
        due("idles of other kinds", program("use0 loop end return").idles(), 0);
    }

    private static void dueWanted(String text, int... want) {
        DefiniteUse x = program(text);
        for (int p = 0; p < want.length; p++) {
            due("wanted(" + p + "): " + text, x.wanted(p), want[p]);
        }
        due("wanted behind: " + text, x.wanted(want.length), DefiniteUse.BAD_PLACE);
    }

    private static void promise12Wanted() {
        dueWanted("use0", 1);
        dueWanted("set0 use0 use5", 32, 33, 32);
        dueWanted("use0 set0 use0", 1, 0, 1);
        dueWanted("if use0 else use1 end use2", 7, 5, 4, 6, 4, 4);
        dueWanted("if set0 end use0", 1, 0, 1, 1);
        dueWanted("return use0", 0, 1);
        dueWanted("return loop use0 end use1", 0, 3, 3, 3, 2);
        dueWanted("loop use0 set0 end", 1, 1, 0, 1);
        dueWanted("always use1 end use0", 2, 2, 2, 1);
        dueWanted("always use1 break end use0", 3, 3, 1, 3, 1);
        dueWanted("always continue use1 end use0", 0, 0, 2, 0, 1);
        dueWanted("if return else use1 end use2", 6, 0, 4, 6, 4, 4);
        dueWanted("loop set0 continue end use0", 1, 0, 1, 1, 1);
    }

    private static void dueEnds(String text, int... want) {
        DefiniteUse x = program(text);
        for (int p = 0; p < want.length; p++) {
            due("endOf(" + p + "): " + text, x.endOf(p), want[p]);
        }
    }

    private static void promise13EndOf() {
        dueEnds("if end", 1, -5, -5);
        dueEnds("if else end", 2, -5, -5, -5);
        dueEnds("loop always if end end end", 5, 4, 3, -5, -5, -5, -5);
        dueEnds("if end loop end always end", 1, -5, 3, -5, 5, -5, -5);
        dueEnds("set0 use0 loop break continue end return", -5, -5, 5, -5, -5, -5, -5, -5);
        dueEnds("return if loop end else always end end", -5, 7, 3, -5, -5, 6, -5, -5);
        DefiniteUse x = program("if end end");
        due("endOf, not sound", x.endOf(0), DefiniteUse.NOT_SOUND);
        x.drop();
        due("endOf, sound again", x.endOf(0), 1);
        x.change(0, SET, 0);
        x.change(1, SET, 0);
        due("endOf of what is no begin any more", x.endOf(0), DefiniteUse.BAD_PLACE);
    }

    private static void promise14Order() {
        DefiniteUse x = program("set0 ".repeat(40).trim());
        due("add: kind before full", x.add(10, 0), DefiniteUse.BAD_KIND);
        due("add: kind before variable", x.add(-1, 6), DefiniteUse.BAD_KIND);
        due("add: variable before full", x.add(SET, 6), DefiniteUse.BAD_VARIABLE);
        due("add: full last", x.add(SET, 5), DefiniteUse.FULL);
        due("add: full, v not looked at", x.add(IF, 6), DefiniteUse.FULL);
        due("change: place before kind", x.change(40, 10, 6), DefiniteUse.BAD_PLACE);
        due("change: place before variable", x.change(-1, USE, 6), DefiniteUse.BAD_PLACE);
        due("change: kind before variable", x.change(0, 10, 6), DefiniteUse.BAD_KIND);
        due("change: variable", x.change(0, USE, 6), DefiniteUse.BAD_VARIABLE);
        due("change: v not looked at", x.change(39, RETURN, 6), SET);
    }

    private static void askingAnUnsoundProgram() {
        DefiniteUse x = program("set0 use1 if");
        due("unsound: sound", x.sound(), false);
        due("unsound: doubts", x.doubts(), DefiniteUse.NOT_SOUND);
        due("unsound: idles", x.idles(), DefiniteUse.NOT_SOUND);
        due("unsound: completes", x.completes(), false);
        for (int p = -1; p <= 3; p++) {
            dueUnsoundAt(x, p);
        }
        for (int p : FAR_OFF) {
            dueUnsoundAt(x, p);
        }
    }

    private static void dueUnsoundAt(DefiniteUse x, int p) {
        due("unsound: reached " + p, x.reached(p), false);
        due("unsound: idle " + p, x.idle(p), false);
        due("unsound: surely " + p, x.surely(p), DefiniteUse.NOT_SOUND);
        due("unsound: wanted " + p, x.wanted(p), DefiniteUse.NOT_SOUND);
        due("unsound: endOf " + p, x.endOf(p), DefiniteUse.NOT_SOUND);
    }

    private static void askingAWrongPlace() {
        DefiniteUse x = program("if set0 end");
        due("wrong place: just behind", x.surely(3), DefiniteUse.BAD_PLACE);
        for (int p : FAR_OFF) {
            due("wrong place: reached " + p, x.reached(p), false);
            due("wrong place: idle " + p, x.idle(p), false);
            due("wrong place: surely " + p, x.surely(p), DefiniteUse.BAD_PLACE);
            due("wrong place: wanted " + p, x.wanted(p), DefiniteUse.BAD_PLACE);
            due("wrong place: endOf " + p, x.endOf(p), DefiniteUse.BAD_PLACE);
        }
    }

    private static void askingChangesNothing() {
        DefiniteUse x = program("loop use0 set0 if break end end set1");
        for (int time = 0; time < 3; time++) {
            due("again: sound", x.sound(), true);
            due("again: completes", x.completes(), true);
            due("again: doubts", x.doubts(), 1);
            due("again: idles", x.idles(), 1);
            due("again: reached", x.reached(4), true);
            due("again: surely", x.surely(4), 1);
            due("again: idle", x.idle(7), true);
            due("again: wanted", x.wanted(5), 1);
            due("again: endOf", x.endOf(0), 6);
        }
        due("asked: drop", x.drop(), 7);
    }

    private static void objectsAreApart() {
        DefiniteUse one = program("use0");
        DefiniteUse other = program("set0 if");
        due("apart: one is sound", one.sound(), true);
        due("apart: other is not", other.sound(), false);
        due("apart: one's doubts", one.doubts(), 1);
        due("apart: one's drop", one.drop(), 0);
        due("apart: other's drop", other.drop(), 1);
    }
}
