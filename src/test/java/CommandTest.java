import java.util.NoSuchElementException;

/** Promises 54 to 57: the input buffer, programs, error positions and failed commands. */
public final class CommandTest {
    private static final Checks CHECKS = new Checks();
    private static final Class<IllegalArgumentException> ARGUMENT = IllegalArgumentException.class;
    private static final Class<IllegalStateException> STATE = IllegalStateException.class;
    private static final Class<NoSuchElementException> ELEMENT = NoSuchElementException.class;

    public static void main(String[] args) {
        appending();
        everyCommand();
        numbers();
        tenCommands();
        errorPositions();
        prefixes();
        failures();
        allOrNone();
        CHECKS.end();
    }

    private static void appending() {
        RiverParcelService x = new RiverParcelService();
        CHECKS.refused("54: below the range", ARGUMENT, () -> x.append((char) 31));
        CHECKS.refused("54: above the range", ARGUMENT, () -> x.append((char) 127));
        CHECKS.refused("54: far above the range", ARGUMENT, () -> x.append((char) 65535));
        CHECKS.refused("54: far below the range", ARGUMENT, () -> x.append((char) 0));
        CHECKS.due("54: the first of the range", 1, x.append(' '));
        CHECKS.due("54: the last of the range", 2, x.append('~'));
        for (int i = 3; i <= 60; i++) {
            CHECKS.due("54: append", i, x.append('p'));
        }
        CHECKS.refused("54: full", STATE, () -> x.append('p'));
        CHECKS.refused("54: the character comes first", ARGUMENT, () -> x.append((char) 127));
        CHECKS.refused("55: malformed", ARGUMENT, x::run);
        CHECKS.due("55: the buffer is empty afterwards", 1, x.append('p'));
        CHECKS.due("58: append is no change", 0, x.undoableCount());
    }

    private static void everyCommand() {
        RiverParcelService x = new RiverParcelService();
        CHECKS.due("55: place", 3, Scenes.run(x, "place;place;place"));
        CHECKS.due("55: places", 3, x.placeCount());
        CHECKS.due("55: link", 2, Scenes.run(x, "link 01 9/5;link 20 3/4"));
        CHECKS.due("55: from", 2, x.linkFrom(1));
        CHECKS.due("55: to", 0, x.linkTo(1));
        CHECKS.due("55: hours", 3, x.travelTime(1));
        CHECKS.due("55: phase", false, x.isOpenAt(1, 4));
        CHECKS.due("55: block", 1, Scenes.run(x, "block 1"));
        CHECKS.due("55: blocked", true, x.isBlocked(1));
        CHECKS.due("55: open", 1, Scenes.run(x, "open 1"));
        CHECKS.due("55: opened", false, x.isBlocked(1));
        CHECKS.due("55: post", 3, Scenes.run(x, "post 01 7*12;post 20 3*1;post 10 1*5"));
        CHECKS.due("55: its place", 2, x.placeOf(1));
        CHECKS.due("55: its destination", 0, x.destinationOf(1));
        CHECKS.due("55: its weight", 7, x.weightOf(0));
        CHECKS.due("55: its stamps", 12, x.stampsOf(0));
        CHECKS.due("55: send", 1, Scenes.run(x, "send 1 1"));
        CHECKS.due("55: sent", 1, x.linkOf(1));
        CHECKS.due("55: stamp", 1, Scenes.run(x, "stamp 0 8"));
        CHECKS.due("55: stamps", 20, x.stampsOf(0));
        CHECKS.due("55: return", 1, Scenes.run(x, "return 2"));
        CHECKS.due("55: taken back", 1, x.takenBackTotal());
        CHECKS.due("55: dispatch", 1, Scenes.run(x, "dispatch"));
        CHECKS.due("55: dispatched", 0, x.linkOf(0));
        CHECKS.due("55: hours without a number", 1, Scenes.run(x, "hours"));
        CHECKS.due("55: hour", 1, x.hour());
        CHECKS.due("55: hours with a number", 2, Scenes.run(x, "hours 12;hours"));
        CHECKS.due("55: hour afterwards", 14, x.hour());
        CHECKS.due("55: delivered", 2, x.deliveredTotal());
        CHECKS.refused("56: no program was malformed", ELEMENT, x::errorPosition);
        CHECKS.refused("57: no command failed", ELEMENT, x::failedCommand);
    }

    private static void numbers() {
        RiverParcelService x = Scenes.places(2);
        x.addLink(0, 1, 1, 0);
        CHECKS.due("55: leading zeros", 2, Scenes.run(x, "hours 007;block 000"));
        CHECKS.due("55: 7 hours", 7, x.hour());
        CHECKS.due("55: three digits", 1, Scenes.run(x, "hours 120"));
        CHECKS.due("55: 127 hours", 127, x.hour());
        CHECKS.due("55: post with leading zeros", 1, Scenes.run(x, "post 01 1*020"));
        CHECKS.due("55: 20 stamps", 20, x.stampsOf(0));
        RiverParcelService y = Scenes.places(2);
        for (int i = 0; i < 101; i++) {
            y.post(0, 1, 1, i % 7);
            y.takeBack(i);
        }
        y.post(0, 1, 1, 3);
        CHECKS.due("55: an id of three digits", 1, Scenes.run(y, "stamp 101 10"));
        CHECKS.due("55: 13 stamps", 13, y.stampsOf(101));
    }

    private static void tenCommands() {
        RiverParcelService x = new RiverParcelService();
        String nine = "hours;hours;hours;hours;hours;hours;hours;hours;hours";
        CHECKS.due("55: ten commands", 10, Scenes.run(x, nine + ";place"));
        CHECKS.due("55: all were executed", 10, x.hour() + x.placeCount());
        CHECKS.due("58: a run is one change", 1, x.undoableCount());
        Scenes.type(x, nine + ";place;");
        CHECKS.refused("55: an eleventh is missing", ARGUMENT, x::run);
        CHECKS.due("56: at the length", 60, x.errorPosition());
        CHECKS.due("55: none was executed", 1, x.placeCount());
    }

    private static void malformed(String text, int position) {
        RiverParcelService x = Scenes.places(2);
        Scenes.type(x, text);
        CHECKS.refused("55: '" + text + "'", ARGUMENT, x::run);
        CHECKS.due("56: '" + text + "'", position, x.errorPosition());
        CHECKS.refused("57: '" + text + "'", ELEMENT, x::failedCommand);
        CHECKS.due("55: '" + text + "' leaves the places", 2, x.placeCount());
        CHECKS.due("55: '" + text + "' is no change", 2, x.undoableCount());
        CHECKS.due("55: '" + text + "' leaves the buffer empty", 1, x.append('p'));
    }

    private static void errorPositions() {
        malformed("x", 0);
        malformed(" place", 0);
        malformed("Place", 0);
        malformed("PLACE", 0);
        malformed(";", 0);
        malformed("plase", 3);
        malformed("places", 5);
        malformed("place ", 5);
        malformed("place; place", 6);
        malformed("place;;place", 6);
        malformed("place;hour;", 10);
        malformed("pxst 01 1*1", 1);
        malformed("stemp 0 1", 2);
        malformed("stand 0 1", 3);
        malformed("sand 0 1", 1);
        malformed("link01 1/1", 4);
        malformed("link 0 1 1/1", 6);
        malformed("link 011 1/1", 7);
        malformed("link 01 12/1", 9);
        malformed("link 01 1*1", 9);
        malformed("link 01 1/x", 10);
        malformed("link 01 1/12", 11);
        malformed("block x", 6);
        malformed("block  1", 6);
        malformed("block 1x", 7);
        malformed("block 1234", 9);
        malformed("block -1", 6);
        malformed("open 1 ", 6);
        malformed("post 01 1/1", 9);
        malformed("post 01 12*1", 9);
        malformed("post 01 1*1234", 13);
        malformed("send 1;", 6);
        malformed("send 1234 1", 8);
        malformed("send 1  1", 7);
        malformed("stamp 1 1 1", 9);
        malformed("return", 6);
        malformed("returns", 6);
        malformed("return 12a", 9);
        malformed("dispatch 1", 8);
        malformed("dispatch;x", 9);
        malformed("hours1", 5);
        malformed("hours x", 6);
        malformed("hours ;", 6);
        malformed("hours 1234", 9);
        malformed("hours 1 1", 7);
        malformed("hours,place", 5);
        malformed("block /", 6);
        malformed("block :", 6);
    }

    /** Each proper prefix of a program that is no program itself is malformed at its length. */
    private static void prefixes() {
        malformed("", 0);
        String[] programs = {"place;place", "link 01 1/1", "block 1", "open 123", "post 01 1*12",
            "send 12 123", "stamp 1 1", "return 1", "dispatch", "hours 12", "hours;hours 1"};
        for (String program : programs) {
            for (int i = 0; i < program.length(); i++) {
                String prefix = program.substring(0, i);
                char last = i == 0 ? ' ' : prefix.charAt(i - 1);
                boolean whole = prefix.endsWith("place") || prefix.endsWith("hours")
                        || last >= '0' && last <= '9' && numberIsLast(prefix);
                if (!whole) {
                    malformed(prefix, i);
                }
            }
        }
    }

    private static boolean numberIsLast(String prefix) {
        return prefix.matches(".*(block|open|return|hours) \\d+|(send|stamp) \\d+ \\d+|post.*\\*\\d+");
    }

    private static void fails(RiverParcelService x, String text, int index) {
        Scenes.type(x, text);
        CHECKS.refused("55: '" + text + "'", STATE, x::run);
        CHECKS.due("57: '" + text + "'", index, x.failedCommand());
        CHECKS.due("55: '" + text + "' leaves the buffer empty", 1, x.append('p'));
        CHECKS.refused("55: p", ARGUMENT, x::run);
        CHECKS.due("57: a malformed program leaves it", index, x.failedCommand());
    }

    private static void failures() {
        RiverParcelService x = Scenes.places(2);
        x.addLink(0, 1, 1, 0);
        x.post(0, 1, 9, 20);
        fails(x, "link 00 1/1", 0);
        fails(x, "place;link 03 1/1", 1);
        fails(x, "hours;link 01 0/1", 1);
        fails(x, "hours;hours;link 01 1/6", 2);
        fails(x, "block 1", 0);
        fails(x, "block 0;block 0", 1);
        fails(x, "open 0", 0);
        fails(x, "post 01 0*1", 0);
        fails(x, "post 01 1*21", 0);
        fails(x, "post 02 1*1", 0);
        fails(x, "send 1 0", 0);
        fails(x, "send 0 1", 0);
        fails(x, "send 0 0", 0);
        fails(x, "hours;send 0 0;send 0 0", 2);
        fails(x, "stamp 0 1", 0);
        fails(x, "stamp 0 0", 0);
        fails(x, "stamp 1 1", 0);
        fails(x, "return 1", 0);
        fails(x, "hours;dispatch;return 0", 2);
        fails(x, "hours 0", 0);
        fails(x, "hours 121", 0);
        fails(x, "hours 999;block 9", 0);
        fails(x, "place;place;place;place;place;place;place;place", 7);
        CHECKS.due("55: none was executed", 2, x.placeCount());
        CHECKS.due("55: no hour has passed", 0, x.hour());
        CHECKS.due("55: it still waits", 0, x.placeOf(0));
    }

    private static void allOrNone() {
        RiverParcelService x = Scenes.places(2);
        x.addLink(0, 1, 1, 5);
        x.post(0, 1, 2, 2);
        Scenes.type(x, "post 01 1*1;block 0;open 0;dispatch;hours 3;return 9");
        CHECKS.refused("55: the last one fails", STATE, x::run);
        CHECKS.due("57: its index", 5, x.failedCommand());
        CHECKS.due("55: posted", 1, x.postedTotal());
        CHECKS.due("55: delivered", 0, x.deliveredTotal());
        CHECKS.due("55: used stamps", 0, x.usedStamps());
        CHECKS.due("55: hour", 0, x.hour());
        CHECKS.due("55: undoable", 4, x.undoableCount());
        CHECKS.due("6: the next free id", 1, x.post(0, 1, 1, 1));
        Scenes.type(x, "place;x");
        CHECKS.refused("55: malformed behind a good command", ARGUMENT, x::run);
        CHECKS.due("55: it was not executed", 2, x.placeCount());
        CHECKS.due("55: dispatch and the hours", 3, Scenes.run(x, "dispatch;hours;dispatch"));
        CHECKS.due("55: delivered", 2, x.deliveredTotal());
    }
}
