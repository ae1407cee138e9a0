import java.util.regex.Matcher;
import java.util.regex.Pattern;

/** The term Commands, and promises 54 to 57. */
final class ProgramBounds extends Bounds {
    private static final String NUMBER = "\\d{1,3}";
    private static final Pattern PROGRAM = programs();
    private static final String[] COMMANDS = {"place", "link 01 2/5", "block 0", "open 12", "post 01 9*20",
        "send 0 119", "stamp 120 1", "return 7", "dispatch", "hours 120", "hours"};

    ProgramBounds(Checks checks, Sentences sentences) {
        super(checks, sentences);
    }

    private static Pattern programs() {
        String command = "(place|link \\d\\d \\d/\\d|block N|open N|post \\d\\d \\d\\*N|send N N|stamp N N|return N"
                + "|dispatch|hours( N)?)";
        return Pattern.compile("C(;C)*".replace("C", command).replace("N", NUMBER));
    }

    @Override
    void test() {
        in("Terms");
        says("The input buffer holds up to 60 characters.", this::sixtyCharacters);
        grammar();
        says("The commands correspond to the methods addPlace, addLink, block, open, post, send, addStamps, takeBack,"
                + " dispatch and pass, with the arguments in the same order; hours without a number means one hour.",
                this::commandsAsMethods);
        says("The error position of a malformed program is the index of the first character that no valid program can"
                + " have there after the characters before it, or the length of the program if it is a proper prefix"
                + " of a valid program.", this::errorPositions);
        says("Keywords are matched letter by letter.", this::keywords);
        promise(54);
        says("Throws `IllegalArgumentException` if the character is not in the range from ' ' to '~'",
                this::characters);
        says("Throws `IllegalStateException` if the buffer contains 60 characters", this::fullBuffer);
        promise(55);
        run();
        promise(56);
        says("Returns the error position of the latest malformed program.", this::latestErrorPosition);
        says("Throws `NoSuchElementException` if no program was malformed so far", this::noErrorPosition);
        promise(57);
        says("Returns the index of the latest command that failed.", this::latestFailedCommand);
        says("Throws `NoSuchElementException` if no command failed so far", this::noFailedCommand);
    }

    private void grammar() {
        says("A program in the input buffer has this grammar, where { x } means zero or more repetitions of x, [ x ]"
                + " means that x is optional, and a vertical bar separates alternatives:", () -> {
                    malformed("", 0);
                    malformed(" ", 0);
                    malformed("{place}", 0);
                    fine("hours", 1);
                    fine("hours 1", 1);
                });
        says("program = command { \";\" command }", this::repetitions);
        says("command = \"place\" | \"link \" digit digit \" \" digit \"/\" digit | \"block \" number | \"open \""
                + " number | \"post \" digit digit \" \" digit \"*\" number | \"send \" number \" \" number |"
                + " \"stamp \" number \" \" number | \"return \" number | \"dispatch\" | \"hours\" [ \" \" number ]",
                this::nearCommands);
        says("number = digit | digit digit | digit digit digit", this::numbers);
    }

    /** The first index at which no program can go on, or the length, as regular expressions see it. */
    private static int errorPosition(String text) {
        for (int i = 1; i <= text.length(); i++) {
            Matcher matcher = PROGRAM.matcher(text.substring(0, i));
            if (!matcher.matches() && !matcher.hitEnd()) {
                return i - 1;
            }
        }
        return text.length();
    }

    private static String hours(int length) {
        return "hours;".repeat(10).substring(0, length);
    }

    private static String places(int length) {
        return hours(length).replace("hours", "place");
    }

    private void fine(String text, int commands) {
        RiverParcelService x = Scenes.places(0);
        due("'" + text + "'", commands, Checks.outcomeOf(() -> Scenes.run(x, text)));
        due("the buffer behind '" + text + "'", 1, x.append('p'));
        due("changes behind '" + text + "'", 1, x.undoableCount());
        refused("the error position behind '" + text + "'", ELEMENT, x::errorPosition);
    }

    private void malformed(String text, int position) {
        RiverParcelService x = Scenes.places(2);
        refused("'" + text + "'", ARGUMENT, () -> Scenes.run(x, text));
        due("the error position of '" + text + "'", position, x.errorPosition());
        due("the buffer behind '" + text + "'", 1, x.append('p'));
        due("the state behind '" + text + "'", Refusals.sizes(Scenes.places(2)), Refusals.sizes(x));
    }

    private void fails(String text, int command) {
        RiverParcelService x = Scenes.mixed();
        refused("'" + text + "'", STATE, () -> Scenes.run(x, text));
        due("the failed command of '" + text + "'", command, x.failedCommand());
        refused("the error position of '" + text + "'", ELEMENT, x::errorPosition);
        due("the buffer behind '" + text + "'", 1, x.append('p'));
        due("the state behind '" + text + "'", Refusals.sizes(Scenes.mixed()), Refusals.sizes(x));
    }

    private void sixtyCharacters() {
        RiverParcelService x = new RiverParcelService();
        Scenes.type(x, "place;place;place;place;place;place;place;place;place");
        Scenes.type(x, " ".repeat(6));
        due("the last one", 60, x.append(' '));
        refused("one more", STATE, () -> x.append(' '));
        refused("all 60 are read", ARGUMENT, x::run);
        due("the error position", 53, x.errorPosition());
        RiverParcelService y = new RiverParcelService();
        Scenes.type(y, "hours 01;hours 02;hours 03;hours 04;hours 05;hours 006;hours");
        refused("a 61st character", STATE, () -> y.append('7'));
        due("it is not read", 7, y.run());
        due("the hour", 22, y.hour());
    }

    private void repetitions() {
        fine("place", 1);
        fine("place;hours", 2);
        fine(hours(59), 10);
        malformed(hours(60), 60);
        malformed(hours(58), 58);
        malformed(";place", 0);
        malformed("place;", 6);
        malformed("place;;place", 6);
        malformed("place; place", 6);
        malformed("place ;place", 5);
        malformed("place,place", 5);
        malformed("placeplace", 5);
        for (String command : COMMANDS) {
            malformed(command + ";", command.length() + 1);
            malformed(command + ";;", command.length() + 1);
            malformed("hours;" + command + "x", 6 + errorPosition(command + "x"));
        }
    }

    /** Each command with one sign changed, added or left out is read as the grammar reads it. */
    private void nearCommands() {
        for (String command : COMMANDS) {
            read(command);
            for (int i = 0; i <= command.length(); i++) {
                String before = command.substring(0, i);
                String behind = command.substring(i);
                String rest = behind.isEmpty() ? "" : behind.substring(1);
                read(before);
                read(before + rest);
                for (char sign = ' '; sign <= '~'; sign++) {
                    read(before + sign + rest);
                    read(before + sign + behind);
                }
            }
        }
    }

    private void read(String text) {
        RiverParcelService x = new RiverParcelService();
        Scenes.type(x, text);
        Object outcome = Checks.outcomeOf(x::run);
        boolean valid = PROGRAM.matcher(text).matches();
        due("'" + text + "' is malformed", !valid, ARGUMENT.getSimpleName().equals(outcome));
        due("the error position of '" + text + "'", valid ? ELEMENT.getSimpleName() : errorPosition(text),
                Checks.outcomeOf(x::errorPosition));
    }

    private void numbers() {
        String[] fine = {"1", "9", "01", "10", "99", "001", "010", "100", "119", "120"};
        for (String number : fine) {
            RiverParcelService x = new RiverParcelService();
            due("hours " + number, 1, Scenes.run(x, "hours " + number));
            due("its hour", Integer.parseInt(number), x.hour());
        }
        for (String number : new String[] {"0", "00", "000", "121", "999"}) {
            fails("hours " + number, 0);
        }
        for (String number : new String[] {"0001", "1200", "9999"}) {
            malformed("hours " + number, 9);
            malformed("block " + number, 9);
            malformed("open " + number, 8);
            malformed("post 01 1*" + number, 13);
            malformed("send " + number + " 0", 8);
            malformed("send 0 " + number, 10);
            malformed("stamp 0 " + number, 11);
            malformed("return " + number, 10);
        }
        malformed("hours -1", 6);
        malformed("hours +1", 6);
        malformed("hours /", 6);
        malformed("hours :", 6);
        largeNumbers();
    }

    private void largeNumbers() {
        RiverParcelService x = Scenes.places(2);
        x.addLink(0, 1, 1, 5);
        for (int i = 0; i < 123; i++) {
            x.post(0, 1, 1, 1);
            x.takeBack(i);
        }
        x.post(0, 1, 1, 1);
        due("an id of three digits", 3, Scenes.run(x, "stamp 123 019;send 123 000;hours 001"));
        due("it was sent", 1, x.deliveredTotal());
    }

    private void commandsAsMethods() {
        RiverParcelService x = Scenes.places(2);
        Scenes.run(x, "place;link 02 9/5;link 20 1/0;post 02 7*12;post 20 3*1");
        due("place", 3, x.placeCount());
        due("link, from", 2, x.linkFrom(1));
        due("link, to", 2, x.linkTo(0));
        due("link, hours", 9, x.travelTime(0));
        due("link, phase", false, x.isOpenAt(0, 5));
        due("post, from", 2, x.placeOf(1));
        due("post, to", 0, x.destinationOf(1));
        due("post, weight", 7, x.weightOf(0));
        due("post, stamps", 12, x.stampsOf(0));
        Scenes.run(x, "block 1;stamp 0 8;send 0 0;return 1");
        due("block", true, x.isBlocked(1));
        due("stamp and send", 19, x.stampsOf(0));
        due("send", 9, x.arrivalOf(0));
        due("return", 1, x.takenBackTotal());
        Scenes.run(x, "open 1;post 02 1*1;dispatch;hours 3;hours");
        due("open", false, x.isBlocked(1));
        due("dispatch", true, x.isTravelling(2));
        due("hours 3 and one hour", 4, x.hour());
        failures();
    }

    /** Each command fails where its method throws. */
    private void failures() {
        fails("hours;link 02 1/1", 1);
        fails("link 00 1/1", 0);
        fails("link 01 0/1", 0);
        fails("link 01 1/6", 0);
        fails("block 2", 0);
        fails("block 1;block 1", 1);
        fails("open 2", 0);
        fails("open 1", 0);
        fails("post 20 1*1", 0);
        fails("post 11 1*1", 0);
        fails("post 01 0*1", 0);
        fails("post 01 1*21", 0);
        fails("send 4 0", 0);
        fails("send 2 2", 0);
        fails("send 3 0", 0);
        fails("stamp 4 1", 0);
        fails("stamp 2 0", 0);
        fails("stamp 2 19", 0);
        fails("return 0", 0);
        fails("return 3", 0);
        fails("hours 0", 0);
        fails("hours 121", 0);
        fails(places(47), 7);
    }

    private void errorPositions() {
        String[] programs = {"place;place", "link 01 1/1;place", "block 1;open 2", "open 123;block 1", "post 01 1*12",
            "send 12 123;send 1 1", "stamp 1 1;return 1", "return 1;stamp 1 1", "dispatch;hours 1", "hours;hours 12"};
        for (String program : programs) {
            for (int i = 0; i <= program.length(); i++) {
                String prefix = program.substring(0, i);
                if (!PROGRAM.matcher(prefix).matches()) {
                    malformed(prefix, i);
                }
                malformed(prefix + '?', i);
            }
        }
        malformed("x", 0);
        malformed("placex", 5);
        malformed("hours 12x", 8);
        malformed("hours 123 ", 9);
        malformed("dispatch;hourz", 13);
        malformed("~".repeat(60), 0);
        malformed(hours(60), 60);
        malformed(hours(59).substring(0, 58) + 'f', 58);
    }

    private void keywords() {
        for (String command : COMMANDS) {
            malformed(command.toUpperCase(), 0);
            int end = command.indexOf(' ') < 0 ? command.length() : command.indexOf(' ');
            for (int i = 0; i < end; i++) {
                String other = command.substring(0, i) + Character.toUpperCase(command.charAt(i));
                malformed(other + command.substring(i + 1), i);
            }
        }
        malformed("stend 0 1", 2);
        malformed("stace", 3);
        malformed("plost 01 1*1", 2);
        malformed("posh", 3);
        malformed("opel 1", 3);
        malformed("dispatches", 8);
        malformed("hour", 4);
    }

    private void characters() {
        for (int sign = 0; sign < 300; sign++) {
            RiverParcelService x = Scenes.places(1);
            x.append('p');
            char c = (char) sign;
            boolean fine = sign >= 32 && sign <= 126;
            due("character " + sign, fine ? 2 : ARGUMENT.getSimpleName(), Checks.outcomeOf(() -> x.append(c)));
            due("afterwards, " + sign, fine ? 3 : 2, x.append('p'));
        }
        refused("the greatest one", ARGUMENT, () -> new RiverParcelService().append(Character.MAX_VALUE));
    }

    private void fullBuffer() {
        RiverParcelService x = new RiverParcelService();
        for (int i = 1; i <= 60; i++) {
            due("characters in it", i, x.append(i % 6 == 0 ? ';' : 'p'));
        }
        refused("full", STATE, () -> x.append('p'));
        refused("still full", STATE, () -> x.append('~'));
        refused("malformed", ARGUMENT, x::run);
        due("empty again", 1, x.append('p'));
    }

    private void run() {
        says("Either all commands are executed or none.", () -> {
            fails("place;link 02 1/1;post 02 1*1;hours;dispatch;return 0", 5);
            fails("hours;block 0;open 0;stamp 2 1;send 2 1;hours 3;return 2", 6);
            fails("return 2;hours 9;post 01 9*20;place;return 5", 4);
            malformed("place;place;place!", 17);
            fine("place;place;link 01 1/5;post 01 1*1;dispatch;hours;place", 7);
        });
        says("The buffer is empty afterwards, even if an exception is thrown.", () -> {
            RiverParcelService x = Scenes.places(1);
            due("it returns", 1, Scenes.run(x, "hours 2"));
            refused("nothing is left of it", ARGUMENT, x::run);
            due("an empty program", 0, x.errorPosition());
            refused("it is malformed", ARGUMENT, () -> Scenes.run(x, "hours 2;"));
            refused("nothing is left of the malformed one", ARGUMENT, x::run);
            due("an empty program again", 0, x.errorPosition());
            refused("it fails", STATE, () -> Scenes.run(x, "hours 2;block 0"));
            due("nothing is left of the failed one", 1, Scenes.run(x, "hours"));
            due("the hour", 3, x.hour());
        });
        says("Returns the number of commands.", () -> {
            for (int i = 1; i <= 10; i++) {
                due("commands", i, Scenes.run(new RiverParcelService(), "hours;".repeat(i).substring(0, i * 6 - 1)));
            }
        });
        says("Throws `IllegalArgumentException` if the program is malformed; the error position is stored", () -> {
            malformed("", 0);
            malformed("p", 1);
            malformed("block 0;x", 8);
            malformed(hours(60), 60);
        });
        says("Throws `IllegalStateException` if the method of a command throws an exception; the index of this command,"
                + " starting at 0, is stored", () -> {
                    fails("open 0", 0);
                    fails("hours;open 0", 1);
                    RiverParcelService x = new RiverParcelService();
                    refused("the tenth command", STATE, () -> Scenes.run(x, places(59)));
                    due("its index", 9, x.failedCommand());
                    due("none was executed", 0, x.placeCount());
                    due("nine places and an hour", 10, Scenes.run(x, places(54) + "hours"));
                });
    }

    private void latestErrorPosition() {
        RiverParcelService x = Scenes.places(1);
        Checks.outcomeOf(() -> Scenes.run(x, "place!"));
        due("the first one", 5, x.errorPosition());
        Checks.outcomeOf(() -> Scenes.run(x, "!"));
        due("a later one", 0, x.errorPosition());
        Scenes.run(x, "hours");
        due("a program that is fine leaves it", 0, x.errorPosition());
        Checks.outcomeOf(() -> Scenes.run(x, "hours;hours;open 0"));
        due("a failed command leaves it", 0, x.errorPosition());
        Checks.outcomeOf(() -> Scenes.run(x, hours(60)));
        due("the greatest one", 60, x.errorPosition());
    }

    private void noErrorPosition() {
        RiverParcelService x = Scenes.places(1);
        refused("at first", ELEMENT, x::errorPosition);
        Scenes.run(x, "hours");
        refused("behind a program that is fine", ELEMENT, x::errorPosition);
        Checks.outcomeOf(() -> Scenes.run(x, "open 0"));
        refused("behind a failed command", ELEMENT, x::errorPosition);
        Checks.outcomeOf(x::run);
        due("behind an empty program", 0, x.errorPosition());
    }

    private void latestFailedCommand() {
        RiverParcelService x = Scenes.places(1);
        Checks.outcomeOf(() -> Scenes.run(x, "hours;hours;open 0"));
        due("the first one", 2, x.failedCommand());
        Checks.outcomeOf(() -> Scenes.run(x, "open 0"));
        due("a later one", 0, x.failedCommand());
        Scenes.run(x, "hours");
        due("a program that is fine leaves it", 0, x.failedCommand());
        Checks.outcomeOf(() -> Scenes.run(x, "hours;!"));
        due("a malformed program leaves it", 0, x.failedCommand());
        Checks.outcomeOf(() -> Scenes.run(x, places(59)));
        due("a command that has no room", 8, x.failedCommand());
        Checks.outcomeOf(() -> x.block(0));
        due("a refused call leaves it", 8, x.failedCommand());
    }

    private void noFailedCommand() {
        RiverParcelService x = Scenes.places(1);
        refused("at first", ELEMENT, x::failedCommand);
        Scenes.run(x, "hours");
        refused("behind a program that is fine", ELEMENT, x::failedCommand);
        Checks.outcomeOf(() -> Scenes.run(x, "open 0;!"));
        refused("behind a malformed program", ELEMENT, x::failedCommand);
        Checks.outcomeOf(() -> x.open(0));
        refused("behind a refused call", ELEMENT, x::failedCommand);
        Checks.outcomeOf(() -> Scenes.run(x, "open 0"));
        due("behind a failed command", 0, x.failedCommand());
    }
}
