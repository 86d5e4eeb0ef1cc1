/** The text as a program, and promises 11 to 14: each sentence has a test of its own. */
final class TextEdges extends Edges {
    private static final String TEXT = "Text";
    private static final int MOST_CHARACTERS = 120;

    private TextEdges() {
    }

    static void go() {
        mostCharacters();
        noCommands();
        partsOfACommand();
        giveCommand();
        breakCommand();
        moveCommand();
        passCommand();
        sweepCommand();
        lettersAndDigits();
        otherCharacters();
        numbers();
        spacesMayStand();
        spacesAreNeeded();
        oneByOne();
        wrongToken();
        wrongCall();
        placeOfAToken();
        nothingStays();
        append();
        appendCharacter();
        appendReturns();
        appendWrong();
        appendFull();
        clearText();
        clearTextReturns();
        run();
        runIsOneAction();
        runFails();
        runReturns();
        runReturnsPlace();
        failure();
        failureParts();
        failureReturns();
        failureWrong();
        failureNone();
    }

    private static Story text(String text) {
        return wheel -> {
            wheel.clearText();
            wheel.write(text);
        };
    }

    private static String times(String text, int times) {
        return text.repeat(times);
    }

    /** The program runs through, with so many commands. */
    private static void good(String text, int commands) {
        goodOn(BUSY, text, commands);
    }

    private static void goodOn(Story story, String text, int commands) {
        same("run of '" + text + "'", story.then(text(text)).told().run(), commands);
    }

    /** The program fails at a token. */
    private static void wrongAt(String text, int place) {
        fails(BUSY, text, 1, place, NONE);
    }

    /** The program fails by a call. */
    private static void errorAt(Story story, String text, int place, int code) {
        fails(story, text, 2, place, code);
    }

    private static void fails(Story story, String text, int kind, int place, int code) {
        Counted wheel = story.then(text(text)).told();
        same("run of '" + text + "'", wheel.run(), -1000 - place);
        same("kind of '" + text + "'", wheel.failure(0), kind);
        same("place of '" + text + "'", wheel.failure(1), place);
        same("code of '" + text + "'", wheel.failure(3), code);
    }

    /** The command does what the call does, and is recorded as one action, too. */
    private static void does(Story before, String command, Story.Call call) {
        Story same = before.then(text(command)).then(Counted::clearText);
        alike(command, same.then(call::of), before.then(text(command)).then(Counted::run));
    }

    // ---- the text

    private static void mostCharacters() {
        sentence(TEXT, "A text of at most 120 characters can be run as a program:");
        goodOn(BUSY, times("sweep;", 20), 20);
        goodOn(BUSY, times("pass 1;", 17), 17);
        goodOn(BUSY, times(" ", 114) + "sweep;", 1);
        goodOn(BUSY, "sweep;" + times(" ", 114), 1);
        same("the 120th character is read", BUSY.then(text(times(" ", 119) + "x")).told().run(), -1119);
        refused("the 121st", LONG_TEXT, FULL, wheel -> wheel.append(';'));
        Counted wheel = LONG_TEXT.told();
        wheel.append('x');
        same("the 121st does not belong to it", wheel.run(), 20);
    }

    private static void noCommands() {
        sentence(TEXT, "commands (possibly none),");
        good("", 0);
        good(" ", 0);
        good(times(" ", MOST_CHARACTERS), 0);
        good("sweep;", 1);
    }

    private static void partsOfACommand() {
        sentence(TEXT, "each of which ends with \";\", a word and then numbers:");
        wrongAt("sweep", 5);
        wrongAt("sweep:", 5);
        wrongAt("sweep,", 5);
        wrongAt("pass 1 sweep;", 7);
        wrongAt("1 pass;", 0);
        wrongAt("give 1 2; 0", 8);
        wrongAt("move;4 9", 4);
        wrongAt(";sweep", 0);
        wrongAt("sweep;;", 6);
        good("sweep;sweep;", 2);
    }

    // ---- the commands

    private static void giveCommand() {
        sentence(TEXT, "\"give\" DELAY PERIOD REPETITIONS as give()");
        does(BUSY, "give 1 0 0;", wheel -> wheel.give(1, 0, 0));
        does(BUSY, "give 70 3 5;", wheel -> wheel.give(70, 3, 5));
        does(BUSY, "give 511 511 99;", wheel -> wheel.give(511, 511, 99));
        errorAt(BUSY, "give 0 0 0;", 0, INVALID);
        errorAt(BUSY, "give 512 0 0;", 0, INVALID);
        errorAt(BUSY, "give 1 512 0;", 0, INVALID);
        errorAt(BUSY, "give 1 1 100;", 0, INVALID);
        errorAt(BUSY, "give 1 0 1;", 0, INVALID);
        errorAt(FORTY, "give 1 0 0;", 0, FULL);
        errorAt(FORTY, "give 0 0 0;", 0, INVALID);
        wrongAt("give;", 4);
        wrongAt("give 1;", 6);
        wrongAt("give 1 0;", 8);
        wrongAt("give 1 0 0 0;", 11);
    }

    private static void breakCommand() {
        sentence(TEXT, "\"break\" PROMISE as breakOff()");
        does(BUSY, "break 1;", wheel -> wheel.breakOff(WAITING));
        does(BUSY, "break 2;", wheel -> wheel.breakOff(READY));
        errorAt(BUSY, "break 8;", 0, INVALID);
        errorAt(BUSY, "break 0;", 0, ILLEGAL);
        errorAt(BUSY, "break 7;", 0, ILLEGAL);
        wrongAt("break;", 5);
        wrongAt("break 1 2;", 8);
        wrongAt("breakOff 1;", 5);
        wrongAt("breakoff 1;", 0);
    }

    private static void moveCommand() {
        sentence(TEXT, "\"move\" PROMISE DELAY as move()");
        does(BUSY, "move 1 511;", wheel -> wheel.move(WAITING, 511));
        does(BUSY, "move 6 1;", wheel -> wheel.move(IN_RING_2, 1));
        errorAt(BUSY, "move 8 1;", 0, INVALID);
        errorAt(BUSY, "move 1 0;", 0, INVALID);
        errorAt(BUSY, "move 1 512;", 0, INVALID);
        errorAt(BUSY, "move 0 0;", 0, INVALID);
        errorAt(BUSY, "move 2 1;", 0, ILLEGAL);
        wrongAt("move;", 4);
        wrongAt("move 1;", 6);
        wrongAt("move 1 2 3;", 9);
    }

    private static void passCommand() {
        sentence(TEXT, "\"pass\" TICKS as pass()");
        does(BUSY, "pass 1;", wheel -> wheel.pass(1));
        does(BUSY, "pass 600;", wheel -> wheel.pass(600));
        errorAt(BUSY, "pass 0;", 0, INVALID);
        errorAt(BUSY, "pass 601;", 0, INVALID);
        errorAt(AT_THE_LAST_TICK, "pass 1;", 0, FULL);
        errorAt(AT_THE_LAST_TICK, "pass 601;", 0, INVALID);
        errorAt(wheel -> wheel.passTo(19990), "pass 10;pass 1;", 8, FULL);
        wrongAt("pass;", 4);
        wrongAt("pass 1 1;", 7);
    }

    private static void sweepCommand() {
        sentence(TEXT, "\"sweep\" as sweep()");
        does(BUSY, "sweep;", Counted::sweep);
        does(NEW, "sweep;", Counted::sweep);
        wrongAt("sweep 0;", 6);
        for (String word : new String[] {"set", "take", "restore", "undo", "run", "s", "swee", "clear"}) {
            wrongAt(word + ";", 0);
            wrongAt("sweep;" + word + " 0;", 6);
        }
    }

    // ---- tokens

    private static void lettersAndDigits() {
        sentence(TEXT, "Tokens are maximal runs of letters a to z, maximal runs of digits,");
        wrongAt("sweepsweep;", 0);
        wrongAt("sweepa;", 0);
        wrongAt("sweepz;", 0);
        wrongAt("asweep;", 0);
        wrongAt("zsweep;", 0);
        wrongAt("sweep sweep;", 6);
        wrongAt("swe ep;", 0);
        wrongAt("pass 1 0;", 7);
        wrongAt("give 100;", 8);
        good("pass 10;", 1);
        good("pass 90;", 1);
        same("ten, not one", BUSY.then(wheel -> wheel.runs("pass 10;")).told().count(0), 12);
        same("the digits 0 to 9", BUSY.then(wheel -> {
            wheel.runs("pass 460;pass 135;");
            wheel.runs("pass 289;");
            wheel.runs("pass 7;");
        }).told().count(0), 2 + 460 + 135 + 289 + 7);
        good("pass1;", 1);
        wrongAt("pass 1a;", 6);
        wrongAt("1sweep;", 0);
        wrongAt("sweep1;", 5);
    }

    private static void otherCharacters() {
        sentence(TEXT, "and any other character that is no space.");
        int[] others = {1, 9, 10, 13, 31, 33, '-', '.', '/', ':', '@', 'A', 'P', 'Z', '[', '`', '{', '~',
            127, 128, 160, 223, 255};
        for (int other : others) {
            String sign = String.valueOf((char) other);
            wrongAt(sign + "sweep;", 0);
            wrongAt("sweep" + sign + ";", 5);
            wrongAt("sweep;" + sign, 6);
            wrongAt("pass" + sign + "1;", 4);
            wrongAt("pass 1" + sign + ";", 6);
            wrongAt("swe" + sign + "ep;", 0);
            wrongAt("  " + sign + sign, 2);
        }
        wrongAt("sweep;\u00e9t\u00e9;", 6);
        wrongAt("Sweep;", 0);
        wrongAt("SWEEP;", 0);
        wrongAt("pass -1;", 5);
        wrongAt("pass +1;", 5);
        wrongAt("pass 1.0;", 6);
    }

    private static void numbers() {
        sentence(TEXT, "A number is a run of 1 to 4 digits, the first of several not 0.");
        good("give 1 0 0;", 1);
        good("give 10 10 10;", 1);
        good("give 100 100 9;", 1);
        errorAt(BUSY, "pass 0;", 0, INVALID);
        errorAt(BUSY, "pass 9;pass 1000;", 7, INVALID);
        errorAt(BUSY, "pass 9999;", 0, INVALID);
        errorAt(BUSY, "break 9999;", 0, INVALID);
        wrongAt("pass 10000;", 5);
        wrongAt("pass 00001;", 5);
        wrongAt("pass 99999;", 5);
        wrongAt("pass 4294967297;", 5);
        wrongAt("pass " + times("1", 114) + ";", 5);
        wrongAt("pass 00;", 5);
        wrongAt("pass 01;", 5);
        wrongAt("pass 0600;", 5);
        wrongAt("break 0000;", 6);
        wrongAt("give 1 00 0;", 7);
        wrongAt("give 1 0 00;", 9);
        wrongAt("move 1 05;", 7);
    }

    // ---- spaces

    private static void spacesMayStand() {
        sentence(TEXT, "Spaces (code 32) may stand before, between and after tokens;");
        good("  sweep;", 1);
        good("sweep  ;", 1);
        good("sweep;  ", 1);
        good("   give   9   0   0   ;   sweep   ;   ", 2);
        good(" pass 1 ; pass 1 ; ", 2);
        for (int other : new int[] {9, 10, 11, 12, 13, 31, 33, 160}) {
            wrongAt((char) other + "sweep;", 0);
            wrongAt("sweep;" + (char) other, 6);
            wrongAt("sweep" + (char) other + ";", 5);
        }
        wrongAt("sw eep;", 0);
        wrongAt("pass 1 2;", 7);
    }

    private static void spacesAreNeeded() {
        sentence(TEXT, "they are needed only between two runs of letters and between two runs of digits.");
        good("give9 0 0;break1;move4 9;pass1;sweep;", 5);
        wrongAt("give900;", 7);
        wrongAt("give 9 00;", 7);
        wrongAt("move41;", 6);
        wrongAt("passsweep;", 0);
        wrongAt("pass1sweep;", 5);
        good("pass1;pass1;", 2);
    }

    // ---- how it is run

    private static void oneByOne() {
        sentence(TEXT, "The commands are read and run one by one, each as its \";\" is read.");
        errorAt(BUSY, "pass 0;x", 0, INVALID);
        errorAt(BUSY, "pass 0;;", 0, INVALID);
        errorAt(BUSY, "sweep;break 8;pass 01;", 6, INVALID);
        wrongAt("pass 0 x", 7);
        wrongAt("pass 0", 6);
        wrongAt("pass 0 ", 7);
        wrongAt("pass 0:", 6);
        errorAt(NEW, "give 1 0 0;pass 1;break 0;", 18, ILLEGAL);
        errorAt(NEW, "break 0;give 1 0 0;", 0, INVALID);
        goodOn(NEW, "give 9 0 0;break 0;sweep;pass 9;", 4);
        errorAt(NEW.then(wheel -> wheel.giveMany(38, 9)), "give 1 0 0;give 1 0 0;give 1 0 0;", 22, FULL);
    }

    private static void wrongToken() {
        sentence(TEXT, "A program fails at the first token that is not allowed where it stands (kind 1)");
        wrongAt("x", 0);
        wrongAt("1", 0);
        wrongAt(";", 0);
        wrongAt("!", 0);
        wrongAt("sweeps;", 0);
        wrongAt("swee;", 0);
        wrongAt("pas 1;", 0);
        wrongAt("pass x;", 5);
        wrongAt("pass pass;", 5);
        wrongAt("pass !;", 5);
        wrongAt("pass 12345;", 5);
        wrongAt("pass 1 1;", 7);
        wrongAt("pass 1 x;", 7);
        wrongAt("pass 1 !;", 7);
        wrongAt("sweep;sweep;x;y;", 12);
        wrongAt("sweep x 01 !;", 6);
        wordsThatAreAlmostCommands();
        Counted wheel = BUSY.then(text("pass 1;sweep;pass ;pass ;")).told();
        wheel.run();
        same("two commands were run before", wheel.failure(2), 2);
    }

    /** Each letter of each word matters. */
    private static void wordsThatAreAlmostCommands() {
        String[][] commands = {{"give", " 9 0 0;"}, {"break", " 1;"}, {"move", " 1 9;"}, {"pass", " 1;"}, {"sweep", ";"}};
        for (String[] command : commands) {
            String word = command[0];
            String numbers = command[1];
            good(word + numbers, 1);
            for (int at = 0; at < word.length(); at++) {
                String before = word.substring(0, at);
                String behind = word.substring(at + 1);
                wrongAt(before + "x" + behind + numbers, 0);
                wrongAt(before + behind + numbers, 0);
                wrongAt(before + "x" + word.charAt(at) + behind + numbers, 0);
            }
            wrongAt(word + "x" + numbers, 0);
        }
    }

    private static void wrongCall() {
        sentence(TEXT, "and at the first command whose call returns an error code "
                + "(kind 2; the place is then that of its word).");
        errorAt(BUSY, "break 0;", 0, ILLEGAL);
        errorAt(BUSY, "   break 0;", 3, ILLEGAL);
        errorAt(BUSY, "  pass 1; break   9 ;pass 0;", 10, INVALID);
        errorAt(BUSY, "pass 1;pass 600;pass 601;break 0;", 16, INVALID);
        errorAt(FORTY, "sweep;give 1 0 0;", 6, FULL);
        errorAt(BUSY, times(" ", 112) + "break 0;", 112, ILLEGAL);
        good("break 1;sweep;", 2);
        Counted wheel = BUSY.then(text("pass 1;sweep;break 0;break 0;")).told();
        wheel.run();
        same("two commands were run before", wheel.failure(2), 2);
    }

    private static void placeOfAToken() {
        sentence(TEXT, "The place of a failure is the offset (from 0) of the first character of the token, "
                + "or the length of the text if it ends where something is missing.");
        wrongAt("   xyz", 3);
        wrongAt("pass 1;  xyz;", 9);
        wrongAt("pass   12345;", 7);
        wrongAt("give 1 0 0 xyz", 11);
        String[] missing = {"pass", "pass ", "pass 1", "pass 1   ", "give", "give 1", "give 1 0", "give 1 0 0",
            "give 1 0 0 ", "break", "break 1", "move", "move 1", "move 1 2", "sweep", "sweep;pass", "sweep;sweep "};
        for (String text : missing) {
            wrongAt(text, text.length());
        }
        wrongAt("sweep" + times(" ", 115), MOST_CHARACTERS);
        wrongAt(times("sweep;", 19) + " sweep", MOST_CHARACTERS);
        wrongAt("pass " + times(" ", 114) + "1", MOST_CHARACTERS);
    }

    private static void nothingStays() {
        sentence(TEXT, "If a program fails, nothing that it has done stays (but the failure).");
        String much = "give 1 1 9;break 1;move 4 99;sweep;pass 99;set";
        Story program = BUSY.then(text(much)).then(Counted::run);
        same("five commands were run", program.told().failure(2), 5);
        Story failed = BUSY.then(text(much)).then(wheel -> wheel.runs("!")).then(text(much));
        Story twice = failed.then(Counted::run);
        sameWheel("by a token", BUSY, program);
        sameWheel("by a call", BUSY, BUSY.then(text("pass 9;sweep;break 0;")).then(Counted::run));
        same("the failure stays", twice.told().failure(1), 43);
        alike("the history and the snapshots, too", program, program.then(Counted::run));
        Story emptied = wheel -> {
            wheel.runs("x");
            wheel.runs("sweep;");
            wheel.write("give 9 0 0;x");
        };
        same("undone to before the program", emptied.then(Counted::run).then(Counted::undo).told().count(1), 0);
        same("one state was kept", emptied.then(Counted::run).told().count(12), 1);
    }

    // ---- promise 11

    private static void append() {
        sentence("11", "Appends a character to the text.");
        Counted wheel = new Counted();
        wheel.write("pass ");
        wheel.append('5');
        wheel.append('7');
        wheel.append(';');
        same("in this order", wheel.run(), 1);
        same("these ones", wheel.count(0), 57);
        same("no action", NEW.then(made -> made.append('x')).told().count(12), 0);
        same("also after a failure, which stays", BUSY.then(made -> made.append('y')).told().failure(1), 7);
    }

    private static void appendCharacter() {
        sentence("11", "`character`: character code, 1 to 255");
        for (int character = 1; character <= 255; character++) {
            int code = character;
            answers("code " + code, NEW, 1, wheel -> wheel.append(code));
        }
        for (int code : new int[] {-1, 0, 256, 257}) {
            refused("code " + code, BUSY, INVALID, wheel -> wheel.append(code));
        }
    }

    private static void appendReturns() {
        sentence("11", "Returns the new length of the text;");
        Counted wheel = new Counted();
        for (int length = 1; length <= MOST_CHARACTERS; length++) {
            same("length", wheel.append(' '), length);
        }
        same("after a failing program", BUSY.told().append(' '), 9);
        wheel.clearText();
        same("emptied", wheel.append(1), 1);
        wheel.runs("sweep;");
        same("emptied by run()", wheel.append(255), 1);
    }

    private static void appendWrong() {
        sentence("11", "INVALID_ARGUMENT if character is out of range;");
        for (int code : new int[] {MIN, -32, -1, 0, 256, 288, 65536 + 'a', MAX}) {
            refused("code " + code, BUSY, INVALID, wheel -> wheel.append(code));
            refused("code " + code + ", no room", LONG_TEXT, INVALID, wheel -> wheel.append(code));
        }
    }

    private static void appendFull() {
        sentence("11", "CAPACITY_EXCEEDED if the text already has 120 characters.");
        Story almost = text(times(" ", 119));
        answers("119", almost, MOST_CHARACTERS, wheel -> wheel.append(';'));
        Story full = text(times(" ", MOST_CHARACTERS));
        refused("120", full, FULL, wheel -> wheel.append(' '));
        refused("120, the least code", full, FULL, wheel -> wheel.append(1));
        refused("120, the greatest code", full, FULL, wheel -> wheel.append(255));
        answers("emptied", full.then(Counted::clearText), 1, wheel -> wheel.append(' '));
    }

    // ---- promise 12

    private static void clearText() {
        sentence("12", "Makes the text empty.");
        Counted wheel = BUSY.told();
        wheel.clearText();
        same("its length", wheel.count(13), 0);
        same("nothing is run", wheel.run(), 0);
        wheel.write("sweep;");
        wheel.clearText();
        wheel.write("  ");
        same("nothing of the older text is left", wheel.run(), 0);
        sameWheel("nothing else changes", BUSY, BUSY.then(Counted::clearText));
        same("the failure stays", BUSY.then(Counted::clearText).told().failure(1), 7);
        same("no action", BUSY.then(Counted::clearText).told().count(12), KEPT);
    }

    private static void clearTextReturns() {
        sentence("12", "Returns the previous length of the text.");
        answers("empty", NEW, 0, Counted::clearText);
        answers("one", text("x"), 1, Counted::clearText);
        answers("all", LONG_TEXT, MOST_CHARACTERS, Counted::clearText);
        answers("twice", BUSY.then(Counted::clearText), 0, Counted::clearText);
        answers("after a failing program", BUSY, 8, Counted::clearText);
        answers("after a program", BUSY.then(wheel -> wheel.runs("sweep;")), 0, Counted::clearText);
    }

    // ---- promise 13

    private static void run() {
        sentence("13", "Runs the text as a program.");
        String program = "give 5 2 1;give 9 0 0;move 8 3;break 9;pass 5;sweep;";
        Story calls = BUSY.then(wheel -> {
            wheel.give(5, 2, 1);
            wheel.give(9, 0, 0);
            wheel.move(8, 3);
            wheel.breakOff(9);
            wheel.pass(5);
            wheel.sweep();
        });
        Story ran = BUSY.then(text(program)).then(Counted::run);
        sameWheel("the calls one by one", calls, ran);
        same("promises given", ran.told().count(1), GIVEN + 2);
        alike("the text that stands, not an older one",
                BUSY.then(text("pass 9;")).then(Counted::run),
                BUSY.then(text("pass 100;")).then(text("pass 9;")).then(Counted::run));
    }

    private static void runIsOneAction() {
        sentence("13", "If it does not fail, this is one action, also without commands, "
                + "and the text becomes empty;");
        Story emptied = BUSY.then(Counted::clearText);
        action("without commands", emptied, Counted::run);
        action("one command", emptied, wheel -> wheel.runs("pass 1;"));
        action("twenty commands", emptied, wheel -> wheel.runs(times("sweep;", 20)));
        action("each command", emptied, wheel -> wheel.runs("give 9 0 0;move 8 3;break 8;pass 2;sweep;"));
        action("spaces alone", emptied, wheel -> wheel.runs("   "));
        same("the text is empty", BUSY.then(wheel -> wheel.runs("pass 1;")).told().count(13), 0);
        same("spaces are gone, too", BUSY.then(wheel -> wheel.runs("   ")).told().count(13), 0);
        Counted wheel = emptied.told();
        same("run", wheel.runs("pass 1;pass 1;"), 2);
        same("run again: nothing is left", wheel.run(), 0);
        same("the present tick", wheel.count(0), 4);
    }

    private static void runFails() {
        sentence("13", "if it fails, the text is kept.");
        Counted wheel = BUSY.told();
        for (int time = 0; time < 3; time++) {
            same("it fails again", wheel.run(), -1007);
            same("its length", wheel.count(13), 8);
        }
        same("no state is kept", wheel.count(12), KEPT);
        Counted mended = BUSY.then(text("pass 1")).told();
        same("something is missing", mended.run(), -1006);
        mended.append(';');
        same("appended, it runs", mended.run(), 1);
        Counted call = BUSY.then(text("break 0;")).told();
        same("a wrong call", call.run(), -1000);
        same("kept, too", call.count(13), 8);
    }

    private static void runReturns() {
        sentence("13", "Returns the number of commands;");
        good("", 0);
        good("sweep;", 1);
        good("give 1 0 0;pass 1;", 2);
        good("pass 600;pass 600;pass 600;", 3);
        good(times("sweep;", 20), 20);
    }

    private static void runReturnsPlace() {
        sentence("13", "-1000 minus the place of the failure if it fails.");
        answers("place 0", text("x"), -1000, Counted::run);
        answers("place 1", text(" x"), -1001, Counted::run);
        answers("place 119", text(times(" ", 119) + "x"), -1119, Counted::run);
        answers("place 120", text(times(" ", 115) + "sweep"), -1120, Counted::run);
        answers("a wrong call at 7", text("pass 1;pass 0;"), -1007, Counted::run);
        answers("a wrong call at 0", text("pass 0;"), -1000, Counted::run);
    }

    // ---- promise 14

    private static void failure() {
        sentence("14", "Returns a part of the latest failure of a program "
                + "(which stays when a later one does not fail).");
        Counted wheel = BUSY.told();
        wheel.runs("sweep;pass 1;");
        failureIs("a later one does not fail", wheel, 1, 7, 1, NONE);
        wheel.runs("");
        failureIs("a later one is empty", wheel, 1, 7, 1, NONE);
        wheel.undo();
        wheel.restore(1);
        wheel.clearText();
        failureIs("undo, restore, clearText", wheel, 1, 7, 1, NONE);
        wheel.runs("sweep;sweep; break 8;");
        failureIs("the latest", wheel, 2, 13, 2, INVALID);
        wheel.runs("?");
        failureIs("the latest", wheel, 1, 0, 0, NONE);
    }

    private static void failureIs(String what, Counted wheel, int kind, int place, int before, int code) {
        same(what + ", kind", wheel.failure(0), kind);
        same(what + ", place", wheel.failure(1), place);
        same(what + ", commands before", wheel.failure(2), before);
        same(what + ", code", wheel.failure(3), code);
    }

    private static void failureParts() {
        sentence("14", "`what`: 0 its kind, 1 its place, 2 the number of commands that had been run before it, "
                + "3 the error code of the call (NONE for the kind 1)");
        Counted wheel = BUSY.told();
        wheel.runs("x");
        failureIs("a first token", wheel, 1, 0, 0, NONE);
        wheel.runs("break 0;");
        failureIs("a first call", wheel, 2, 0, 0, ILLEGAL);
        wheel.runs("pass 1;pass 601;");
        failureIs("a second call", wheel, 2, 7, 1, INVALID);
        wheel.runs(times("sweep;", 19) + "sweep");
        failureIs("the end", wheel, 1, 119, 19, NONE);
        wheel.clearText();
        Counted full = FORTY.told();
        full.runs("sweep; give 1 0 0;");
        failureIs("no room", full, 2, 7, 1, FULL);
    }

    private static void failureReturns() {
        sentence("14", "Returns the part;");
        answers("kind", BUSY, 1, wheel -> wheel.failure(0));
        answers("place", BUSY, 7, wheel -> wheel.failure(1));
        answers("commands before", BUSY, 1, wheel -> wheel.failure(2));
        answers("code", BUSY, NONE, wheel -> wheel.failure(3));
    }

    private static void failureWrong() {
        sentence("14", "INVALID_ARGUMENT if what is out of range;");
        for (int what : new int[] {MIN, -1, 4, 5, MAX}) {
            refused("what " + what, BUSY, INVALID, wheel -> wheel.failure(what));
            refused("what " + what + ", no failure yet", NEW, INVALID, wheel -> wheel.failure(what));
        }
    }

    private static void failureNone() {
        sentence("14", "NONE if there was no failure yet.");
        Story none = wheel -> {
            wheel.runs("pass 1;");
            wheel.pass(0);
            wheel.append(0);
        };
        for (int number = 0; number <= 3; number++) {
            int what = number;
            unchanged("what " + what, NEW, NONE, wheel -> wheel.failure(what));
            unchanged("what " + what + ", only calls have failed", none, NONE, wheel -> wheel.failure(what));
        }
    }
}
