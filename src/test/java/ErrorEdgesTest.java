import java.util.LinkedHashMap;
import java.util.Map;
import java.util.function.Function;
import java.util.function.Supplier;
import java.util.function.ToIntFunction;

/** "Terms", Errors: a call that returns an error code changes nothing, and returns the one that is listed first. */
public final class ErrorEdgesTest {
    private static final int INVALID = Checks.INVALID;
    private static final int FULL = Checks.FULL;
    private static final int ILLEGAL = Checks.ILLEGAL;
    private static final int NONE = Checks.NONE;
    private static final int[] OUT_OF_TEN = {-1, 10, Integer.MIN_VALUE, Integer.MAX_VALUE};

    /** Objects that a refused call meets: each is made anew for each call. */
    private static final Map<String, Supplier<CrustBlocks>> OBJECTS = new LinkedHashMap<>();

    /** Ways to look at an object; each of them spoils it for the others. */
    private static final Map<String, Function<CrustBlocks, String>> LOOKS = new LinkedHashMap<>();

    public static void main(String[] args) {
        OBJECTS.put("new", CrustBlocks::new);
        OBJECTS.put("rich", ErrorEdgesTest::rich);
        OBJECTS.put("crowded", ErrorEdgesTest::crowded);
        LOOKS.put("what is seen", ErrorEdgesTest::seen);
        for (int n = 1; n <= 6; n++) {
            int times = n;
            LOOKS.put(n + " times undo", x -> undone(x, times));
        }
        LOOKS.put("what is recorded from then on", ErrorEdgesTest::recorded);
        LOOKS.put("snapshot 0", x -> x.restore(0) + " " + Checks.seen(x));
        LOOKS.put("snapshot 1", x -> x.restore(1) + " " + Checks.seen(x));
        LOOKS.put("the text", x -> x.load() + " " + Checks.seen(x));
        LOOKS.put("the steps to come", x -> x.run(1) + " " + Checks.seen(x));
        Checks.sentence("The constants", ErrorEdgesTest::constants);
        Checks.sentence("A call that returns an error code changes nothing: INVALID_ARGUMENT",
            ErrorEdgesTest::invalidArguments);
        Checks.sentence("A call that returns an error code changes nothing: looking with INVALID_ARGUMENT",
            ErrorEdgesTest::invalidLooking);
        Checks.sentence("A call that returns an error code changes nothing: ILLEGAL_STATE", ErrorEdgesTest::illegalStates);
        Checks.sentence("A call that returns an error code changes nothing: CAPACITY_EXCEEDED", ErrorEdgesTest::noCapacity);
        Checks.sentence("A call that returns an error code changes nothing: errors of a text",
            ErrorEdgesTest::errorsOfATextChangeNothing);
        Checks.sentence("NONE changes nothing either", ErrorEdgesTest::noSuchValue);
        Checks.sentence("the one that its description lists first: addLayer", ErrorEdgesTest::orderOfAddLayer);
        Checks.sentence("the one that its description lists first: run", ErrorEdgesTest::orderOfRun);
        Checks.sentence("the one that its description lists first: restore", ErrorEdgesTest::orderOfRestore);
        Checks.sentence("the one that its description lists first: append", ErrorEdgesTest::orderOfAppend);
        Checks.sentence("NONE is returned only if no error condition applies: layer", ErrorEdgesTest::orderOfLayer);
        Checks.sentence("NONE is returned only if no error condition applies: valley", ErrorEdgesTest::orderOfValley);
        Checks.end();
    }

    /** Two snapshots, five states, a right text, other settings, some steps, bases out of balance. */
    private static CrustBlocks rich() {
        CrustBlocks x = Checks.loaded("0:r24*3000;1:s*50;4:i*9+r31*2000;9:" + Checks.rocks(7, 30) + ";");
        x.take(0);
        x.set(1, 30);
        x.run(3);
        x.removeLayer(4, 0);
        x.take(1);
        x.set(3, 120);
        x.addLayer(6, 0, 1, 22, 700);
        Checks.write(x, "2:r30*800+i*7;0:s*5;");
        return x;
    }

    /** No room for anything: block 3 has 8 layers, 1000 steps are made, and the text has 140 characters. */
    private static CrustBlocks crowded() {
        CrustBlocks x = Checks.loaded("3:" + Checks.rocks(8, 500) + ";4:r25*900;");
        x.set(1, 0);
        x.set(3, 0);
        x.take(1);
        for (int n = 0; n < 20; n++) {
            x.run(50);
        }
        Checks.write(x, "4:i*6;");
        for (int n = x.count(13); n < 140; n++) {
            x.append(32);
        }
        return x;
    }

    private static String seen(CrustBlocks x) {
        StringBuilder told = new StringBuilder(Checks.seen(x)).append(x.count(12)).append(' ').append(x.count(13));
        for (int block = 0; block < 10; block++) {
            told.append(' ').append(x.topIn(block, 2)).append(' ').append(x.stepsToBalance(block));
        }
        return told.toString();
    }

    private static String undone(CrustBlocks x, int times) {
        StringBuilder told = new StringBuilder();
        for (int n = 0; n < times; n++) {
            told.append(x.undo()).append(' ');
        }
        return told.append(Checks.seen(x)).toString();
    }

    /** What is dropped when more is recorded tells how the history lies. */
    private static String recorded(CrustBlocks x) {
        StringBuilder told = new StringBuilder();
        for (int n = 0; n < 6; n++) {
            told.append(x.set(0, n)).append(' ').append(x.count(12)).append(' ');
        }
        return told.append(undone(x, 6)).toString();
    }

    private static void dueRefused(String object, String call, int answer, ToIntFunction<CrustBlocks> refused) {
        for (Map.Entry<String, Function<CrustBlocks, String>> look : LOOKS.entrySet()) {
            CrustBlocks x = OBJECTS.get(object).get();
            Checks.is(object + ", " + call, refused.applyAsInt(x), answer);
            String untouched = look.getValue().apply(OBJECTS.get(object).get());
            Checks.dueSame(call + " of " + object + " alters " + look.getKey(), look.getValue().apply(x), untouched);
        }
    }

    private static void dueInvalid(String call, ToIntFunction<CrustBlocks> refused) {
        for (String object : OBJECTS.keySet()) {
            dueRefused(object, call, INVALID, refused);
        }
    }

    private static void constants() {
        Checks.is("INVALID_ARGUMENT", CrustBlocks.INVALID_ARGUMENT, -100000001);
        Checks.is("ILLEGAL_STATE", CrustBlocks.ILLEGAL_STATE, -100000002);
        Checks.is("CAPACITY_EXCEEDED", CrustBlocks.CAPACITY_EXCEEDED, -100000003);
        Checks.is("NONE", CrustBlocks.NONE, -100000009);
    }

    private static void invalidArguments() {
        for (int w : OUT_OF_TEN) {
            dueInvalid("addLayer, block " + w, x -> x.addLayer(w, 0, 0, 9, 1));
            dueInvalid("addLayer, layer " + w, x -> x.addLayer(4, w, 0, 9, 1));
            dueInvalid("removeLayer, block " + w, x -> x.removeLayer(w, 0));
            dueInvalid("removeLayer, layer " + w, x -> x.removeLayer(4, w));
        }
        for (int w : new int[] {-1, 3, Integer.MIN_VALUE, Integer.MAX_VALUE}) {
            dueInvalid("addLayer, kind " + w, x -> x.addLayer(0, 0, w, 24, 1));
            dueInvalid("strip " + w, x -> x.strip(w));
        }
        for (int w : new int[] {8, 10, 22, Integer.MIN_VALUE, Integer.MAX_VALUE}) {
            dueInvalid("addLayer, density " + w, x -> x.addLayer(0, 0, 0, w, 1));
        }
        for (int w : new int[] {-1, 0, 10000, Integer.MIN_VALUE, Integer.MAX_VALUE}) {
            dueInvalid("addLayer, thickness " + w, x -> x.addLayer(0, 0, 0, 9, w));
        }
        for (int w : new int[] {-1, 5, Integer.MIN_VALUE, Integer.MAX_VALUE}) {
            dueInvalid("set " + w, x -> x.set(w, 50));
        }
        int[][] values = {{-5001, 10000}, {-1, 501}, {-1, 501}, {-1, 201}, {0, 101}};
        for (int what = 0; what <= 4; what++) {
            int setting = what;
            for (int w : values[what]) {
                dueInvalid("set " + what + " to " + w, x -> x.set(setting, w));
            }
        }
        for (int w : new int[] {-1, 0, 51, Integer.MIN_VALUE, Integer.MAX_VALUE}) {
            dueInvalid("run " + w, x -> x.run(w));
        }
        for (int w : new int[] {-1, 2, Integer.MIN_VALUE, Integer.MAX_VALUE}) {
            dueInvalid("take " + w, x -> x.take(w));
            dueInvalid("restore " + w, x -> x.restore(w));
        }
        for (int w : new int[] {-1, 0, 256, Integer.MIN_VALUE, Integer.MAX_VALUE}) {
            dueInvalid("append " + w, x -> x.append(w));
        }
    }

    private static void invalidLooking() {
        for (int w : OUT_OF_TEN) {
            dueInvalid("block " + w, x -> x.block(w, 0));
            dueInvalid("layer, block " + w, x -> x.layer(w, 0, 0));
            dueInvalid("density, block " + w, x -> x.density(w, 0));
            dueInvalid("pressure, block " + w, x -> x.pressure(w, 0));
            dueInvalid("why " + w, x -> x.why(w));
            dueInvalid("valley " + w, x -> x.valley(w));
            dueInvalid("stepsToBalance " + w, x -> x.stepsToBalance(w));
            dueInvalid("bareTop " + w, x -> x.bareTop(w));
            dueInvalid("topIn, block " + w, x -> x.topIn(w, 100));
        }
        for (int w : new int[] {-1, Integer.MIN_VALUE, Integer.MAX_VALUE}) {
            dueInvalid("count " + w, x -> x.count(w));
            dueInvalid("block, what " + w, x -> x.block(4, w));
            dueInvalid("layer, what " + w, x -> x.layer(4, 0, w));
            dueInvalid("account " + w, x -> x.account(w));
            dueInvalid("topIn, steps " + w, x -> x.topIn(4, w));
            dueInvalid("uneven, depth " + w, x -> x.uneven(w, 0));
            dueInvalid("uneven, what " + w, x -> x.uneven(0, w));
            dueInvalid("density, height " + w, x -> x.density(4, w == -1 ? -100000 : w));
            dueInvalid("pressure, depth " + w, x -> x.pressure(4, w));
        }
        dueInvalid("count 14", x -> x.count(14));
        dueInvalid("block, what 7", x -> x.block(4, 7));
        dueInvalid("layer, what 4", x -> x.layer(4, 0, 4));
        dueInvalid("layer -1", x -> x.layer(4, -1, 0));
        dueInvalid("account 8", x -> x.account(8));
        dueInvalid("topIn, 101 steps", x -> x.topIn(4, 101));
        dueInvalid("uneven, depth 100000", x -> x.uneven(100000, 0));
        dueInvalid("uneven, what 3", x -> x.uneven(0, 3));
        dueInvalid("density, height 100000", x -> x.density(4, 100000));
        dueInvalid("pressure, depth 100000", x -> x.pressure(4, 100000));
    }

    private static void illegalStates() {
        dueRefused("new", "restore 0", ILLEGAL, x -> x.restore(0));
        dueRefused("new", "restore 1", ILLEGAL, x -> x.restore(1));
        dueRefused("new", "undo", ILLEGAL, x -> x.undo());
        dueRefused("crowded", "restore 0", ILLEGAL, x -> x.restore(0));
        CrustBlocks x = rich();
        for (int n = 0; n < 5; n++) {
            x.undo();
        }
        Checks.is("states", x.count(12), 0);
        String before = seen(x);
        Checks.is("undo", x.undo(), ILLEGAL);
        Checks.dueSame("undo of an empty history alters nothing", seen(x), before);
    }

    private static void noCapacity() {
        dueRefused("crowded", "addLayer", FULL, x -> x.addLayer(3, 0, 0, 9, 1));
        dueRefused("crowded", "addLayer at the bottom", FULL, x -> x.addLayer(3, 8, 2, 32, 9999));
        dueRefused("crowded", "run 1", FULL, x -> x.run(1));
        dueRefused("crowded", "run 50", FULL, x -> x.run(50));
        dueRefused("crowded", "append", FULL, x -> x.append(59));
    }

    private static void errorsOfATextChangeNothing() {
        String[] texts = {"x", "0:", "0:;4:i*1+", "4:;0:i*1;3:r33*1;", "4:;3:i*1+i*1+i*1+i*1+i*1+i*1+i*1+i*1+i*1;",
            "9:s*1;8:s*0"};
        int[] positions = {0, 2, 9, 12, 37, 10};
        for (int n = 0; n < texts.length; n++) {
            String text = texts[n];
            int position = positions[n];
            for (String object : new String[] {"new", "rich", "crowded"}) {
                Supplier<CrustBlocks> plain = OBJECTS.get(object);
                OBJECTS.put("with a wrong text", () -> {
                    CrustBlocks x = plain.get();
                    x.clearText();
                    Checks.write(x, text);
                    return x;
                });
                dueRefused("with a wrong text", "load of " + text, Checks.TEXT_ERROR - position, x -> x.load());
                dueRefused("with a wrong text", "two loads of " + text, Checks.TEXT_ERROR - position,
                    x -> Math.max(x.load(), x.load()));
                OBJECTS.remove("with a wrong text");
            }
        }
    }

    private static void noSuchValue() {
        for (String object : OBJECTS.keySet()) {
            dueRefused(object, "a ninth layer", NONE, x -> x.layer(3, 8, 0));
            dueRefused(object, "a layer far below", NONE, x -> x.layer(9, Integer.MAX_VALUE, 3));
        }
        dueRefused("new", "valley", NONE, x -> x.valley(5));
        dueRefused("rich", "valley", NONE, x -> x.valley(2));
        dueRefused("crowded", "valley", NONE, x -> x.valley(0));
    }

    private static void orderOfAddLayer() {
        CrustBlocks x = crowded();
        Checks.is("a full block alone", x.addLayer(3, 8, 0, 9, 1), FULL);
        Checks.is("a wrong layer", x.addLayer(3, 9, 0, 9, 1), INVALID);
        Checks.is("a negative layer", x.addLayer(3, -1, 0, 9, 1), INVALID);
        Checks.is("a wrong kind", x.addLayer(3, 0, 3, 9, 1), INVALID);
        Checks.is("a negative kind", x.addLayer(3, 0, -1, 9, 1), INVALID);
        Checks.is("a wrong density of ice", x.addLayer(3, 0, 0, 22, 1), INVALID);
        Checks.is("a wrong density of sediment", x.addLayer(3, 0, 1, 9, 1), INVALID);
        Checks.is("a wrong density of rock", x.addLayer(3, 0, 2, 33, 1), INVALID);
        Checks.is("too thin", x.addLayer(3, 0, 0, 9, 0), INVALID);
        Checks.is("too thick", x.addLayer(3, 0, 0, 9, 10000), INVALID);
        Checks.is("no such block", x.addLayer(10, 0, 0, 9, 1), INVALID);
    }

    private static void orderOfRun() {
        CrustBlocks x = crowded();
        Checks.is("no step is left", x.run(1), FULL);
        Checks.is("0", x.run(0), INVALID);
        Checks.is("51", x.run(51), INVALID);
        Checks.is("so many that the sum wraps around", x.run(Integer.MAX_VALUE), INVALID);
        Checks.is("negative", x.run(-1), INVALID);
    }

    private static void orderOfRestore() {
        CrustBlocks x = new CrustBlocks();
        Checks.is("an empty place", x.restore(0), ILLEGAL);
        Checks.is("no such place", x.restore(2), INVALID);
        Checks.is("no such place", x.restore(-1), INVALID);
    }

    private static void orderOfAppend() {
        CrustBlocks x = crowded();
        Checks.is("a full text", x.append(1), FULL);
        Checks.is("a full text", x.append(255), FULL);
        Checks.is("0", x.append(0), INVALID);
        Checks.is("256", x.append(256), INVALID);
        Checks.is("negative", x.append(-1), INVALID);
    }

    private static void orderOfLayer() {
        CrustBlocks x = crowded();
        for (int layer : new int[] {0, 8, Integer.MAX_VALUE}) {
            Checks.is("not so many", x.layer(0, layer, 0), NONE);
            Checks.is("a wrong what", x.layer(0, layer, 4), INVALID);
            Checks.is("a negative what", x.layer(0, layer, -1), INVALID);
            Checks.is("no such block", x.layer(10, layer, 0), INVALID);
            Checks.is("a negative block", x.layer(-1, layer, 0), INVALID);
        }
        Checks.is("a negative layer of a block without layers", x.layer(0, -1, 0), INVALID);
    }

    private static void orderOfValley() {
        CrustBlocks x = new CrustBlocks();
        Checks.is("no neighbor is lower", x.valley(0), NONE);
        Checks.is("no such block", x.valley(-1), INVALID);
        Checks.is("no such block", x.valley(10), INVALID);
    }
}
