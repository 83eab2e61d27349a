import java.util.Objects;

/**
 * Compares the class with the model on random texts and searches: the seeds are always the same. With
 * arguments (sort, first seed, how many) it goes on for longer: sorts are typed, webs, deep, bounds,
 * programs, faults, runs.
 */
public final class ModelTest {
    private static final long STACK = 1L << 28;
    /** An object is fed no more in its 512 calls. */
    private static final int MOST_BYTES = 10240;
    private static final int MOST_ACTIONS = 40;

    private static int same;
    private static int tooLong;
    private static int values;
    private static final Checks CHECKS = new Checks();

    private Tongue tongue;
    private Model model;
    /** The first difference. */
    private String difference;

    public static void main(String[] args) throws InterruptedException {
        Thread thread = new Thread(null, () -> run(args), "model", STACK);
        thread.start();
        thread.join();
        System.out.println(same + " are the same, with " + values + " values; " + tooLong + " took too long");
        CHECKS.end();
    }

    private static void run(String[] args) {
        if (args.length == 3) {
            compareAll(args[0], Long.parseLong(args[1]), Integer.parseInt(args[2]));
            return;
        }
        compareAll("typed", 1, 1200);
        compareAll("webs", 1, 1200);
        compareAll("deep", 1, 2000);
        compareAll("bounds", 1, 25);
        compareAll("faults", 1, 2000);
        compareAll("programs", 1, 1200);
        compareAll("runs", 1, 300);
    }

    private static void compareAll(String sort, long first, int count) {
        for (long seed = first; seed < first + count; seed++) {
            ModelTest test = new ModelTest();
            String what = "";
            try {
                what = test.compare(sort, seed);
            } catch (ModelPath.TooLong e) {
                tooLong++;
            } catch (RuntimeException | StackOverflowError e) {
                test.difference = "throws " + e;
            }
            CHECKS.same(sort + " " + seed + "\n" + what, test.difference, null);
            same += test.difference == null ? 1 : 0;
        }
    }

    /** Answers what was compared. */
    private String compare(String sort, long seed) {
        tongue = new Tongue();
        model = new Model();
        switch (sort) {
            case "typed":
                RandomTexts texts = new RandomTexts(seed);
                String functions = texts.functions(texts.upTo(4));
                compareModule(RandomTexts.MODULE + functions);
                compareFunctions();
                String typed = texts.query(2 + texts.upTo(4));
                compareSearch(texts.upTo(3), 1 + texts.upTo(5), typed);
                return functions + typed;
            case "webs":
                RandomWebs webs = new RandomWebs(seed);
                compareModule(RandomTexts.MODULE);
                String web = webs.web();
                compareSearch(webs.upTo(3), 1 + webs.upTo(8), web);
                return web;
            case "deep":
                RandomDeep deeps = new RandomDeep(seed);
                compareModule(RandomDeep.MODULE);
                String deep = deeps.deep();
                compareSearch(deeps.upTo(3), 1 + deeps.upTo(8), deep);
                return deep;
            case "bounds":
                RandomBounds bounds = new RandomBounds(seed);
                compareModule(RandomTexts.MODULE + RandomBounds.MORE);
                String bounded = bounds.bounded();
                compareSearch(bounds.upTo(3), 1 + bounds.upTo(bounds.upTo(2) == 0 ? 20 : 1000), bounded);
                return bounded;
            case "programs":
                return comparePrograms(new RandomPrograms(seed), new RandomFaults(seed));
            case "runs":
                return compareRun(new RandomFaults(seed));
            default:
                return compareFaults(new RandomFaults(seed));
        }
    }

    private String compareFaults(RandomFaults faults) {
        if (faults.upTo(2) == 0) {
            String module = faults.faultyModule();
            compareModule(module);
            compareFunctions();
            return module;
        }
        compareModule(RandomTexts.MODULE);
        String query = faults.faultyQuery();
        compare("ask", tongue.ask(0, 1, query), model.ask(0, 1, query));
        compare("fault", tongue.tongue.fault(), model.fault);
        compare("type", tongue.show(3, 0), model.show(3, 0));
        return query;
    }

    /** A module of its own, and some Queries in it; sometimes with a fault. */
    private String comparePrograms(RandomPrograms programs, RandomFaults faults) {
        String module = programs.module();
        if (faults.upTo(6) == 0) {
            module = faults.change(module);
        }
        compareModule(module);
        compareFunctions();
        StringBuilder text = new StringBuilder(module);
        for (int i = 0; i < 4 && difference == null; i++) {
            String good = programs.query(1 + programs.upTo(4));
            String query = faults.upTo(6) == 0 ? faults.change(good) : good;
            text.append('\n').append(query);
            int way = programs.upTo(3);
            compareSearch(way, 1 + programs.upTo(5), query);
        }
        return text.toString();
    }

    /** One object, with modules and Queries, good ones and others, as long as its bytes last. */
    private String compareRun(RandomFaults texts) {
        StringBuilder run = new StringBuilder();
        int bytes = MOST_BYTES;
        for (int i = 0; i < MOST_ACTIONS && difference == null; i++) {
            boolean asks = i > 0 && texts.upTo(4) > 0;
            String text = asks ? texts.anyQuery() : texts.anyModule();
            bytes -= text.length() + 20;
            if (bytes < 0) {
                break;
            }
            run.append(asks ? "\nask " : "\nmodule ").append(text);
            if (asks) {
                int way = texts.upTo(3);
                int bound = 1 + texts.upTo(5);
                compare("ask", tongue.ask(way, bound, text), model.ask(way, bound, text));
            } else {
                compare("module", tongue.module(text), model.module(text));
                compareFunctions();
            }
            compare("fault", tongue.tongue.fault(), model.fault);
            compareState();
            for (int j = texts.upTo(4); j > 0 && difference == null; j--) {
                compareNext();
            }
        }
        return run.toString();
    }

    private void compareNext() {
        if (model.search == null) {
            compare("no search", tongue.refusesNext(), true);
        } else {
            int next = model.search.next();
            compare("next", tongue.tongue.next(), next);
            values += next == 1 ? 1 : 0;
        }
        compareState();
    }

    private void compareState() {
        for (int what = 3; what <= 13; what++) {
            compare("count " + what, (long) tongue.tongue.count(what), model.count(what));
        }
        compare("type", tongue.show(3, 0), model.show(3, 0));
        compare("value", tongue.show(5, 0), model.show(5, 0));
        for (int i = 0; i <= model.count(13); i++) {
            compare("name " + i, tongue.show(4, i), model.show(4, i));
            compare("value of name " + i, tongue.show(6, i), model.show(6, i));
        }
    }

    private void compare(String what, Object got, Object due) {
        if (difference == null && !Objects.equals(got, due)) {
            difference = what + " is " + got + ", in the model " + due;
        }
    }

    private void compareModule(String text) {
        compare("module", tongue.module(text), model.module(text));
        compare("fault", tongue.tongue.fault(), model.fault);
    }

    private void compareFunctions() {
        compare("functions", (long) tongue.tongue.count(0), model.count(0));
        for (int f = 0; f < model.count(0); f++) {
            for (int what = 0; what <= 2; what++) {
                compare("show " + what + " of function " + f, tongue.show(what, f), model.show(what, f));
            }
            for (int what = 0; what <= 5; what++) {
                compare("fact " + what + " of function " + f, tongue.tongue.fact(f, what), model.fact(f, what));
            }
        }
    }

    private void compareSearch(int way, int bound, String text) {
        int answer = model.ask(way, bound, text);
        compare("ask", tongue.ask(way, bound, text), answer);
        compare("fault", tongue.tongue.fault(), model.fault);
        compare("type", tongue.show(3, 0), model.show(3, 0));
        boolean more = answer == 0;
        while (more && difference == null) {
            int next = model.search.next();
            compare("next", tongue.tongue.next(), next);
            for (int what = 3; what <= 13; what++) {
                compare("count " + what, (long) tongue.tongue.count(what), model.count(what));
            }
            compareValue();
            more = next == 1;
            values += next == 1 ? 1 : 0;
        }
    }

    private void compareValue() {
        compare("value", tongue.show(5, 0), model.show(5, 0));
        for (int i = 0; i <= model.count(13); i++) {
            compare("name " + i, tongue.show(4, i), model.show(4, i));
            compare("value of name " + i, tongue.show(6, i), model.show(6, i));
        }
        StringBuilder decisions = new StringBuilder();
        for (int decision : model.search.decisions) {
            decisions.append(' ').append(decision);
        }
        compare("decisions", tongue.decisions(), decisions.toString());
    }
}
