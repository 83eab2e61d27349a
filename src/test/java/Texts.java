/**
 * Texts that are judged by new objects. Where a fault is due, its place is told in the text by a
 * sign that no text has: AT.
 */
final class Texts {
    static final String AT = "\u00b6";

    private final Checks checks;
    /** A module that stands ahead of Queries. */
    private String module = "";

    Texts(Checks checks) {
        this.checks = checks;
    }

    void behind(String newModule) {
        module = newModule;
    }

    void goodModule(String text) {
        checks.same("module " + text, Tongue.judgeModule(text), "good");
    }

    void goodQuery(String text) {
        checks.same("query " + text, Tongue.judgeQuery(module, text), "good");
    }

    void faultOfModule(int kind, String text) {
        checks.same("module " + text, Tongue.judgeModule(text.replace(AT, "")), kind + " at " + text.indexOf(AT));
    }

    void faultOfQuery(int kind, String text) {
        checks.same("query " + text, Tongue.judgeQuery(module, text.replace(AT, "")), kind + " at " + text.indexOf(AT));
    }

    /** The type of a Query that is good. */
    void type(String text, String type) {
        Tongue t = Tongue.with(module);
        t.askGood(0, 1, text);
        checks.same("type of " + text, t.show(3, 0), type);
    }

    /** A Query that is good, and its VALUES. */
    void all(String text, String values) {
        checks.same("all of " + text, Tongue.with(module).all(text), values);
    }

    /** A Query, its first VALUE, and what that cost: LABOUR, STEPS, DECISIONS, BINDINGS. */
    void cost(String text, String value) {
        checks.same("cost of " + text, Tongue.with(module).cost(text), value);
    }
}
