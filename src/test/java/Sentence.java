/** A sentence of the document, or a part of one: what is wrong by it is told with its words. */
final class Sentence {
    private final Check check;
    private final String name;
    private boolean tested = false;

    Sentence(Check check, String name) {
        this.check = check;
        this.name = name;
    }

    void due(String what, Object got, Object want) {
        tested = true;
        check.due(name + ": " + what, got, want);
    }

    void due(String what, Check.Call call, Object want) {
        due(what, Check.told(call), want);
    }

    boolean isTested() {
        return tested;
    }

    @Override
    public String toString() {
        return name;
    }
}
