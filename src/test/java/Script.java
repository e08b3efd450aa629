/** Calls that bring a new object into a state. Done again on another new object, they bring it into the same one. */
interface Script {
    void on(Counted x);

    static Counted fresh(Script script) {
        Counted x = new Counted();
        script.on(x);
        return x;
    }

    static Script both(Script first, Script then) {
        return x -> {
            first.on(x);
            then.on(x);
        };
    }
}
