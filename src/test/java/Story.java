/** Calls on a new wheel. It can be told to several wheels, which are twins then. */
interface Story {
    void tell(Counted wheel);

    default Story then(Story more) {
        return wheel -> {
            tell(wheel);
            more.tell(wheel);
        };
    }

    default Counted told() {
        Counted wheel = new Counted();
        tell(wheel);
        return wheel;
    }

    /** One call, whose answer matters. */
    interface Call {
        int of(Counted wheel);
    }
}
