/** Steps that can be taken again, on another router. */
interface Steps {
    Steps NONE = x -> { };

    void on(Router x);

    static Steps of(String... calls) {
        return x -> x.does(calls);
    }

    default Steps then(String... calls) {
        return x -> {
            on(x);
            x.does(calls);
        };
    }

    /** A new router that has taken these steps. */
    default Router taken() {
        Router x = new Router();
        on(x);
        return x;
    }

    /** The model after these steps. */
    default Router takenByModel() {
        Router x = new Router(new Model());
        on(x);
        return x;
    }
}
